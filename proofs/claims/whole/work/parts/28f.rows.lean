section ROY
variable {z : Nat}
theorem nI_tI {n : Nat} (h : n < 2147483648) : (nI n).toInt = n := by rw [nI_iI, iI_toInt (by omega) (by omega)]
theorem nI_to64 {n : Nat} (h : n < 2147483648) : (nI n).toInt64.toInt = n := by rw [Int32.toInt_toInt64, nI_tI h]
theorem lgc {k n m : Nat} (hk : k < 2147483648) (hn : n < 2147483648) (hm : m < 2147483648) : lg_cmp ((nI k).toInt64 + (nI n).toInt64) (nI m).toInt64 ≤ 0 ↔ k + n ≤ m := by
  rw [lg_cmp_le, Int64.le_iff_toInt_le, lg_i2l_add, nI_tI hk, nI_tI hn, nI_to64 hm]
  omega
theorem lgc2 {k n m : Nat} (hk : k < 2147483648) (hn : n < 2147483648) (hm : m < 2147483648) : 0 < lg_cmp ((nI k).toInt64 + (nI n).toInt64) (nI m).toInt64 ↔ m < k + n := by
  rw [lg_cmp_gt, Int64.lt_iff_toInt_lt, lg_i2l_add, nI_tI hk, nI_tI hn, nI_to64 hm]
  omega
theorem cp1_L {g : Hp} (h : SM g) {i a j b n : Nat} (hi : i < 10) (ha : a + n ≤ 30) : ∀ (m v : Nat) (V1 : VV), v ≤ n → n - v < m → ∃ V2, f_X9_copy_106_L z (some (10, 0)) (nI i) (nI a) (nI j) (nI b) (nI n) m (nI v) (wM g V1) = some (nI n, wM g V2) ∧ Ev [46] [] V1 V2 ∧ (∀ k, v ≤ k → k < n → V2 46 k = V1 44 (30 * i + a + k)) ∧ ∀ k, k < v → V2 46 k = V1 46 k
  | 0, v, _, _, h2 => absurd h2 (Nat.not_lt_zero _)
  | m + 1, v, V1, h1, h2 => by
    show ∃ V2, f_X9_copy_106_b z (some (10, 0)) (nI i) (nI a) (nI j) (nI b) (nI n) (f_X9_copy_106_L z (some (10, 0)) (nI i) (nI a) (nI j) (nI b) (nI n) m) (nI v) (wM g V1) = _ ∧ _
    unfold f_X9_copy_106_b
    rw [show (30 : Int32) = nI 30 from rfl, pk_mul, nI_add, nI_add]
    by_cases he : n ≤ v
    · have e : v = n := by omega
      rw [if_pos ((nI_leI (by omega) (by omega)).mpr he)]
      subst e
      exact ⟨V1, rfl, Ev.rf _ _ _, fun k h3 h4 => by omega, fun _ _ => rfl⟩
    · rw [if_neg (fun w => he ((nI_leI (by omega) (by omega)).mp w))]
      simp only [gr_M h, mRef, Option.bind_some, al44 h (show 30 * i + a + v < 300 by omega)]
      rw [as_M h (by decide) (by decide) (vp_n (N := 30) (by omega) (by decide)), nI_cl (show v < 2147483648 by omega)]
      simp only [Option.bind_some, nI_1]
      obtain ⟨V2, k1, k2, k3, k4⟩ := cp1_L h hi ha m (v + 1) (vs V1 46 v (V1 44 (30 * i + a + v))) (by omega) (by omega)
      refine ⟨V2, k1, ((Ev.rf _ _ _).s (by decide) (by decide)).tr k2, fun k h3 h4 => ?_, fun k h3 => by rw [k4 k (by omega), vs_nk (by omega)]⟩
      by_cases e : k = v
      · rw [k4 k (by omega), e, vs_eq]
      · rw [k3 k (by omega) h4, vs_ne (by decide)]
theorem cp2_L {g : Hp} (h : SM g) {i a j b n : Nat} (hj : j < 10) (hb : b + n ≤ 30) : ∀ (m v : Nat) (V1 : VV), v ≤ n → n - v < m → ∃ V2, f_X9_copy_143_L z (some (10, 0)) (nI i) (nI a) (nI j) (nI b) (nI n) m (nI v) (wM g V1) = some (nI n, wM g V2) ∧ Ev [44] [] V1 V2 ∧ (∀ k, v ≤ k → k < n → V2 44 (30 * j + b + k) = V1 46 k) ∧ ∀ p, p < 30 * j + b + v ∨ 30 * j + b + n ≤ p → V2 44 p = V1 44 p
  | 0, v, _, _, h2 => absurd h2 (Nat.not_lt_zero _)
  | m + 1, v, V1, h1, h2 => by
    show ∃ V2, f_X9_copy_143_b z (some (10, 0)) (nI i) (nI a) (nI j) (nI b) (nI n) (f_X9_copy_143_L z (some (10, 0)) (nI i) (nI a) (nI j) (nI b) (nI n) m) (nI v) (wM g V1) = _ ∧ _
    unfold f_X9_copy_143_b
    rw [show (30 : Int32) = nI 30 from rfl, pk_mul, nI_add, nI_add]
    by_cases he : n ≤ v
    · have e : v = n := by omega
      rw [if_pos ((nI_leI (by omega) (by omega)).mpr he)]
      subst e
      exact ⟨V1, rfl, Ev.rf _ _ _, fun k h3 h4 => by omega, fun _ _ => rfl⟩
    · rw [if_neg (fun w => he ((nI_leI (by omega) (by omega)).mp w))]
      simp only [gr_M h, mRef, Option.bind_some]
      rw [al_M h (by decide) (by decide) (vp_n (N := 30) (by omega) (by decide)), nI_cl (show v < 2147483648 by omega)]
      simp only [Option.bind_some]
      rw [as_M h (by decide) (by decide) (vp_n (N := 300) (by omega) (by decide)), nI_cl (show 30 * j + b + v < 2147483648 by omega)]
      simp only [Option.bind_some, nI_1]
      obtain ⟨V2, k1, k2, k3, k4⟩ := cp2_L h hj hb m (v + 1) (vs V1 44 (30 * j + b + v) (V1 46 v)) (by omega) (by omega)
      refine ⟨V2, k1, ((Ev.rf _ _ _).s (by decide) (by decide)).tr k2, fun k h3 h4 => ?_, fun p hp => by rw [k4 p (by omega), vs_nk (by omega)]⟩
      by_cases e : k = v
      · rw [e, k4 _ (by omega), vs_eq]
      · rw [k3 k (by omega) h4, vs_ne (by decide)]
theorem op_copy (hz : 2000 ≤ z) (a b c d e : Int32) : OP (fun g => f_X8_copy z (some (9, 0)) a b c d e g) (fun g => f_X9_copy z (some (10, 0)) a b c d e g) := by
  intro g V h hM0 _
  by_cases h1 : inB a 0 (V 10 6 - 1) = 0
  · refine op_same h hM0 (r := -1) ?_ ?_
    · simp only [f_X8_copy, ick_X, isStation8 h, Option.bind_some, h1, if_true]
    · simp only [f_X9_copy, ick_M, isStation9, Option.bind_some, h1, if_true]
  by_cases h2 : inB c 0 (V 10 6 - 1) = 0
  · refine op_same h hM0 (r := -1) ?_ ?_
    · simp only [f_X8_copy, ick_X, isStation8 h, Option.bind_some, if_neg h1, h2, if_true]
    · simp only [f_X9_copy, ick_M, isStation9, Option.bind_some, if_neg h1, h2, if_true]
  obtain ⟨i, hi, rfl⟩ := stOf h h1
  obtain ⟨j, hj, rfl⟩ := stOf h h2
  have ns10 := h.v.hv.ns.2
  have hi10 : i < 10 := by omega
  have hj10 : j < 10 := by omega
  by_cases h3 : 0 ≤ e
  · obtain ⟨n, hn, rfl⟩ := nI_of (x := e) (Int32.not_lt.mpr h3)
    rcases szS h hi with ⟨e1, -⟩ | ⟨m, hm, e1, en, f1⟩
    · refine of_found (z := z) (f := 1) h hM0 (by decide) ?_ ?_
      · simp only [f_X8_copy, ick_X, isStation8 h, Option.bind_some, if_neg h1, if_neg h2, if_pos h3, rowOf8 h hi, rowOf8 h hj, miss8 h hi, if_pos e1]
        rw [if_neg (by decide), bindeta]; rfl
      · intro g1 _ hs
        simp only [f_X9_copy, ick_M, isStation9, Option.bind_some, if_neg h1, if_neg h2, if_pos h3, gr_M hs, mRef, al43 hs hi10, e1]
        rw [if_pos (by decide), bindeta]; rfl
    have hmi : ¬ nI m < 0 := by rw [show (0 : Int32) = nI 0 from rfl, nI_ltI (by omega) (by omega)]; omega
    rcases szS h hj with ⟨e2, -⟩ | ⟨m2, hm2, e2, en2, f2⟩
    · refine of_found (z := z) (f := 1) h hM0 (by decide) ?_ ?_
      · simp only [f_X8_copy, ick_X, isStation8 h, Option.bind_some, if_neg h1, if_neg h2, if_pos h3, rowOf8 h hi, rowOf8 h hj, miss8 h hi, miss8 h hj, if_neg en, if_pos e2]
        rw [if_pos trivial, if_neg (by decide), bindeta]; rfl
      · intro g1 _ hs
        simp only [f_X9_copy, ick_M, isStation9, Option.bind_some, if_neg h1, if_neg h2, if_pos h3, gr_M hs, mRef, al43 hs hi10, al43 hs hj10, e1, e2]
        rw [if_neg hmi, if_neg n9lt, bindeta]; rfl
    by_cases hA : 0 ≤ b ∧ b.toNatClampNeg + n ≤ m
    · obtain ⟨k, hk, rfl⟩ := nI_of (x := b) (Int32.not_lt.mpr hA.1)
      have hA2 := hA.2
      rw [nI_cl (by omega)] at hA2
      have hA' : (if nI k < 0 then (0 : Int32) else if (nI k).toNatClampNeg + n ≤ m then 1 else 0) = 1 := by
        rw [if_neg (Int32.not_lt.mpr hA.1), if_pos hA.2]
      by_cases hB : 0 ≤ d ∧ d.toNatClampNeg + n ≤ m2
      · obtain ⟨k2, hk2, rfl⟩ := nI_of (x := d) (Int32.not_lt.mpr hB.1)
        have hB2 := hB.2
        rw [nI_cl (by omega)] at hB2
        have hB' : (if nI k2 < 0 then (0 : Int32) else if (nI k2).toNatClampNeg + n ≤ m2 then 1 else 0) = 1 := by
          rw [if_neg (Int32.not_lt.mpr hB.1), if_pos hB.2]
        have hch : Ch [25] g (cpI g (25, i) k (25, j) k2 n) := ⟨rfl, rfl, fun n2 k3 hn2 => by
          have : n2 ≠ (25, j) := fun w => hn2 (by rw [w]; simp)
          simp [cpI, gI, this]⟩
        obtain ⟨V1, p1, p2, p3, -⟩ := cp1_L (z := z) (h.sm1 hch) (i := i) (a := k) (j := j) (b := k2) (n := n) hi10 (by omega) z 0 V (Nat.zero_le _) (by omega)
        obtain ⟨V2, q1, q2, q3, q4⟩ := cp2_L (z := z) (h.sm1 hch) (i := i) (a := k) (j := j) (b := k2) (n := n) hj10 (by omega) z 0 V1 (Nat.zero_le _) (by omega)
        have hev : Ev [44, 46] [] V V2 := (p2.sub (by decide) (by decide)).tr (q2.sub (by decide) (by decide))
        have r44 : V1 44 = V 44 := p2.1 44 (by decide) (by decide)
        refine op_upd (hm := hM0) (hvf := h.vf.st hev (by decide) (by decide) (fun s hs _ => ⟨congrFun (hev.1 60 (by decide) (by decide)) s, congrFun (hev.1 43 (by decide) (by decide)) s, fun k3 hk3 => by rw [q4 _ (by omega), r44]⟩)) (C := [25]) (D := [44, 46]) (E := []) (r := 1) (V2 := V2) h ?_ hch hev (by decide) ?_ (by decide) (by decide) ?_ ?_ ?_
        · have hcp : cpyI (some (25, i)) (nI k) (some (25, j)) (nI k2) (nI n) g = some (cpI g (25, i) k (25, j) k2 n) := by
            have z0 : ∀ x : Nat, x < 2147483648 → ¬ nI x < 0 := fun x hx => by rw [show (0 : Int32) = nI 0 from rfl, nI_ltI (by omega) (by omega)]; omega
            unfold cpyI
            simp only [nI_cl (show k < 2147483648 by omega), nI_cl (show k2 < 2147483648 by omega), nI_cl (show n < 2147483648 by omega)]
            rw [if_pos ⟨by decide, ⟨z0 _ (by omega), z0 _ (by omega), z0 _ (by omega)⟩, by rw [gN25 h hi]; omega, by rw [gN25 h hj]; omega⟩]
          simp only [f_X8_copy, ick_X, isStation8 h, Option.bind_some, if_neg h1, if_neg h2, if_pos h3, rowOf8 h hi, rowOf8 h hj, miss8 h hi, miss8 h hj, if_neg en, if_neg en2, has8 hm f1 hn, has8 hm2 f2 hn, hA', hB', gR_X, gR50 h hi, gR50 h hj, hcp]
          rw [if_pos trivial, if_pos trivial, if_neg (by decide), if_neg (by decide)]
        · intro hs
          simp only [f_X9_copy, ick_M, isStation9, Option.bind_some, if_neg h1, if_neg h2, if_pos h3, gr_M hs, mRef, al43 hs hi10, al43 hs hj10, e1, e2]
          rw [if_neg hmi, if_pos (nIge (by omega)), if_neg (Int32.not_lt.mpr hA.1), if_neg (Int32.not_lt.mpr hB.1), if_neg (fun w => by have := (lgc2 hk hn (by omega)).mp w; omega), if_pos ((lgc hk2 hn (by omega)).mpr hB2)]
          rw [show (0 : Int32) = nI 0 from rfl, p1]
          simp only [Option.bind_some]
          rw [q1]
          rfl
        · exact h.v.c44 hev (by decide)
        · intro n2 p v hz2 hn2 hk3
          obtain ⟨c2, i2⟩ := n2
          simp only [List.mem_cons, List.not_mem_nil, or_false] at hn2
          subst hn2
          simp only [cI, nst_e (hev.2 6 (by decide))] at hk3
          simp at hk3
          obtain ⟨⟨hi2, hp30⟩, hk3⟩ := hk3
          show (if (25, i2) = (25, j) then va_cpy (gI g (25, i)) (gI g (25, j)) k k2 n p else gI g (25, i2) p) = v
          by_cases e5 : i2 = j
          · subst e5
            rw [if_pos rfl, ← hk3]
            by_cases hin : k2 ≤ p ∧ p < k2 + n
            · rw [pk_cpy_in hin.1 hin.2, h.rd hi (by omega), show 30 * i2 + p = 30 * i2 + k2 + (p - k2) by omega, q3 _ (Nat.zero_le _) (by omega), p3 _ (Nat.zero_le _) (by omega)]
              congr 1
              omega
            · rw [pk_cpy_out (by omega), h.rd hj hp30, q4 _ (by omega), r44]
          · rw [if_neg (by simp [e5]), h.rd hi2 hp30, ← hk3, q4 _ (by omega), r44]
        · exact h.h.cg (hev.h (by decide) (by decide)) (fun k => hch.i (by decide)) (fun k => hch.i (by decide)) (fun k => hch.i (by decide))
      · have hB' : (if d < 0 then (0 : Int32) else if d.toNatClampNeg + n ≤ m2 then 1 else 0) = 0 := by
          by_cases w : d < 0
          · rw [if_pos w]
          · rw [if_neg w, if_neg (fun q => hB ⟨Int32.not_lt.mp w, q⟩)]
        refine of_found (z := z) (f := 2) h hM0 (by decide) ?_ ?_
        · simp only [f_X8_copy, ick_X, isStation8 h, Option.bind_some, if_neg h1, if_neg h2, if_pos h3, rowOf8 h hi, rowOf8 h hj, miss8 h hi, miss8 h hj, if_neg en, if_neg en2, has8 hm f1 hn, has8 hm2 f2 hn, hA', hB']
          rw [if_pos trivial, if_pos trivial, if_neg (by decide), if_pos trivial, bindeta]; rfl
        · intro g1 _ hs
          simp only [f_X9_copy, ick_M, isStation9, Option.bind_some, if_neg h1, if_neg h2, if_pos h3, gr_M hs, mRef, al43 hs hi10, al43 hs hj10, e1, e2, bindeta]
          rw [if_neg hmi, if_pos (nIge (by omega)), if_neg (Int32.not_lt.mpr hA.1)]
          by_cases w : d < 0
          · rw [if_pos w]; rfl
          · rw [if_neg w, if_neg (fun w => by have := (lgc2 hk hn (by omega)).mp w; omega)]
            obtain ⟨k2, hk2, rfl⟩ := nI_of w
            rw [if_neg (fun w2 => hB ⟨Int32.not_lt.mp w, by rw [nI_cl (by omega)]; exact (lgc hk2 hn (by omega)).mp w2⟩)]; rfl
    · have hA' : (if b < 0 then (0 : Int32) else if b.toNatClampNeg + n ≤ m then 1 else 0) = 0 := by
        by_cases w : b < 0
        · rw [if_pos w]
        · rw [if_neg w, if_neg (fun q => hA ⟨Int32.not_lt.mp w, q⟩)]
      refine of_found (z := z) (f := 2) h hM0 (by decide) ?_ ?_
      · simp only [f_X8_copy, ick_X, isStation8 h, Option.bind_some, if_neg h1, if_neg h2, if_pos h3, rowOf8 h hi, rowOf8 h hj, miss8 h hi, miss8 h hj, if_neg en, if_neg en2, has8 hm f1 hn, hA']
        rw [if_pos trivial, if_pos trivial, if_pos trivial, bindeta]; rfl
      · intro g1 _ hs
        simp only [f_X9_copy, ick_M, isStation9, Option.bind_some, if_neg h1, if_neg h2, if_pos h3, gr_M hs, mRef, al43 hs hi10, al43 hs hj10, e1, e2, bindeta]
        rw [if_neg hmi, if_pos (nIge (by omega))]
        by_cases w : b < 0
        · rw [if_pos w]; rfl
        · rw [if_neg w]
          by_cases w3 : d < 0
          · rw [if_pos w3]; rfl
          · rw [if_neg w3]
            obtain ⟨k, hk, rfl⟩ := nI_of w
            rw [if_pos ((lgc2 hk hn (by omega)).mpr (Nat.lt_of_not_le (fun w2 => hA ⟨Int32.not_lt.mp w, by rw [nI_cl (by omega)]; exact w2⟩)))]; rfl
  · refine of_found (z := z) (f := 5) h hM0 (by decide) ?_ ?_
    · simp only [f_X8_copy, ick_X, isStation8 h, Option.bind_some, if_neg h1, if_neg h2, if_neg h3, bindeta]; rfl
    · intro g1 _ hs
      simp only [f_X9_copy, ick_M, isStation9, Option.bind_some, if_neg h1, if_neg h2, if_neg h3, bindeta]; rfl
end ROY
