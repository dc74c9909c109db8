section SUM
variable {z : Nat}
def sumF (V : VV) (i : Nat) : Nat → Nat → Int64 → Int64
  | _, 0, acc => acc
  | f, c + 1, acc => sumF V i (f + 1) c (acc + (iabs (V 44 (30 * i + f))).toInt64)
theorem sum8_L {g : Hp} {V : VV} (h : IN g V) {i : Nat} (hi : i < nst V) {f c : Nat} (he : f + c ≤ 30) : ∀ (n v : Nat) (acc : Int64), v ≤ f + c → f + c - v < n → f_X4_sizes_5_L z (some (5, i)) (nI f) (nI c) n (nI v) acc g = some (nI (f + c), sumF V i v (f + c - v) acc, g)
  | 0, v, _, _, h2 => absurd h2 (Nat.not_lt_zero _)
  | n + 1, v, acc, h1, h2 => by
    show f_X4_sizes_5_b z (some (5, i)) (nI f) (nI c) (f_X4_sizes_5_L z (some (5, i)) (nI f) (nI c) n) (nI v) acc g = _
    unfold f_X4_sizes_5_b
    rw [nI_add]
    by_cases hc : f + c ≤ v
    · have e : v = f + c := by omega
      rw [if_pos ((nI_leI (by omega) (by omega)).mpr hc)]
      subst e
      rw [Nat.sub_self]; rfl
    · rw [if_neg (fun w => hc ((nI_leI (by omega) (by omega)).mp w))]
      simp only [gR_X, gR50 h hi, Option.bind_some]
      rw [ald_X (gN25 h hi) (by decide) (by decide) (by omega) (by decide), h.rd hi (by omega)]
      simp only [Option.bind_some, nI_1]
      rw [sum8_L h hi he n (v + 1) _ (by omega) (by omega), show f + c - v = (f + c - (v + 1)) + 1 by omega]
      rfl
theorem sum8 {g : Hp} {V : VV} (hz : 2000 ≤ z) (h : IN g V) {i : Nat} (hi : i < nst V) {f c : Nat} (he : f + c ≤ 30) : f_X4_sizes z (some (5, i)) (nI f) (nI c) g = some (sumF V i f c 0, g) := by
  unfold f_X4_sizes
  rw [sum8_L h hi he z f 0 (by omega) (by omega), show f + c - f = c by omega]
  rfl
theorem sum9_L {g : Hp} {V : VV} (h : SM g) {i : Nat} (hi : i < 10) {f c : Nat} (he : f + c ≤ 30) : ∀ (n v : Nat) (acc : Int64), v ≤ f + c → f + c - v < n → f_X9_sumOf_6_L z (some (10, 0)) (nI i) (nI f) (nI c) n (nI v) acc (wM g V) = some (nI (f + c), sumF V i v (f + c - v) acc, wM g V)
  | 0, v, _, _, h2 => absurd h2 (Nat.not_lt_zero _)
  | n + 1, v, acc, h1, h2 => by
    show f_X9_sumOf_6_b z (some (10, 0)) (nI i) (nI f) (nI c) (f_X9_sumOf_6_L z (some (10, 0)) (nI i) (nI f) (nI c) n) (nI v) acc (wM g V) = _
    unfold f_X9_sumOf_6_b
    rw [nI_add, show (30 : Int32) = nI 30 from rfl, pk_mul, nI_add]
    by_cases hc : f + c ≤ v
    · have e : v = f + c := by omega
      rw [if_pos ((nI_leI (by omega) (by omega)).mpr hc)]
      subst e
      rw [Nat.sub_self]; rfl
    · rw [if_neg (fun w => hc ((nI_leI (by omega) (by omega)).mp w))]
      simp only [gr_M h, mRef, Option.bind_some, al44 h (show 30 * i + v < 300 by omega)]
      have ea : (if 0 ≤ V 44 (30 * i + v) then some (V 44 (30 * i + v)).toInt64 else some (0 - V 44 (30 * i + v)).toInt64) = some (iabs (V 44 (30 * i + v))).toInt64 := by
        unfold iabs; split <;> rfl
      rw [ea]
      simp only [Option.bind_some, nI_1]
      rw [sum9_L h hi he n (v + 1) _ (by omega) (by omega), show f + c - v = (f + c - (v + 1)) + 1 by omega]
      rfl
theorem sum9 {g : Hp} {V : VV} (hz : 2000 ≤ z) (h : SM g) {i : Nat} (hi : i < 10) {f c : Nat} (he : f + c ≤ 30) : f_X9_sumOf z (some (10, 0)) (nI i) (nI f) (nI c) (wM g V) = some (sumF V i f c 0, wM g V) := by
  unfold f_X9_sumOf
  rw [sum9_L h hi he z f 0 (by omega) (by omega), show f + c - f = c by omega]
  rfl
theorem op_mean (hz : 2000 ≤ z) (a : Int32) : OP (fun g => f_X8_mean z (some (9, 0)) a g) (fun g => f_X9_mean z (some (10, 0)) a g) := by
  intro g V h hM0 _
  by_cases h1 : inB a 0 (V 10 6 - 1) = 0
  · refine op_same h hM0 (r := -1) ?_ ?_
    · simp only [f_X8_mean, ick_X, isStation8 h, Option.bind_some, h1, if_true]
    · simp only [f_X9_mean, ick_M, isStation9, Option.bind_some, h1, if_true]
  obtain ⟨i, hi, rfl⟩ := stOf h h1
  have hi10 : i < 10 := by have := h.v.hv.ns.2; omega
  rcases szS h hi with ⟨e, e1⟩ | ⟨m, hm, e, en, e1⟩
  · refine of_found (z := z) (f := 1) h hM0 (by decide) ?_ ?_
    · simp only [f_X8_mean, ick_X, isStation8 h, Option.bind_some, if_neg h1, rowOf8 h hi, miss8 h hi, if_pos e]
      rw [if_neg (by decide), bindeta]; rfl
    · intro g1 _ hs
      simp only [f_X9_mean, ick_M, isStation9, Option.bind_some, if_neg h1, gr_M hs, mRef, al43 hs hi10, e]
      rw [if_neg n9lt, bindeta]; rfl
  · by_cases h0 : m = 0
    · subst h0
      refine of_found (z := z) (f := 4) h hM0 (by decide) ?_ ?_
      · simp only [f_X8_mean, ick_X, isStation8 h, Option.bind_some, if_neg h1, rowOf8 h hi, miss8 h hi, if_neg en, gI_X, e1]
        rw [if_pos trivial, if_pos (by decide), bindeta]; rfl
      · intro g1 _ hs
        simp only [f_X9_mean, ick_M, isStation9, Option.bind_some, if_neg h1, gr_M hs, mRef, al43 hs hi10, e]
        rw [if_pos (by decide), if_pos (by decide), bindeta]; rfl
    · have hne : nI m ≠ 0 := nI_ne0 (by omega) (by omega)
      have hdv : ∃ w, dvL (sumF V i 0 m 0) (nI m).toInt64 = some w := by
        have : (nI m).toInt64 ≠ 0 := by
          intro w
          have h2 := congrArg Int64.toInt w
          rw [nI_to64 (by omega)] at h2
          simp at h2
          omega
        unfold dvL
        exact ⟨_, if_neg this⟩
      obtain ⟨w, hw⟩ := hdv
      refine op_same h hM0 (r := w.toInt32) ?_ ?_
      · simp only [f_X8_mean, ick_X, isStation8 h, Option.bind_some, if_neg h1, rowOf8 h hi, miss8 h hi, if_neg en, gI_X, e1]
        rw [if_pos trivial, if_neg hne, show (0 : Int32) = nI 0 from rfl, sum8 hz h hi (by omega)]
        simp only [Option.bind_some, e1, hw]
      · simp only [f_X9_mean, ick_M, isStation9, Option.bind_some, if_neg h1, gr_M h.s, mRef, al43 h.s hi10, e]
        rw [if_pos (nIge (by omega)), if_neg hne, show (0 : Int32) = nI 0 from rfl, sum9 hz h.s hi10 (by omega)]
        simp only [Option.bind_some, gr_M h.s, mRef, al43 h.s hi10, e, hw]
def fstF (V : VV) (i s l : Nat) (a b : Int32) (m : Nat) : Nat → Nat → Option Int32
  | 0, _ => none
  | n + 1, v => if m < v + s then some (-9) else if lg_cmp (sumF V i v s 0 * (nI l).toInt64 * b.toInt64) (sumF V i (v - l) l 0 * (nI s).toInt64 * a.toInt64) ≤ 0 then fstF V i s l a b m n (v + 1) else some (nI v)
theorem fstF_s {V : VV} {i s l : Nat} {a b : Int32} {m : Nat} (hs : 1 ≤ s) : ∀ n v, m + 1 - v < n → ∃ r, fstF V i s l a b m n v = some r
  | 0, v, h => absurd h (Nat.not_lt_zero _)
  | n + 1, v, h => by
    unfold fstF
    by_cases h1 : m < v + s
    · rw [if_pos h1]; exact ⟨_, rfl⟩
    · rw [if_neg h1]
      split
      · exact fstF_s hs n (v + 1) (by omega)
      · exact ⟨_, rfl⟩
theorem fst8_L {g : Hp} {V : VV} (hz : 2000 ≤ z) (h : IN g V) {i : Nat} (hi : i < nst V) {m : Nat} (hm : m ≤ 30) (e1 : gI g (5, i) 1 = nI m) {s l : Nat} (hs : s ≤ 10) (hl : l ≤ 10) (a b : Int32) : ∀ n v, l ≤ v → v ≤ 31 → 1 ≤ s → f_X4_firstPick_3_L z (some (5, i)) (nI s) (nI l) a b n (nI v) g = (fstF V i s l a b m n v).map (fun r => (r, g))
  | 0, v, _, _, _ => rfl
  | n + 1, v, hlv, hv, hs1 => by
    show f_X4_firstPick_3_b z (some (5, i)) (nI s) (nI l) a b (f_X4_firstPick_3_L z (some (5, i)) (nI s) (nI l) a b n) (nI v) g = _
    unfold f_X4_firstPick_3_b fstF
    simp only [gI_X, Option.bind_some, e1, ick_X]
    by_cases h1 : m < v + s
    · rw [if_pos h1, nI_iI m, nI_iI s, iI_sub, nI_iI v, if_pos ((iI_lt (by omega) (by omega) (by omega) (by omega)).mpr (by omega))]; rfl
    · rw [if_neg h1, nI_iI m, nI_iI s, iI_sub, nI_iI v, if_neg (fun w => by have := (iI_lt (by omega) (by omega) (by omega) (by omega)).mp w; omega), ← nI_iI s, ← nI_iI v, pk_sub hlv, sum8 hz h hi (by omega)]
      simp only [Option.bind_some]
      rw [sum8 hz h hi (by omega)]
      simp only [Option.bind_some]
      split
      · rw [nI_1]; exact fst8_L hz h hi hm e1 hs hl a b n (v + 1) (by omega) (by omega) hs1
      · rfl
theorem fst9_L {g : Hp} {V : VV} (hz : 2000 ≤ z) (h : SM g) {i : Nat} (hi : i < 10) {m : Nat} (hm : m ≤ 30) (e1 : V 43 i = nI m) {s l : Nat} (hs : s ≤ 10) (hl : l ≤ 10) (a b : Int32) : ∀ n v, l ≤ v → v ≤ 31 → 1 ≤ s → f_X9_first_72_L z (some (10, 0)) (nI i) (nI s) (nI l) a b n (nI v) (wM g V) = (fstF V i s l a b m n v).map (fun r => (r, wM g V))
  | 0, v, _, _, _ => rfl
  | n + 1, v, hlv, hv, hs1 => by
    show f_X9_first_72_b z (some (10, 0)) (nI i) (nI s) (nI l) a b (f_X9_first_72_L z (some (10, 0)) (nI i) (nI s) (nI l) a b n) (nI v) (wM g V) = _
    unfold f_X9_first_72_b fstF
    simp only [gr_M h, mRef, Option.bind_some, al43 h hi, e1, ick_M]
    rw [nI_add]
    by_cases h1 : m < v + s
    · rw [if_pos h1, if_pos ((nI_ltI (by omega) (by omega)).mpr h1)]; rfl
    · rw [if_neg h1, if_neg (fun w => h1 ((nI_ltI (by omega) (by omega)).mp w)), pk_sub hlv, sum9 hz h hi (by omega)]
      simp only [Option.bind_some]
      rw [sum9 hz h hi (by omega)]
      simp only [Option.bind_some]
      split
      · rw [nI_1]; exact fst9_L hz h hi hm e1 hs hl a b n (v + 1) (by omega) (by omega) hs1
      · rfl
theorem in1 {a : Int32} {m : Nat} (hm : m < 100000) (h : ¬ inB a 1 (nI m) = 0) : ∃ i, 1 ≤ i ∧ i ≤ m ∧ a = nI i := by
  obtain ⟨w1, w2⟩ := inB_ne h
  have h0 : ¬ a < 0 := fun q => absurd (Int32.lt_of_lt_of_le q (show (0 : Int32) ≤ 1 by decide)) (Int32.not_lt.mpr w1)
  obtain ⟨j, hj, rfl⟩ := nI_of h0
  rw [nI_leI (by omega) (by omega)] at w2
  rw [show (1 : Int32) = nI 1 from rfl, nI_leI (by omega) (by omega)] at w1
  exact ⟨j, w1, w2, rfl⟩
theorem op_first (hz : 2000 ≤ z) (a s l b c : Int32) : OP (fun g => f_X8_first z (some (9, 0)) a s l b c g) (fun g => f_X9_first z (some (10, 0)) a s l b c g) := by
  intro g V h hM0 _
  by_cases h1 : inB a 0 (V 10 6 - 1) = 0
  · refine op_same h hM0 (r := -1) ?_ ?_
    · simp only [f_X8_first, ick_X, isStation8 h, Option.bind_some, h1, if_true]
    · simp only [f_X9_first, ick_M, isStation9, Option.bind_some, h1, if_true]
  by_cases h2 : inB s 1 10 = 0
  · refine op_same h hM0 (r := -1) ?_ ?_
    · simp only [f_X8_first, ick_X, isStation8 h, Option.bind_some, if_neg h1, in8, h2, if_true]
    · simp only [f_X9_first, ick_M, isStation9, Option.bind_some, if_neg h1, in9, h2, if_true]
  by_cases h3 : inB l 1 10 = 0
  · refine op_same h hM0 (r := -1) ?_ ?_
    · simp only [f_X8_first, ick_X, isStation8 h, Option.bind_some, if_neg h1, in8, if_neg h2, h3, if_true]
    · simp only [f_X9_first, ick_M, isStation9, Option.bind_some, if_neg h1, in9, if_neg h2, h3, if_true]
  by_cases h4 : inB b 1 1000 = 0
  · refine op_same h hM0 (r := -1) ?_ ?_
    · simp only [f_X8_first, ick_X, isStation8 h, Option.bind_some, if_neg h1, in8, if_neg h2, if_neg h3, h4, if_true]
    · simp only [f_X9_first, ick_M, isStation9, Option.bind_some, if_neg h1, in9, if_neg h2, if_neg h3, h4, if_true]
  by_cases h5 : inB c 1 1000 = 0
  · refine op_same h hM0 (r := -1) ?_ ?_
    · simp only [f_X8_first, ick_X, isStation8 h, Option.bind_some, if_neg h1, in8, if_neg h2, if_neg h3, if_neg h4, h5, if_true]
    · simp only [f_X9_first, ick_M, isStation9, Option.bind_some, if_neg h1, in9, if_neg h2, if_neg h3, if_neg h4, h5, if_true]
  obtain ⟨i, hi, rfl⟩ := stOf h h1
  have hi10 : i < 10 := by have := h.v.hv.ns.2; omega
  rcases szS h hi with ⟨e, e1⟩ | ⟨m, hm, e, en, e1⟩
  · refine of_found (z := z) (f := 1) h hM0 (by decide) ?_ ?_
    · simp only [f_X8_first, ick_X, isStation8 h, Option.bind_some, if_neg h1, in8, if_neg h2, if_neg h3, if_neg h4, if_neg h5, rowOf8 h hi, miss8 h hi, if_pos e]
      rw [if_neg (by decide), bindeta]; rfl
    · intro g1 _ hs
      simp only [f_X9_first, ick_M, isStation9, Option.bind_some, if_neg h1, in9, if_neg h2, if_neg h3, if_neg h4, if_neg h5, gr_M hs, mRef, al43 hs hi10, e]
      rw [if_neg n9lt, bindeta]; rfl
  · obtain ⟨s1, hs1, hs2, rfl⟩ := in1 (m := 10) (by decide) h2
    obtain ⟨l1, hl1, hl2, rfl⟩ := in1 (m := 10) (by decide) h3
    obtain ⟨r, hr⟩ := fstF_s (V := V) (i := i) (l := l1) (a := b) (b := c) (m := m) hs1 z l1 (by omega)
    refine op_same h hM0 (r := r) ?_ ?_
    · simp only [f_X8_first, ick_X, isStation8 h, Option.bind_some, if_neg h1, in8, if_neg h2, if_neg h3, if_neg h4, if_neg h5, rowOf8 h hi, miss8 h hi, if_neg en, f_X4_firstPick]
      rw [if_pos trivial, fst8_L hz h hi hm e1 hs2 hl2 b c z l1 (Nat.le_refl _) (by omega) hs1, hr]
      rfl
    · simp only [f_X9_first, ick_M, isStation9, Option.bind_some, if_neg h1, in9, if_neg h2, if_neg h3, if_neg h4, if_neg h5, gr_M h.s, mRef, al43 h.s hi10, e]
      rw [if_pos (nIge (by omega)), fst9_L hz h.s hi10 hm e hs2 hl2 b c z l1 (Nat.le_refl _) (by omega) hs1, hr]
      rfl
end SUM
