section FEL
variable {z : Nat}
theorem isOver8 (hz : 2000 ≤ z) {g : Hp} {V : VV} (h : IN g V) {q : Nat} (hq : q < nqk V) : ∃ g2, f_X8_isOver z (some (9, 0)) (nI q) g = some ((if ncl V q 144 = 0 then 1 else 0), g2) ∧ Ch [1, 21, 22] g g2 ∧ IN g2 V := by
  obtain ⟨g2, a1, a2, a3, a4, a5, a6, a7⟩ := heapOf8 hz h hq
  have hcl := ncl_le V q 144
  refine ⟨g2, ?_, a2, a3⟩
  simp only [f_X8_isOver, ick_X, a1, Option.bind_some, gI_X, a5]
  by_cases e : ncl V q 144 = 0
  · rw [e, if_pos (by decide), if_pos rfl]; exact rtZ_1
  · rw [if_neg (nI_ne0 (by omega) (by omega)), if_neg e]; exact rtZ_0
theorem feltIn_L {g : Hp} {V : VV} (ht : TT g V) (hV : VI V) {q t : Nat} (hq : q < nqk V) (htw : t < ntw V) (hF : HF g (lo V q) (hi V q)) (p1 p2 : Int32) : ∀ (n v : Nat), v ≤ 144 → 144 - v < n → f_X8_feltIn_28_L z (nI (cT V t)) (some (1, 0)) (some (9, 0)) p1 p2 n (nI v) (nI (lsF V q t v)) g = some (144, nI (lsF V q t 144), g)
  | 0, v, _, h2 => absurd h2 (Nat.not_lt_zero _)
  | n + 1, v, h1, h2 => by
    show f_X8_feltIn_28_b z (nI (cT V t)) (some (1, 0)) (some (9, 0)) p1 p2 (f_X8_feltIn_28_L z (nI (cT V t)) (some (1, 0)) (some (9, 0)) p1 p2 n) (nI v) (nI (lsF V q t v)) g = _
    unfold f_X8_feltIn_28_b
    rw [show (144 : Int32) = nI 144 from rfl]
    by_cases he : 144 ≤ v
    · have e : v = 144 := by omega
      rw [if_pos ((nI_leI (by omega) (by omega)).mpr he)]
      subst e
      rfl
    · have hv : v < 144 := by omega
      have ih := feltIn_L ht hV hq htw hF p1 p2 n (v + 1) (by omega) (by omega)
      have h6 := hV.to htw
      have l1 := lsF_b hV (q := q) htw v (by omega)
      have htl := tv_lt ht.2.1 hv h6.2
      have hbl : bl (tv (slo V) v (cT V t) + 1) ≤ 31 := bl_le.mp (by omega)
      rw [if_neg (fun w => he ((nI_leI (by omega) (by omega)).mp w)), ick_X, hs8 ht.1 hF (bd_lo hV hq) hv]
      simp only [Option.bind_some]
      by_cases hh : lo V q v ≤ hi V q v
      · rw [if_pos hh, if_neg (by decide), gr_C ht.1]
        simp only [cRef, Option.bind_some, ick_X, between8 ht hv h6.2, nI_1]
        rw [bits8 (by omega)]
        simp only [Option.bind_some]
        have e : lsF V q t (v + 1) = max (lsF V q t v) (bl (tv (slo V) v (cT V t) + 1)) := by simp [lsF, hh]
        have e2 : imax (nI (lsF V q t v)) (nI (bl (tv (slo V) v (cT V t) + 1))) = nI (lsF V q t (v + 1)) := by
          rw [nI_iI, nI_iI, imax_i (by omega) (by omega) (by omega) (by omega), nI_iI, e]
          congr 1; omega
        rw [e2]; exact ih
      · rw [if_neg hh, if_pos rfl, nI_1]
        rw [show lsF V q t (v + 1) = lsF V q t v by simp [lsF, hh]] at ih
        exact ih
theorem feltIn8 (hz : 2000 ≤ z) {g : Hp} {V : VV} (h : IN g V) {q t : Nat} (hq : q < nqk V) (ht : t < ntw V) (ho : ¬ ncl V q 144 = 0) : ∃ g2, f_X8_feltIn z (some (9, 0)) (nI t) (nI q) g = some (iI (feV V q t), g2) ∧ Ch [1, 21, 22] g g2 ∧ IN g2 V := by
  obtain ⟨g2, a1, a2, a3, a4, a5, a6, a7⟩ := heapOf8 hz h hq
  refine ⟨g2, ?_, a2, a3⟩
  have hL := feltIn_L (z := z) a3.tt h.v hq ht a4 (nI t) (nI q) z 0 (by omega) (by omega)
  obtain ⟨l1, l2, l3, l4, -⟩ := lwF_b h.v hq 144 (by omega)
  have l5 := lsF_b h.v (q := q) ht 144 (by omega)
  simp only [f_X8_feltIn, ick_X, a1, Option.bind_some, gr_C a3.b1, cRef, getT a3 ht, ckc_X, gI_X, a3.t0 ht, (h.v.to ht).1]
  have e0 : nI (lsF V q t 0) = (0 : Int32) := rfl
  rw [e0, show nI 0 = (0 : Int32) from rfl] at hL
  rw [hL]
  simp only [Option.bind_some, a6]
  have hne : ¬ lwF V q 144 < 0 := fun w => ho (l4.mp w)
  congr 2
  rw [nI_iI, iI_sub, show (0 : Int32) = iI 0 from by decide, imax_i (by omega) (by omega) (by omega) (by omega)]
  congr 1
  unfold feV
  rw [if_neg hne]
  split <;> omega
theorem op_felt (hz : 2000 ≤ z) (a b : Int32) : OP (fun g => f_X8_felt z (some (9, 0)) a b g) (fun g => f_X9_felt z (some (10, 0)) a b g) := by
  intro g V h hM0 _
  by_cases h1 : inB a 0 (V 10 9 - 1) = 0
  · refine op_same h hM0 (r := -1) ?_ ?_
    · simp only [f_X8_felt, ick_X, isTown8 h, Option.bind_some, h1, if_true]
    · simp only [f_X9_felt, ick_M, tq9, Option.bind_some, h1, if_true]
  by_cases h2 : inB b 0 (V 10 20 - 1) = 0
  · refine op_same h hM0 (r := -1) ?_ ?_
    · simp only [f_X8_felt, ick_X, isTown8 h, isQuake8 h, Option.bind_some, if_neg h1, h2, if_true]
    · simp only [f_X9_felt, ick_M, tq9, Option.bind_some, if_neg h1, h2, if_true]
  obtain ⟨t, ht, rfl⟩ := twOf h h1
  obtain ⟨q, hq, rfl⟩ := qkOf h h2
  obtain ⟨g2, a1, a2, a3⟩ := isOver8 hz h hq
  have hfe : ∀ g3, SM g3 → ∃ V2, f_X9_felt z (some (10, 0)) (nI t) (nI q) (wM g3 V) = some (iI (feV V q t), wM g3 V2) ∧ EqR V V2 := fun g3 hs => by
    obtain ⟨V2, k1, k2, k3⟩ := setHeap9 hz hs h.v.hv q
    refine ⟨V2, ?_, k2⟩
    simp only [f_X9_felt, ick_M, tq9, Option.bind_some, if_neg h1, if_neg h2, k1, feels9 hz hs h.v k2 hq ht k3]
  by_cases ho : ncl V q 144 = 0
  · obtain ⟨V2, b1, b2⟩ := hfe g2 a3.s
    have e : iI (feV V q t) = -9 := by
      obtain ⟨-, -, -, l4, -⟩ := lwF_b h.v hq 144 (by omega)
      unfold feV; rw [if_pos (l4.mpr ho)]; decide
    rw [e] at b1
    refine op_heap (a2.mm (by decide) hM0) (r := -9) ?_ a3 b1 b2
    simp only [f_X8_felt, ick_X, isTown8 h, isQuake8 h, Option.bind_some, if_neg h1, if_neg h2, a1, if_pos ho]
    rw [if_neg (by decide)]
  · obtain ⟨g3, c1, c2, c3⟩ := feltIn8 hz a3 hq ht ho
    obtain ⟨V2, b1, b2⟩ := hfe g3 c3.s
    refine op_heap (c2.mm (by decide) (a2.mm (by decide) hM0)) ?_ c3 b1 b2
    simp only [f_X8_felt, ick_X, isTown8 h, isQuake8 h, Option.bind_some, if_neg h1, if_neg h2, a1, if_neg ho, c1]
    rw [if_pos trivial]
/-! arrivals -/
theorem cm_b {V : VV} (hV : VI V) {q t : Nat} (hq : q < nqk V) (ht : t < ntw V) : ∀ n, n ≤ 144 → -10000000 ≤ cmF V q t n ∧ cmF V q t n ≤ 1000000000 ∧ -1000000000 ≤ cxF V q t n ∧ cxF V q t n ≤ 20000000 ∧ (ncl V q n ≠ 0 → cmF V q t n ≤ 900000 ∧ -900000 ≤ cxF V q t n)
  | 0, _ => by simp [cmF, cxF, ncl]
  | n + 1, hn => by
    have ih := cm_b hV hq ht n (by omega)
    have hb := bd_lo hV hq n (by omega)
    have htv := TV_b hV.hv.sl.2 (c := n) (by omega) (hV.to ht).2
    have hl := loS_b hV.hv (q := q) (c := n) (by omega) (nst V) (Nat.le_refl _)
    have hh2 : -400 ≤ hi V q n := (hiP_b hV.hv (q := q) (c := n) (by omega) (npk V) (Nat.le_refl _)).1
    have hl2 : lo V q n ≤ 100000 := hl.2
    unfold cmF cxF ncl
    by_cases hh : lo V q n ≤ hi V q n
    · simp only [if_pos hh]; omega
    · simp only [if_neg hh]; exact ih
theorem comes9_L (hz : 2000 ≤ z) {g : Hp} {V V2 : VV} (h : SM g) (hV : VI V) (hE : EqR V V2) {q t : Nat} (hq : q < nqk V) (ht : t < ntw V) (hP : HP V q V2 144) (b : Bool) : ∀ (n v : Nat), v ≤ 144 → 144 - v < n → f_X9_comes_15_L z (some (10, 0)) (nI t) (if b = true then 1 else 0) n (nI v) (iI (if b = true then cxF V q t v else cmF V q t v)) (wM g V2) = some (144, iI (if b = true then cxF V q t 144 else cmF V q t 144), wM g V2)
  | 0, v, _, h2 => absurd h2 (Nat.not_lt_zero _)
  | n + 1, v, h1, h2 => by
    have ih := comes9_L hz h hV hE hq ht hP b n (v + 1)
    show f_X9_comes_15_b z (some (10, 0)) (nI t) _ (f_X9_comes_15_L z (some (10, 0)) (nI t) _ n) (nI v) _ (wM g V2) = _
    unfold f_X9_comes_15_b
    rw [show (144 : Int32) = nI 144 from rfl]
    by_cases he : 144 ≤ v
    · have e : v = 144 := by omega
      rw [if_pos ((nI_leI (by omega) (by omega)).mpr he)]
      subst e
      rfl
    · have hv : v < 144 := by omega
      have ih := ih (by omega) (by omega)
      have hvc : ∀ r, r = 52 ∨ r = 53 → vp_in (nI v) (mLen r) := fun r hr => by rcases hr with e | e <;> subst e <;> exact vp_n (N := 144) hv (by decide)
      have h6 := hV.to ht
      have htw := hV.tw.2
      obtain ⟨b1, b2, b3, b4, -⟩ := cm_b hV hq ht v (by omega)
      have hb := bd_lo hV hq v hv
      have htv := TV_b hV.hv.sl.2 hv h6.2
      obtain ⟨p1, x, p2, -, -, -, p6⟩ := hP v hv
      rw [if_neg (fun w => he ((nI_leI (by omega) (by omega)).mp w)), ick_M, has9 h hV.hv hP hv]
      simp only [Option.bind_some]
      by_cases hh : lo V q v ≤ hi V q v
      · have ex := p6 hh
        subst ex
        have hx : cxF V q t (v + 1) = max (cxF V q t v) (hi V q v + TV V v (cT V t)) := by simp [cxF, hh]
        have hm : cmF V q t (v + 1) = min (cmF V q t v) (lo V q v + TV V v (cT V t)) := by simp [cmF, hh]
        rw [if_pos hh, if_neg (by decide)]
        simp only [gr_M h, mRef, Option.bind_some]
        rw [al_M h (by decide) (by decide) (hvc 52 (Or.inl rfl)), al_M h (by decide) (by decide) (hvc 53 (Or.inr rfl)), nI_cl (show v < 2147483648 by omega), p1, p2]
        have htr : f_X9_travels z (some (10, 0)) (nI v) (nI (cT V t)) (wM g V2) = some (nI (tv (slo V) v (cT V t)), wM g V2) := travels9 hz (by rw [hE 10 (by decide) (by decide)]; exact hV.hv.sl.1) hV.hv.sl.2 hv h6.2
        have hal : aldI (some (42, 0)) (nI t) (wM g V2) = some (nI (cT V t)) := by
          rw [al_M h (by decide) (by decide) (vp_n (N := 6) (by omega) (by decide)), nI_cl (show t < 2147483648 by omega), hE 42 (by decide) (by decide), h6.1]
        have htv2 : nI (tv (slo V) v (cT V t)) = iI (TV V v (cT V t)) := by rw [nI_iI]; rfl
        cases b with
        | true =>
          simp only [if_true] at ih ⊢
          rw [if_neg (by decide)]
          simp only [Option.bind_some, hal, ick_M, htr, htv2, iI_add]
          by_cases c1 : hi V q v + TV V v (cT V t) ≤ cxF V q t v
          · rw [if_pos ((iI_le (by omega) (by omega) (by omega) (by omega)).mpr c1)]
            simp only [Option.bind_some]
            rw [if_neg (by decide), nI_1]
            rw [hx, show max (cxF V q t v) (hi V q v + TV V v (cT V t)) = cxF V q t v by omega] at ih
            exact ih
          · rw [if_neg (fun w => c1 ((iI_le (by omega) (by omega) (by omega) (by omega)).mp w))]
            simp only [Option.bind_some]
            rw [if_pos trivial, nI_1]
            rw [hx, show max (cxF V q t v) (hi V q v + TV V v (cT V t)) = hi V q v + TV V v (cT V t) by omega] at ih
            exact ih
        | false =>
          simp only [Bool.false_eq_true, if_false] at ih ⊢
          rw [if_pos trivial]
          simp only [Option.bind_some, hal, ick_M, htr, htv2, iI_add]
          by_cases c1 : lo V q v + TV V v (cT V t) ≤ cmF V q t v
          · rw [if_pos ((iI_le (by omega) (by omega) (by omega) (by omega)).mpr c1)]
            simp only [Option.bind_some]
            rw [if_pos trivial, nI_1]
            rw [hm, show min (cmF V q t v) (lo V q v + TV V v (cT V t)) = lo V q v + TV V v (cT V t) by omega] at ih
            exact ih
          · rw [if_neg (fun w => c1 ((iI_le (by omega) (by omega) (by omega) (by omega)).mp w))]
            simp only [Option.bind_some]
            rw [if_neg (by decide), nI_1]
            rw [hm, show min (cmF V q t v) (lo V q v + TV V v (cT V t)) = cmF V q t v by omega] at ih
            exact ih
      · rw [if_neg hh, if_pos rfl, nI_1]
        rw [show cxF V q t (v + 1) = cxF V q t v by simp [cxF, hh], show cmF V q t (v + 1) = cmF V q t v by simp [cmF, hh]] at ih
        exact ih
end FEL
