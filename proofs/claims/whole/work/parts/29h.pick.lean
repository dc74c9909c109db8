/-! pick: the model's end -/
theorem in1M {a : Int32} (h : ¬ inB a 1 1000000 = 0) : ∃ i, 1 ≤ i ∧ i ≤ 1000000 ∧ a = nI i := by
  obtain ⟨h1, h2⟩ := inB_ne h
  have h0 : ¬ a < 0 := fun w => by
    rw [Int32.lt_iff_toInt_lt] at w
    rw [Int32.le_iff_toInt_le] at h1
    have e0 : (0 : Int32).toInt = 0 := by decide
    have e1 : (1 : Int32).toInt = 1 := by decide
    omega
  obtain ⟨j, hj, rfl⟩ := nI_of (x := a) h0
  refine ⟨j, ?_, ?_, rfl⟩
  · rw [show (1 : Int32) = nI 1 from rfl, nI_leI (by omega) (by omega)] at h1; exact h1
  · rw [show (1000000 : Int32) = nI 1000000 from rfl, nI_leI (by omega) (by omega)] at h2; exact h2
def tlV (W : VV) (p : Nat) (s t : Nat) (c qv : Int32) : VV := vs (vs (vs (vs (vs W 47 p (nI s)) 48 p (nI t)) 49 p c) 50 p qv) 10 15 (nI (p + 1))
theorem tl_q {U W : VV} {s t : Nat} {c qv : Int32} (h : EqP U W) : EqR (apV U s t c qv) (tlV W (npk U) s t c qv) := fun r h1 h2 => by
  funext k
  unfold apV tlV
  simp only [vs]
  by_cases a1 : r = 10 ∧ k = 15
  · simp only [if_pos a1]
  by_cases a2 : r = 50 ∧ k = npk U
  · simp only [if_neg a1, if_pos a2]
  by_cases a3 : r = 49 ∧ k = npk U
  · simp only [if_neg a1, if_neg a2, if_pos a3]
  by_cases a4 : r = 48 ∧ k = npk U
  · simp only [if_neg a1, if_neg a2, if_neg a3, if_pos a4]
  by_cases a5 : r = 47 ∧ k = npk U
  · simp only [if_neg a1, if_neg a2, if_neg a3, if_neg a4, if_pos a5]
  simp only [if_neg a1, if_neg a2, if_neg a3, if_neg a4, if_neg a5]
  exact h r k h1 h2 (fun w => by
    rcases w with ⟨w | w | w, w2⟩
    · exact a5 ⟨w, w2⟩
    · exact a4 ⟨w, w2⟩
    · exact a2 ⟨w, w2⟩)
theorem tl_o {V W : VV} (h : EqP V W) : EqP (opV V) (vs (vs W 51 (nqk V) (nI (npk V))) 10 20 (nI (nqk V + 1))) := fun r k h1 h2 h3 => by
  rw [op_w.np] at h3
  unfold opV
  simp only [vs]
  by_cases a1 : r = 10 ∧ k = 20
  · simp only [if_pos a1]
  by_cases a2 : r = 51 ∧ k = nqk V
  · simp only [if_neg a1, if_pos a2]
  simp only [if_neg a1, if_neg a2]
  exact h r k h1 h2 h3
section PKN
variable {z : Nat}
theorem pickT {g : Hp} (h : SM g) {W : VV} {p : Nat} (hW : W 10 15 = nI p) (hp : p < 60) (s t : Nat) (c ans qv : Int32) : ((getR (some (10, 0)) 10 16 (wM g W)).bind fun x34 =>
          (getI (some (10, 0)) 10 15 (wM g W)).bind fun x35 =>
          (astI x34 x35 (nI s) (wM g W)).bind fun g36 =>
          (getR (some (10, 0)) 10 17 g36).bind fun x37 =>
          (getI (some (10, 0)) 10 15 g36).bind fun x38 =>
          (astI x37 x38 (nI t) g36).bind fun g39 =>
          (getR (some (10, 0)) 10 18 g39).bind fun x40 =>
          (getI (some (10, 0)) 10 15 g39).bind fun x41 =>
          (astI x40 x41 c g39).bind fun g42 =>
          (getR (some (10, 0)) 10 19 g42).bind fun x43 =>
          (getI (some (10, 0)) 10 15 g42).bind fun x44 =>
          (astI x43 x44 qv g42).bind fun g45 =>
          (getI (some (10, 0)) 10 15 g45).bind fun x46 =>
          (putI (some (10, 0)) 10 15 (x46 + 1) g45).bind fun g47 =>
          some (ans, g47)) = some (ans, wM g (tlV W p s t c qv)) := by
  simp only [gr_M h, mRef, gi_M, hW, ob]
  rw [as60 h (Or.inl rfl) hp]
  simp only [gr_M h, mRef, gi_M, hW, ob, vs_ne (show 10 ≠ 47 by decide)]
  rw [as60 h (Or.inr (Or.inl rfl)) hp]
  simp only [gr_M h, mRef, gi_M, hW, ob, vs_ne (show 10 ≠ 48 by decide), vs_ne (show 10 ≠ 47 by decide)]
  rw [as60 h (Or.inr (Or.inr (Or.inl rfl))) hp]
  simp only [gr_M h, mRef, gi_M, hW, ob, vs_ne (show 10 ≠ 49 by decide), vs_ne (show 10 ≠ 48 by decide), vs_ne (show 10 ≠ 47 by decide)]
  rw [as60 h (Or.inr (Or.inr (Or.inr rfl))) hp]
  simp only [gi_M, pu_M, hW, ob, vs_ne (show 10 ≠ 50 by decide), vs_ne (show 10 ≠ 49 by decide), vs_ne (show 10 ≠ 48 by decide), vs_ne (show 10 ≠ 47 by decide), nI_1]
  rfl
theorem as51 {g : Hp} {W : VV} (h : SM g) {i : Nat} {v : Int32} (hi : i < 5) : astI (some (51, 0)) (nI i) v (wM g W) = some (wM g (vs W 51 i v)) := by
  rw [as_M h (by decide) (by decide) (vp_n (N := 5) hi (by decide)), nI_cl (show i < 2147483648 by omega)]
theorem pick9 (hz : 2000 ≤ z) {g : Hp} (h : SM g) {V : VV} (hV : VI V) {a b c : Int32} {s t : Nat} (ea : a = nI s) (eb : b = nI t) (hs : s < nst V) (ht : t ≤ nw V) (hp : npk V < 60) (g1 : ¬ inB a 0 (V 10 6 - 1) = 0) (g2 : ¬ inB b 0 (V 10 5) = 0) (g3 : ¬ inB c 1 1000000 = 0) : (∀ q, q < nqk V → tkF V s t (nqk V) 0 = nI q → ∃ V4, f_X9_pick z (some (10, 0)) a b c (wM g V) = some (nI q, wM g V4) ∧ EqR (apV V s t c (nI q)) V4) ∧ (tkF V s t (nqk V) 0 = -9 → 5 ≤ nqk V → ∃ V4, f_X9_pick z (some (10, 0)) a b c (wM g V) = some (-9, wM g V4) ∧ EqR (apV V s t c (-9)) V4) ∧ (tkF V s t (nqk V) 0 = -9 → nqk V < 5 → ∃ V4, f_X9_pick z (some (10, 0)) a b c (wM g V) = some (10 + nI (nqk V), wM g V4) ∧ EqR (apV (opV V) s t c (nI (nqk V))) V4) := by
  have h5 := hV.qk
  have hnp := hV.hv.np
  obtain ⟨w, V3, l1, l2⟩ := pick9_L (z := z) hz h hV hs ht hp c (nqk V) z 0 V (EqP.rf V) (by omega) (by omega)
  rw [← ea, ← eb, show nI 0 = (0 : Int32) from rfl] at l1
  have e10 := l2.row (c := 10) (by decide) (by decide) (by decide) (by decide) (by decide)
  have e15 : V3 10 15 = nI (npk V) := by rw [e10]; exact hnp.1
  have e20 : V3 10 20 = nI (nqk V) := by rw [e10]; exact h5.1
  have n60 : ¬ nI (npk V) = 60 := fun w => by have := nI_inj2 (b := 60) w (by omega) (by omega); omega
  have hst : ∀ (Q : Option (Int32 × Hp)), (((if 0 ≤ tkF V s t (nqk V) 0 then (some (tkF V s t (nqk V) 0, tkF V s t (nqk V) 0, wM g V3))
            else ((getI (some (10, 0)) 10 20 (wM g V3)).bind fun x26 =>
              if 5 ≤ x26 then (some (tkF V s t (nqk V) 0, tkF V s t (nqk V) 0, wM g V3))
              else ((getI (some (10, 0)) 10 20 (wM g V3)).bind fun x27 =>
                (getR (some (10, 0)) 10 21 (wM g V3)).bind fun x28 =>
                (getI (some (10, 0)) 10 15 (wM g V3)).bind fun x29 =>
                (astI x28 x27 x29 (wM g V3)).bind fun g30 =>
                (getI (some (10, 0)) 10 20 g30).bind fun x31 =>
                (putI (some (10, 0)) 10 20 (x31 + 1) g30).bind fun g32 =>
                some ((10 + x27), x27, g32)))) : Option (Int32 × Int32 × Hp)).bind fun q33 =>
          (getR (some (10, 0)) 10 16 q33.2.2).bind fun x34 =>
          (getI (some (10, 0)) 10 15 q33.2.2).bind fun x35 =>
          (astI x34 x35 a q33.2.2).bind fun g36 =>
          (getR (some (10, 0)) 10 17 g36).bind fun x37 =>
          (getI (some (10, 0)) 10 15 g36).bind fun x38 =>
          (astI x37 x38 b g36).bind fun g39 =>
          (getR (some (10, 0)) 10 18 g39).bind fun x40 =>
          (getI (some (10, 0)) 10 15 g39).bind fun x41 =>
          (astI x40 x41 c g39).bind fun g42 =>
          (getR (some (10, 0)) 10 19 g42).bind fun x43 =>
          (getI (some (10, 0)) 10 15 g42).bind fun x44 =>
          (astI x43 x44 q33.2.1 g42).bind fun g45 =>
          (getI (some (10, 0)) 10 15 g45).bind fun x46 =>
          (putI (some (10, 0)) 10 15 (x46 + 1) g45).bind fun g47 =>
          some (q33.1, g47)) = Q → f_X9_pick z (some (10, 0)) a b c (wM g V) = Q := fun Q hQ => by
    rw [← hQ]
    simp only [f_X9_pick, ick_M, isStation9, ob, if_neg g1, gi_M, in9, if_neg g2, if_neg g3, hnp.1, if_neg n60, l1]
  refine ⟨fun q hq e => ?_, fun e hq => ?_, fun e hq => ?_⟩
  · refine ⟨tlV V3 (npk V) s t c (nI q), hst _ ?_, tl_q l2⟩
    rw [e, if_pos (nIge (by omega))]
    simp only [ob]
    rw [ea, eb]
    exact pickT h e15 hp s t c (nI q) (nI q)
  · refine ⟨tlV V3 (npk V) s t c (-9), hst _ ?_, tl_q l2⟩
    rw [e, if_neg n9lt]
    simp only [gi_M, ob, e20]
    rw [show (5 : Int32) = nI 5 from rfl, if_pos ((nI_leI (by omega) (by omega)).mpr hq)]
    simp only [ob]
    rw [ea, eb]
    exact pickT h e15 hp s t c (-9) (-9)
  · have enp : npk (opV V) = npk V := op_w.np
    have ho := tl_q (s := s) (t := t) (c := c) (qv := nI (nqk V)) (tl_o l2)
    rw [enp] at ho
    refine ⟨tlV (vs (vs V3 51 (nqk V) (nI (npk V))) 10 20 (nI (nqk V + 1))) (npk V) s t c (nI (nqk V)), hst _ ?_, ho⟩
    rw [e, if_neg n9lt]
    simp only [gi_M, ob, e20]
    rw [show (5 : Int32) = nI 5 from rfl, if_neg (fun w => by have := (nI_leI (by omega) (by omega)).mp w; omega)]
    simp only [gr_M h, mRef, gi_M, ob, e15]
    rw [as51 h hq]
    simp only [gi_M, pu_M, ob, vs_ne (show 10 ≠ 51 by decide), e20, nI_1]
    rw [ea, eb]
    exact pickT h (by rw [vs_nk (by decide), vs_ne (by decide)]; exact e15) hp s t c (10 + nI (nqk V)) (nI (nqk V))
end PKN
