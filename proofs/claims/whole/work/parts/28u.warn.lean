/-! warn: what it does to the table -/
def stV (V : VV) (o : Bool) (q t l : Nat) : VV := vs (sndV V (nI t) (nI q) (if o = true then 0 - nI l else nI l)) 55 (30 * q + 5 * t + l) (V 55 (30 * q + 5 * t + l) + 1)
def wA (V : VV) (o : Bool) (q t : Nat) (fe : Int32) (l : Nat) : Prop := (o = true ∧ V 55 (30 * q + 5 * t + l) = 1) ∨ (o = false ∧ V 45 l ≤ fe ∧ V 55 (30 * q + 5 * t + l) = 0)
noncomputable def wL (o : Bool) (q t : Nat) (fe : Int32) : Nat → VV → VV × Int32
  | 0, V => (V, 0)
  | m + 1, V => by
    classical exact if wA V o q t fe (4 - m) then ((wL o q t fe m (stV V o q t (4 - m))).1, 1 + (wL o q t fe m (stV V o q t (4 - m))).2) else wL o q t fe m V
theorem wL_0 {o : Bool} {q t : Nat} {fe : Int32} {V : VV} : wL o q t fe 0 V = (V, 0) := rfl
theorem wL_y {o : Bool} {q t m : Nat} {fe : Int32} {V : VV} (h : wA V o q t fe (4 - m)) : wL o q t fe (m + 1) V = ((wL o q t fe m (stV V o q t (4 - m))).1, 1 + (wL o q t fe m (stV V o q t (4 - m))).2) := by
  first | exact if_pos h | simp only [wL, if_pos h]
theorem wL_n {o : Bool} {q t m : Nat} {fe : Int32} {V : VV} (h : ¬ wA V o q t fe (4 - m)) : wL o q t fe (m + 1) V = wL o q t fe m V := by
  first | exact if_neg h | simp only [wL, if_neg h]
noncomputable def wT (o : Bool) (q T : Nat) : Nat → VV → VV × Int32
  | 0, V => (V, 0)
  | m + 1, V => ((wT o q T m (wL o q (T - (m + 1)) (iI (feV V q (T - (m + 1)))) 4 V).1).1, (wL o q (T - (m + 1)) (iI (feV V q (T - (m + 1)))) 4 V).2 + (wT o q T m (wL o q (T - (m + 1)) (iI (feV V q (T - (m + 1)))) 4 V).1).2)
noncomputable def wQ (Q T : Nat) : Nat → VV → VV × Int32
  | 0, V => (V, 0)
  | m + 1, V => ((wQ Q T m (wT (decide (ncl V (Q - (m + 1)) 144 = 0)) (Q - (m + 1)) T T V).1).1, (wT (decide (ncl V (Q - (m + 1)) 144 = 0)) (Q - (m + 1)) T T V).2 + (wQ Q T m (wT (decide (ncl V (Q - (m + 1)) 144 = 0)) (Q - (m + 1)) T T V).1).2)
theorem vs_vs {V : VV} {c k c2 k2 : Nat} {v w : Int32} (h : c ≠ c2) : vs (vs V c k v) c2 k2 w = vs (vs V c2 k2 w) c k v := by
  funext a b
  unfold vs
  by_cases h1 : a = c2
  · subst h1
    simp [Ne.symm h]
  · simp [h1]
theorem snd_vs {V : VV} {k : Nat} {v a b c : Int32} : sndV (vs V 55 k v) a b c = vs (sndV V a b c) 55 k v := by
  have e1 : nms (vs V 55 k v) = nms V := nms_e (by rw [vs_ne (by decide)])
  unfold sndV
  rw [e1]
  by_cases h : nms V < 400
  · rw [if_pos h, if_pos h, show vs V 55 k v 10 5 = V 10 5 from by rw [vs_ne (by decide)]]
    rw [vs_vs (c := 55) (c2 := 54) (by decide), vs_vs (c := 55) (c2 := 54) (by decide), vs_vs (c := 55) (c2 := 54) (by decide), vs_vs (c := 55) (c2 := 54) (by decide), vs_vs (c := 55) (c2 := 10) (by decide)]
  · rw [if_neg h, if_neg h, vs_vs (c := 55) (c2 := 10) (by decide)]
def GW (V V2 : VV) (k : Nat) : Prop := VI V2 ∧ Ev [54, 55] [24] V V2 ∧ nms V2 ≤ nms V + k
theorem GW.rf {V : VV} (h : VI V) : GW V V 0 := ⟨h, Ev.rf _ _ _, Nat.le_refl _⟩
theorem GW.tr {a b c : VV} {j k l : Nat} (h : GW a b j) (h2 : GW b c k) (hl : j + k ≤ l) : GW a c l := ⟨h2.1, h.2.1.tr h2.2.1, by have := h.2.2; have := h2.2.2; omega⟩
theorem GW.mono {a b : VV} {j l : Nat} (h : GW a b j) (hl : j ≤ l) : GW a b l := ⟨h.1, h.2.1, by have := h.2.2; omega⟩
theorem GW.h {a b : VV} {j : Nat} (h : GW a b j) : EqH a b := h.2.1.h (by decide) (by decide)
theorem GW.nq {a b : VV} {j : Nat} (h : GW a b j) : nqk b = nqk a := nqk_e (h.2.1.2 20 (by decide))
theorem GW.nt {a b : VV} {j : Nat} (h : GW a b j) : ntw b = ntw a := ntw_e (h.2.1.2 9 (by decide))
theorem GW.nc {a b : VV} {j : Nat} (h : GW a b j) (q : Nat) : ncl b q 144 = ncl a q 144 := h.h.ncl_ 144
theorem VI.s55 {V : VV} {k : Nat} {v : Int32} (h : VI V) (hv : v = 0 ∨ v = 1 ∨ v = 2) : VI (vs V 55 k v) := by
  obtain ⟨w0, w1, w2, w3, w4, w5, w6, w7, w8, w9⟩ := h
  refine ⟨w0, w1, w2, w3, w4, w5, w6, w7, w8, fun q t j h1 h2 h3 h4 => ?_⟩
  by_cases e : 30 * q + 5 * t + j = k
  · rw [e, vs_eq]; exact hv
  · rw [vs_nk e]; exact w9 q t j h1 h2 h3 h4
theorem VI.snd {V : VV} (h : VI V) (h2 : nms V ≤ 2000000) (a b c : Int32) : VI (sndV V a b c) := h.cg (snd_ev V a b c) (by decide) (by decide) (by rw [snd_n h2]; exact snd24)
theorem st_g {V : VV} (h : VI V) (h2 : nms V ≤ 2000000) {q t l : Nat} (o : Bool) (hc : V 55 (30 * q + 5 * t + l) = 0 ∨ V 55 (30 * q + 5 * t + l) = 1) : GW V (stV V o q t l) 1 := by
  refine ⟨?_, ?_, ?_⟩
  · refine (h.snd h2 _ _ _).s55 ?_
    rcases hc with e | e <;> rw [e] <;> decide
  · exact ((snd_ev V _ _ _).sub (by decide) (by decide)).s (by decide) (by decide)
  · have e : nms (stV V o q t l) = nms (sndV V (nI t) (nI q) (if o = true then 0 - nI l else nI l)) := nms_e (by unfold stV; rw [vs_ne (by decide)])
    rw [e, snd_n h2]; omega
theorem wA_c {V : VV} {o : Bool} {q t l : Nat} {fe : Int32} (h : wA V o q t fe l) : V 55 (30 * q + 5 * t + l) = 0 ∨ V 55 (30 * q + 5 * t + l) = 1 := by
  rcases h with ⟨-, h⟩ | ⟨-, -, h⟩
  · exact Or.inr h
  · exact Or.inl h
theorem wL_g {o : Bool} {q t : Nat} {fe : Int32} : ∀ (m : Nat) (V : VV), VI V → nms V + m ≤ 1999990 → GW V (wL o q t fe m V).1 m
  | 0, V, h, _ => GW.rf h
  | m + 1, V, h, h2 => by
    by_cases e : wA V o q t fe (4 - m)
    · rw [wL_y e]
      have s := st_g (V := V) h (show nms V ≤ 2000000 by omega) o (wA_c e)
      have s2 := s.2.2
      exact s.tr (wL_g m _ s.1 (by omega)) (by omega)
    · rw [wL_n e]
      exact (wL_g m V h (by omega)).mono (by omega)
theorem wT_g {o : Bool} {q T : Nat} : ∀ (m : Nat) (V : VV), VI V → nms V + 4 * m ≤ 1999990 → GW V (wT o q T m V).1 (4 * m)
  | 0, V, h, _ => GW.rf h
  | m + 1, V, h, h2 => by
    have s := wL_g (o := o) (q := q) (t := T - (m + 1)) (fe := iI (feV V q (T - (m + 1)))) 4 V h (by omega)
    have s2 := s.2.2
    have r := wT_g (o := o) (q := q) (T := T) m _ s.1 (by omega)
    exact s.tr r (by omega)
theorem wQ_g {Q T : Nat} (hT : T ≤ 6) : ∀ (m : Nat) (V : VV), VI V → nms V + 24 * m ≤ 1999990 → GW V (wQ Q T m V).1 (24 * m)
  | 0, V, h, _ => GW.rf h
  | m + 1, V, h, h2 => by
    have s := wT_g (o := decide (ncl V (Q - (m + 1)) 144 = 0)) (q := Q - (m + 1)) (T := T) T V h (by omega)
    have s2 := s.2.2
    have r := wQ_g (Q := Q) hT m _ s.1 (by omega)
    exact s.tr r (by omega)
