/-! warn: the model -/
theorem vs_q {V V2 : VV} {k : Nat} {v : Int32} (h : EqR V V2) : EqR (vs V 55 k v) (vs V2 55 k v) := fun r h2 h3 => by
  funext j
  simp only [vs, h r h2 h3]
theorem snd_q {V V2 : VV} {a b c : Int32} (h : EqR V V2) : EqR (sndV V a b c) (sndV V2 a b c) := fun r h2 h3 => by
  have e10 := h 10 (by decide) (by decide)
  have e1 : nms V2 = nms V := nms_e (by rw [e10])
  funext j
  unfold sndV
  rw [e1, e10]
  by_cases w : nms V < 400
  · rw [if_pos w, if_pos w]; simp only [vs, h r h2 h3]
  · rw [if_neg w, if_neg w]; simp only [vs, h r h2 h3]
theorem HP.eqh {V V2 W W2 : VV} {q n : Nat} (h : HP V q W n) (e : EqH V V2) (e2 : W2 52 = W 52) (e3 : W2 53 = W 53) : HP V2 q W2 n := by
  intro c hc
  rw [e.hi_, e.lo_, e2, e3]
  exact h c hc
section WAM
variable {z : Nat}
theorem al55 {g : Hp} {W : VV} (h : SM g) {i : Nat} (hi : i < 150) : aldI (some (55, 0)) (nI i) (wM g W) = some (W 55 i) := by
  rw [al_M h (by decide) (by decide) (vp_n (N := 150) hi (by decide)), nI_cl (show i < 2147483648 by omega)]
theorem as55 {g : Hp} {W : VV} (h : SM g) {i : Nat} {v : Int32} (hi : i < 150) : astI (some (55, 0)) (nI i) v (wM g W) = some (wM g (vs W 55 i v)) := by
  rw [as_M h (by decide) (by decide) (vp_n (N := 150) hi (by decide)), nI_cl (show i < 2147483648 by omega)]
theorem al45 {g : Hp} {W : VV} (h : SM g) {i : Nat} (hi : i < 6) : aldI (some (45, 0)) (nI i) (wM g W) = some (W 45 i) := by
  rw [al_M h (by decide) (by decide) (vp_n (N := 6) hi (by decide)), nI_cl (show i < 2147483648 by omega)]
/-- one message, one state -/
theorem sayS {g : Hp} (h : SM g) {q t l : Nat} {o : Bool} {V V2 : VV} (hq : q < 5) (ht : t < 6) (h5 : l < 5) (hE : EqR V V2) (e24 : V 10 24 = nI (nms V)) (hs : nms V ≤ 2000000) {c : Int32} (hc : c = if o = true then 0 - nI l else nI l) : ∃ V3, f_X9_say z (some (10, 0)) (nI t) (nI q) c (wM g V2) = some ((), wM g V3) ∧ V3 55 (30 * q + 5 * t + l) = V 55 (30 * q + 5 * t + l) ∧ EqR (stV V o q t l) (vs V3 55 (30 * q + 5 * t + l) (V 55 (30 * q + 5 * t + l) + 1)) ∧ V3 52 = V2 52 ∧ V3 53 = V2 53 := by
  have e10 := hE 10 (by decide) (by decide)
  have e1 : nms V2 = nms V := nms_e (by rw [e10])
  refine ⟨sndV V2 (nI t) (nI q) c, say9 h (by rw [e10, e1]; exact e24) (by omega) _ _ _, ?_, ?_, (snd_ev V2 _ _ _).1 52 (by decide) (by decide), (snd_ev V2 _ _ _).1 53 (by decide) (by decide)⟩
  · rw [(snd_ev V2 _ _ _).1 55 (by decide) (by decide), hE 55 (by decide) (by decide)]
  · subst hc
    exact vs_q (snd_q hE)
theorem sayL9 {g : Hp} (h : SM g) {q t : Nat} {o : Bool} {fe p5 : Int32} (hp : o = false → p5 = fe) (hq : q < 5) (ht : t < 6) : ∀ (m n : Nat) (V V2 : VV) (v1 : Int32), m ≤ 4 → m < n → EqR V V2 → VI V → nms V + m ≤ 1999990 → ∃ V3, f_X9_warn_58_L z p5 (nI t) (if o = true then 1 else 0) (nI q) (some (10, 0)) n (nI (5 - m)) v1 (wM g V2) = some (5, v1 + (wL o q t fe m V).2, wM g V3) ∧ EqR (wL o q t fe m V).1 V3 ∧ V3 52 = V2 52 ∧ V3 53 = V2 53
  | m, 0, _, _, _, _, h, _, _, _ => absurd h (Nat.not_lt_zero _)
  | 0, n + 1, V, V2, v1, _, _, hE, _, _ => by
    refine ⟨V2, ?_, hE, rfl, rfl⟩
    show f_X9_warn_58_b z p5 (nI t) _ (nI q) (some (10, 0)) (f_X9_warn_58_L z p5 (nI t) _ (nI q) (some (10, 0)) n) (nI 5) v1 (wM g V2) = some (5, v1 + 0, wM g V2)
    unfold f_X9_warn_58_b
    rw [if_pos (by decide), Int32.add_zero]
    rfl
  | m + 1, n + 1, V, V2, v1, hm, hn, hE, hv, hs => by
    have hl : 5 - (m + 1) = 4 - m := by omega
    have hl2 : 4 - m + 1 = 5 - m := by omega
    have w5 : 4 - m < 5 := by omega
    have w1 : 1 ≤ 4 - m := by omega
    have hx : 30 * q + 5 * t + (4 - m) < 150 := by omega
    rw [hl]
    have hno : ¬ wA V o q t fe (4 - m) → ∃ V3, f_X9_warn_58_L z p5 (nI t) (if o = true then 1 else 0) (nI q) (some (10, 0)) n (nI (5 - m)) v1 (wM g V2) = some (nI 5, v1 + (wL o q t fe (m + 1) V).2, wM g V3) ∧ EqR (wL o q t fe (m + 1) V).1 V3 ∧ V3 52 = V2 52 ∧ V3 53 = V2 53 := fun w => by
      rw [wL_n w]
      exact sayL9 h (o := o) (fe := fe) hp hq ht m n V V2 v1 (by omega) (by omega) hE hv (by omega)
    have hyes : wA V o q t fe (4 - m) → ∀ c : Int32, (c = if o = true then 0 - nI (4 - m) else nI (4 - m)) → ∃ V3, ((f_X9_say z (some (10, 0)) (nI t) (nI q) c (wM g V2)).bind fun q21 => (getR (some (10, 0)) 10 26 q21.2).bind fun x22 => (aldI x22 (nI (30 * q + 5 * t + (4 - m))) q21.2).bind fun x23 => (astI x22 (nI (30 * q + 5 * t + (4 - m))) (x23 + 1) q21.2).bind fun g24 => f_X9_warn_58_L z p5 (nI t) (if o = true then 1 else 0) (nI q) (some (10, 0)) n (nI (5 - m)) (v1 + 1) g24) = some (nI 5, v1 + (wL o q t fe (m + 1) V).2, wM g V3) ∧ EqR (wL o q t fe (m + 1) V).1 V3 ∧ V3 52 = V2 52 ∧ V3 53 = V2 53 := fun w c hc => by
      obtain ⟨Va, a1, a2, a3, a4, a5⟩ := sayS (z := z) h (o := o) hq ht w5 hE hv.ms (show nms V ≤ 2000000 by omega) hc
      have s := st_g (V := V) hv (show nms V ≤ 2000000 by omega) o (wA_c w)
      have s2 := s.2.2
      obtain ⟨V3, c1, c2, c3, c4⟩ := sayL9 h (o := o) (fe := fe) hp hq ht m n (stV V o q t (4 - m)) (vs Va 55 (30 * q + 5 * t + (4 - m)) (V 55 (30 * q + 5 * t + (4 - m)) + 1)) (v1 + 1) (by omega) (by omega) a3 s.1 (by omega)
      refine ⟨V3, ?_, ?_, ?_, ?_⟩
      · rw [a1]
        simp only [Option.bind_some, gr_M h, mRef]
        rw [al55 h hx, a2]
        simp only [Option.bind_some]
        rw [as55 h hx]
        simp only [Option.bind_some]
        rw [c1, wL_y w, Int32.add_assoc]
        rfl
      · rw [wL_y w]; exact c2
      · rw [c3, vs_ne (by decide), a4]
      · rw [c4, vs_ne (by decide), a5]
    show ∃ V3, f_X9_warn_58_b z p5 (nI t) _ (nI q) (some (10, 0)) (f_X9_warn_58_L z p5 (nI t) _ (nI q) (some (10, 0)) n) (nI (4 - m)) v1 (wM g V2) = some (nI 5, _, wM g V3) ∧ _
    unfold f_X9_warn_58_b
    rw [show (30 : Int32) = nI 30 from rfl, show (5 : Int32) = nI 5 from rfl, pk_mul, pk_mul, nI_add, nI_add, if_neg (fun w => by have := (nI_leI (by omega) (by omega)).mp w; omega), nI_1, hl2]
    cases o with
    | false =>
      simp only [Bool.false_eq_true, if_false, if_true] at hno hyes ⊢
      simp only [gr_M h, mRef, Option.bind_some, al45 h (show 4 - m < 6 by omega), al55 h hx, hE 45 (by decide) (by decide), hE 55 (by decide) (by decide), hp rfl, ick_M]
      by_cases hf : V 45 (4 - m) ≤ fe
      · rw [if_neg (Int32.not_lt.mpr hf)]
        by_cases e0 : V 55 (30 * q + 5 * t + (4 - m)) = 0
        · rw [if_pos e0]
          simp only [Option.bind_some]
          rw [if_neg (by decide)]
          have := hyes (Or.inr ⟨rfl, hf, e0⟩) (nI (4 - m)) rfl
          simp only [hp rfl] at this
          exact this
        · rw [if_neg e0]
          simp only [Option.bind_some, if_true]
          have := hno (fun w => by
            rcases w with ⟨w, -⟩ | ⟨-, -, w⟩
            · exact absurd w (by decide)
            · exact e0 w)
          simp only [hp rfl] at this
          exact this
      · rw [if_pos (Int32.not_le.mp hf)]
        simp only [Option.bind_some, if_true]
        have := hno (fun w => by
          rcases w with ⟨w, -⟩ | ⟨-, w, -⟩
          · exact absurd w (by decide)
          · exact hf w)
        simp only [hp rfl] at this
        exact this
    | true =>
      simp only [if_true] at hno hyes ⊢
      rw [if_neg (by decide)]
      simp only [Option.bind_some, if_true]
      rw [if_neg (by decide)]
      simp only [gr_M h, mRef, Option.bind_some, al55 h hx, hE 55 (by decide) (by decide), ick_M]
      by_cases e0 : V 55 (30 * q + 5 * t + (4 - m)) = 1
      · rw [if_pos e0]
        simp only [Option.bind_some]
        rw [if_neg (by decide), if_neg (by decide)]
        exact hyes (Or.inl ⟨rfl, e0⟩) (0 - nI (4 - m)) rfl
      · rw [if_neg e0]
        simp only [Option.bind_some, if_true]
        exact hno (fun w => by
          rcases w with ⟨-, w⟩ | ⟨w, -⟩
          · exact e0 w
          · exact absurd w (by decide))
end WAM
