section WRI
variable {z : Nat}
theorem in04 {b : Int32} (h : ¬ inB b 0 4 = 0) : ∃ k, k ≤ 4 ∧ b = nI k := by
  rw [show (4 : Int32) = nI 4 from rfl] at h
  exact inB_nIr (by omega) h
theorem in04n {b : Int32} (h : inB b 0 4 = 0) : b ≠ 0 ∧ b ≠ 1 ∧ b ≠ 2 ∧ b ≠ 3 ∧ b ≠ 4 := by
  refine ⟨?_, ?_, ?_, ?_, ?_⟩ <;> (intro e; subst e; revert h; decide)
def tellF (V : VV) (p : Nat) (b : Int32) : Int32 := if b = 0 then V 47 p else if b = 1 then V 48 p else if b = 2 then V 49 p else if b = 3 then kdF V p else V 50 p
theorem tells9 {g : Hp} {V : VV} (h : SM g) (hV : VI V) {p : Nat} (hp : p < npk V) (b : Int32) : f_X9_tells z (some (10, 0)) (nI p) b (wM g V) = some (tellF V p b, wM g V) := by
  have hp60 := hV.hv.np.2
  unfold f_X9_tells tellF
  simp only [tsw, gr_M h, mRef, Option.bind_some, ick_M, kindOf9 h hV hp]
  rw [al_M h (by decide) (by decide) (vp_n (N := 60) (by omega) (by decide)), al_M h (by decide) (by decide) (vp_n (N := 60) (by omega) (by decide)), al_M h (by decide) (by decide) (vp_n (N := 60) (by omega) (by decide)), al_M h (by decide) (by decide) (vp_n (N := 60) (by omega) (by decide))]
  simp only [Option.bind_some, nI_cl (show p < 2147483648 by omega)]
  repeat' split
  all_goals rfl
theorem told8 {g : Hp} {V : VV} (h : IN g V) {p : Nat} (hp : p < npk V) {b : Int32} (hb : ¬ inB b 0 4 = 0) : f_X8_told z (some (9, 0)) (nI p) b g = some (tellF V p b, g) := by
  have hq : ¬ inB (nI p) 0 (V 10 15 - 1) = 0 := by have := h.v.hv.np; rw [this.1, inB_in hp (by omega)]; decide
  obtain ⟨k, hk, rfl⟩ := in04 hb
  unfold tellF
  simp only [f_X8_told, ick_X, isPick8 h, Option.bind_some, if_neg hq, gr_C h.b1, cRef, getP h hp, ckc_X, tsw, gI_X, h.p0 hp, h.p1 hp, h.p2 hp, h.p3 hp, h.p4 hp]
  rcases (by omega : k = 0 ∨ k = 1 ∨ k = 2 ∨ k = 3 ∨ k = 4) with rfl | rfl | rfl | rfl | rfl <;> simp only [show (nI 0 = 0) = True from by simp; decide, show (nI 1 = 0) = False from by simp; decide, show (nI 1 = 1) = True from by simp; decide, show (nI 2 = 0) = False from by simp; decide, show (nI 2 = 1) = False from by simp; decide, show (nI 2 = 2) = True from by simp; decide, show (nI 3 = 0) = False from by simp; decide, show (nI 3 = 1) = False from by simp; decide, show (nI 3 = 2) = False from by simp; decide, show (nI 3 = 3) = True from by simp; decide, show (nI 4 = 0) = False from by simp; decide, show (nI 4 = 1) = False from by simp; decide, show (nI 4 = 2) = False from by simp; decide, show (nI 4 = 3) = False from by simp; decide, show (nI 4 = 4) = True from by simp; decide, if_true, if_false]
theorem op_told (a b : Int32) : OP (fun g => f_X8_told z (some (9, 0)) a b g) (fun g => f_X9_told z (some (10, 0)) a b g) := by
  intro g V h hM0 _
  by_cases h1 : inB a 0 (V 10 15 - 1) = 0
  · refine op_same h hM0 (r := -1) ?_ ?_
    · simp only [f_X8_told, ick_X, isPick8 h, Option.bind_some, h1, if_true]
    · simp only [f_X9_told, ick_M, isPick9, Option.bind_some, h1, if_true]
  obtain ⟨p, hp, rfl⟩ := pkOf h h1
  by_cases h2 : inB b 0 4 = 0
  · obtain ⟨e0, e1, e2, e3, e4⟩ := in04n h2
    refine op_same h hM0 (r := -1) ?_ ?_
    · simp only [f_X8_told, ick_X, isPick8 h, Option.bind_some, if_neg h1, gr_C h.b1, cRef, getP h hp, ckc_X, tsw, if_neg e0, if_neg e1, if_neg e2, if_neg e3, if_neg e4]
    · simp only [f_X9_told, ick_M, isPick9, Option.bind_some, if_neg h1, in9, h2, if_true]
  · refine op_same h hM0 (r := tellF V p b) (told8 h hp h2) ?_
    simp only [f_X9_told, ick_M, isPick9, Option.bind_some, if_neg h1, in9, if_neg h2, tells9 h.s h.v hp]
theorem of_found {A8 A9 : Hp → Option (Int32 × Hp)} {g : Hp} {V : VV} (h : IN g V) (hm : wM g V = g) {f : Nat} (hf : f < 6) (h8 : A8 g = f_X8_found z (some (9, 0)) (nI f) g) (h9 : ∀ g1, A9 (wM g1 V) = A9 (wM g1 V) → SM g1 → A9 (wM g1 V) = f_X9_meets z (some (10, 0)) (nI f) (wM g1 V)) : ∃ r g1 V2, A8 g = some (r, g1) ∧ A9 g1 = some (r, wM g1 V2) ∧ IN (wM g1 V2) V2 ∧ nms V2 ≤ nms V + 120 := by
  obtain ⟨g1, V2, e1, e2, e3, e4⟩ := found_b (z := z) h hm hf
  have hch : Ch [9, 24] g (setI (setI g (9, 0) 9 (nI f)) (24, 0) f (V 40 f + 1)) := (Ch.set (by decide)).tr (Ch.set (by decide))
  have e5 := e1
  rw [found8 h hf] at e5
  have e6 : setI (setI g (9, 0) 9 (nI f)) (24, 0) f (V 40 f + 1) = g1 := by
    have := Option.some.inj e5; exact congrArg Prod.snd this
  rw [e6] at hch
  refine ⟨-3, g1, V2, h8.trans e1, ?_, e3, by omega⟩
  have := h9 g1 rfl (h.sm1 hch)
  rw [hch.mm (by decide) hm] at this
  rw [this, e2]
theorem in03n {b : Int32} (h : ¬ inB b 0 3 = 0) : ∃ k, k ≤ 3 ∧ b = nI k := by
  rw [show (3 : Int32) = nI 3 from rfl] at h
  exact inB_nIr (by omega) h
theorem bindeta {α : Type} {A : Option (α × Hp)} : (A.bind fun q => some (q.1, q.2)) = A := by cases A <;> rfl
theorem op_mark (a b : Int32) : OP (fun g => f_X8_mark z (some (9, 0)) a b g) (fun g => f_X9_mark z (some (10, 0)) a b g) := by
  intro g V h hM0 _
  by_cases h1 : inB a 0 (V 10 15 - 1) = 0
  · refine op_same h hM0 (r := -1) ?_ ?_
    · simp only [f_X8_mark, ick_X, isPick8 h, Option.bind_some, h1, if_true]
    · simp only [f_X9_mark, ick_M, isPick9, Option.bind_some, h1, if_true]
  obtain ⟨p, hp, rfl⟩ := pkOf h h1
  have hp60 := h.v.hv.np.2
  by_cases h2 : inB b 0 3 = 0
  · refine op_same h hM0 (r := -1) ?_ ?_
    · simp only [f_X8_mark, ick_X, isPick8 h, Option.bind_some, if_neg h1, in8, h2, if_true]
    · simp only [f_X9_mark, ick_M, isPick9, Option.bind_some, if_neg h1, in9, h2, if_true]
  have hal : ∀ (c : Nat) (g1 : Hp), SM g1 → 40 ≤ c → c < 60 → mLen c = 60 → aldI (some (c, 0)) (nI p) (wM g1 V) = some (V c p) := fun c g1 hs hc hc2 hl => by
    rw [al_M hs hc hc2 (by rw [hl]; exact vp_n (by omega) (by decide)), nI_cl (show p < 2147483648 by omega)]
  by_cases h3 : b = 0 ∨ b = kdF V p ∨ (b = 1 ∧ kdF V p = 2)
  · refine op_same h hM0 (r := if b = 1 then V 50 p else if b = 2 then V 50 p else V 48 p) ?_ ?_
    · have his : f_X2_is z (some (3, p)) b g = some (1, g) := by
        simp only [f_X2_is, gI_X, Option.bind_some, h.p3 hp, rtZ_1]
        rcases h3 with e | e | ⟨e, e2⟩
        · rw [if_pos e]
        · by_cases e0 : b = 0
          · rw [if_pos e0]
          · rw [if_neg e0, if_pos e]
        · rw [e, e2]; rfl
      simp only [f_X8_mark, ick_X, isPick8 h, Option.bind_some, if_neg h1, in8, if_neg h2, gr_C h.b1, cRef, getP h hp, ckc_X, his, gI_X, h.p4 hp, h.p1 hp]
      rw [if_neg (by decide)]
      repeat' split
      all_goals rfl
    · simp only [f_X9_mark, ick_M, isPick9, Option.bind_some, if_neg h1, in9, if_neg h2, kindOf9 h.s h.v hp, gr_M h.s, mRef, hal 50 g h.s (by decide) (by decide) rfl, hal 48 g h.s (by decide) (by decide) rfl]
      rcases h3 with e | e | ⟨e, e2⟩
      · rw [if_pos e]
        repeat' split
        all_goals rfl
      · by_cases e0 : b = 0
        · rw [if_pos e0]
          repeat' split
          all_goals rfl
        · rw [if_neg e0, if_pos e]
          repeat' split
          all_goals rfl
      · subst e; rw [e2]; rfl
  · have n0 : ¬ b = 0 := fun e => h3 (Or.inl e)
    have nk : ¬ b = kdF V p := fun e => h3 (Or.inr (Or.inl e))
    refine of_found (z := z) (f := 3) h hM0 (by decide) ?_ ?_
    · have his : f_X2_is z (some (3, p)) b g = some (0, g) := by
        simp only [f_X2_is, gI_X, Option.bind_some, h.p3 hp, rtZ_1, rtZ_0, if_neg n0, if_neg nk]
        by_cases e1 : b = 1
        · rw [if_pos e1, if_neg (fun e2 => h3 (Or.inr (Or.inr ⟨e1, e2⟩)))]
        · rw [if_neg e1]
      simp only [f_X8_mark, ick_X, isPick8 h, Option.bind_some, if_neg h1, in8, if_neg h2, gr_C h.b1, cRef, getP h hp, ckc_X, his, if_true, bindeta]
      rfl
    · intro g1 _ hs
      simp only [f_X9_mark, ick_M, isPick9, Option.bind_some, if_neg h1, in9, if_neg h2, kindOf9 hs h.v hp, if_neg n0, if_neg nk, bindeta]
      by_cases e1 : b = 1
      · rw [if_pos e1, if_neg (fun e2 => h3 (Or.inr (Or.inr ⟨e1, e2⟩)))]; rfl
      · rw [if_neg e1]; rfl
end WRI
