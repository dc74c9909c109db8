/-! the law's own rows: 29 the cells, 30 when shaking comes -/
section ARR
variable {z : Nat}
theorem IN.setA {g : Hp} {V : VV} (h : IN g V) {c k : Nat} {v : Int32} (hc : c = 29 ∨ c = 30) : IN (setI g (c, 0) k v) V := by
  have hch : Ch [29, 30] g (setI g (c, 0) k v) := Ch.set (by rcases hc with e | e <;> subst e <;> simp)
  refine h.upd (C := [29, 30]) (D := []) (E := []) (V2 := V) hch (Ev.rf _ _ _) (by decide) (by decide) h.v (fun n k v _ hn hk => ?_) (h.h.cg ((Ev.rf [] [] V).h (by decide) (by decide)) (fun k => hch.i (by decide)) (fun k => hch.i (by decide)) (fun k => hch.i (by decide))) h.vf
  have := cI_cls hk
  simp only [List.mem_cons, List.not_mem_nil, or_false] at hn
  rcases hn with e | e <;> rw [e] at this <;> exact absurd this (by decide)
theorem IN.newA {g : Hp} {V : VV} (h : IN g V) {c : Nat} (hc : c = 29 ∨ c = 30) (hcb : CB (newN g (c, 0) 9 9) V) : IN (newN g (c, 0) 9 9) V := by
  have F : Fr (PC 5 [29, 30]) g (newN g (c, 0) 9 9) := (Fr.nN (g := g) (n := (c, 0)) (l := 9) (s := 9)).mono (fun m hm => Or.inr (by rw [hm]; rcases hc with e | e <;> subst e <;> simp))
  refine ⟨trivial, trivial, h.v, ⟨RC1.fr F (by decide) h.b1, RCs.fr F (by decide) (by decide) h.r.2.1, RCt.fr F (by decide) (by decide) h.r.2.2.1, RCp.fr F (by decide) (by decide) h.r.2.2.2.1, RCq.fr F (by decide) (by decide) h.r.2.2.2.2.1, RCm.fr F (by decide) (by decide) h.r.2.2.2.2.2⟩, fun n k v hz hk => ?_, ?_, hcb, h.vf⟩
  · obtain ⟨c2, i⟩ := n
    have hm : c2 ∈ [0, 2, 3, 4, 5, 6, 7, 9, 20, 23, 24, 25, 26, 27, 28] := cI_cls hk
    have e : gI (newN g (c, 0) 9 9) (c2, i) k = gI g (c2, i) k := by
      refine gIn (fun w => ?_)
      have w1 : c2 = c := congrArg Prod.fst w
      rw [w1] at hm
      rcases hc with e | e <;> rw [e] at hm <;> exact absurd hm (by decide)
    rw [e]
    exact h.i hk hz
  · exact h.h.cg ((Ev.rf [] [] V).h (by decide) (by decide)) (fun k => fr_I F (by decide) (by decide)) (fun k => fr_I F (by decide) (by decide)) (fun k => fr_I F (by decide) (by decide))
/-- the rows' lengths -/
def AL (g : Hp) : Prop := gN g (29, 0) = 9 ∧ gN g (30, 0) = 9
theorem AL.fr {g g2 : Hp} (h : AL g) (hf : Fr PCl g g2) : AL g2 ∧ (∀ k, gI g2 (29, 0) k = gI g (29, 0) k) ∧ ∀ k, gI g2 (30, 0) k = gI g (30, 0) k := by
  obtain ⟨a1, a2, a3, -⟩ := hf (29, 0) (fun w => w.1 rfl)
  obtain ⟨b1, b2, b3, -⟩ := hf (30, 0) (fun w => w.2 rfl)
  exact ⟨⟨a3.trans h.1, b3.trans h.2⟩, fun k => congrFun a1 k, fun k => congrFun b1 k⟩
theorem ald29 {g : Hp} (h : AL g) {k : Nat} (hk : k < 9) : aldI (some (29, 0)) (nI k) g = some (gI g (29, 0) k) := ald_X h.1 (by decide) (by decide) hk (by decide)
theorem ald30 {g : Hp} (h : AL g) {k : Nat} (hk : k < 9) : aldI (some (30, 0)) (nI k) g = some (gI g (30, 0) k) := ald_X h.2 (by decide) (by decide) hk (by decide)
theorem ast29 {g : Hp} (h : AL g) {k : Nat} {v : Int32} (hk : k < 9) : astI (some (29, 0)) (nI k) v g = some (setI g (29, 0) k v) := ast_X h.1 (by decide) (by decide) hk (by decide)
theorem ast30 {g : Hp} (h : AL g) {k : Nat} {v : Int32} (hk : k < 9) : astI (some (30, 0)) (nI k) v g = some (setI g (30, 0) k v) := ast_X h.2 (by decide) (by decide) hk (by decide)
theorem AL.set {g : Hp} (h : AL g) {n : Nm} {k : Nat} {v : Int32} : AL (setI g n k v) := h
/-! the script, and small numbers out of it -/
def scv (L : Nat) (xs : Nat → Int32) (j : Nat) : Int32 := if L ≤ j then 40503 * nI j + 977 else xs j
theorem cellS {L : Nat} (hL : L ≤ 260) {xs : Nat → Int32} {j : Nat} (hj : j < 2147483648) (g : Hp) : f_L_cell z L xs (some (18, 0)) (nI j) g = some (scv L xs j, g) := by
  have hal : alnS (some (18, 0)) L = some (nI L) := if_pos rfl
  unfold f_L_cell scv
  rw [hal]
  simp only [Option.bind_some]
  by_cases h : L ≤ j
  · rw [if_pos h, if_pos ((nI_leI (by omega) (by omega)).mpr h)]
  · rw [if_neg h, if_neg (fun w => h ((nI_leI (by omega) (by omega)).mp w))]
    have e : aldS (some (18, 0)) (nI j) L xs = some (xs j) := by
      unfold aldS
      rw [if_pos ⟨rfl, vp_n (by omega) (by omega)⟩, nI_cl (by omega)]
    rw [e]; rfl
def lw (a : Int32) (N : Nat) : Nat := a.toBitVec.toNat % 2 ^ 31 % N
theorem lw_lt (a : Int32) {N : Nat} (h : 0 < N) : lw a N < N := Nat.mod_lt _ h
theorem lowS (a : Int32) {N : Nat} (h0 : 0 < N) (h1 : N < 2147483648) (g : Hp) : f_L_low z a (nI N) g = some (nI (lw a N), g) := by
  unfold f_L_low
  rw [pk_and a (m := 2147483647) 31 (by decide), rmI_n (Nat.mod_lt _ (by decide)) h0 h1]
  rfl
/-! which station comes next -/
def nx (P : Nat → Bool) (cm : Nat → Nat) : Nat → Option Nat
  | 0 => none
  | k + 1 => match nx P cm k with
    | none => if P k = true then none else some k
    | some j => if P k = true then some j else if cm j ≤ cm k then some j else some k
theorem nx_sp {P : Nat → Bool} {cm : Nat → Nat} : ∀ k, (nx P cm k = none ∧ ∀ i, i < k → P i = true) ∨ ∃ j, nx P cm k = some j ∧ j < k ∧ P j = false ∧ ∀ i, i < k → P i = false → cm j ≤ cm i
  | 0 => Or.inl ⟨rfl, fun i hi => absurd hi (Nat.not_lt_zero _)⟩
  | k + 1 => by
    have hc : ∀ i, i < k + 1 → i < k ∨ i = k := fun i hi => by omega
    rcases nx_sp (P := P) (cm := cm) k with ⟨h1, h2⟩ | ⟨j, h1, h2, h3, h4⟩
    · unfold nx
      rw [h1]
      cases hk : P k with
      | true =>
        refine Or.inl ⟨rfl, fun i hi => ?_⟩
        rcases hc i hi with e | e
        · exact h2 i e
        · rw [e]; exact hk
      | false =>
        refine Or.inr ⟨k, rfl, by omega, hk, fun i hi hp => ?_⟩
        rcases hc i hi with e | e
        · rw [h2 i e] at hp; exact absurd hp (by decide)
        · rw [e]; exact Nat.le_refl _
    · unfold nx
      rw [h1]
      cases hk : P k with
      | true =>
        refine Or.inr ⟨j, rfl, by omega, h3, fun i hi hp => ?_⟩
        rcases hc i hi with e | e
        · exact h4 i e hp
        · rw [e, hk] at hp; exact absurd hp (by decide)
      | false =>
        by_cases hle : cm j ≤ cm k
        · refine Or.inr ⟨j, ?_, by omega, h3, fun i hi hp => ?_⟩
          · simp [hle]
          · rcases hc i hi with e | e
            · exact h4 i e hp
            · rw [e]; exact hle
        · refine Or.inr ⟨k, ?_, by omega, hk, fun i hi hp => ?_⟩
          · simp [hle]
          · rcases hc i hi with e | e
            · have := h4 i e hp; omega
            · rw [e]; exact Nat.le_refl _
def enc : Option Nat → Int32
  | none => -1
  | some j => nI j
theorem enc_lt {r : Option Nat} (hr : ∀ j, r = some j → j < 100) : enc r < 0 ↔ r = none := by
  cases r with
  | none => exact ⟨fun _ => rfl, fun _ => by decide⟩
  | some j =>
    have := hr j rfl
    refine ⟨fun h => ?_, fun h => nomatch h⟩
    have := (nI_ltI (b := 0) (by omega) (by omega)).mp h
    omega
theorem nx_L {L n : Nat} {xs : Nat → Int32} {P : Nat → Bool} {cm : Nat → Nat} {g : Hp} (hn : n ≤ 8) (hA : AL g) (hc : ∀ i, i < n → cm i ≤ 400) (hg : ∀ i, i < n → gI g (30, 0) i = if P i = true then -1 else nI (cm i)) (p10 p9 p8 p7 p6 p2 : Int32) (p4 p1 p0 : Option Nm) : ∀ (m f k : Nat), k + m = n → m < f → f_L_law_251_L z L xs p10 p9 p8 p7 p6 (some (30, 0)) p4 (nI n) p2 p1 p0 f (nI k) (enc (nx P cm k)) g = some (nI n, enc (nx P cm n), g)
  | _, 0, _, _, h => absurd h (Nat.not_lt_zero _)
  | 0, f + 1, k, h1, _ => by
    show f_L_law_251_b z L xs p10 p9 p8 p7 p6 (some (30, 0)) p4 (nI n) p2 p1 p0 (f_L_law_251_L z L xs p10 p9 p8 p7 p6 (some (30, 0)) p4 (nI n) p2 p1 p0 f) (nI k) (enc (nx P cm k)) g = _
    unfold f_L_law_251_b
    have e : k = n := by omega
    subst e
    rw [if_pos ((nI_leI (by omega) (by omega)).mpr (Nat.le_refl _))]
  | m + 1, f + 1, k, h1, h2 => by
    have ih := nx_L (L := L) (xs := xs) hn hA hc hg p10 p9 p8 p7 p6 p2 p4 p1 p0 m f (k + 1) (by omega) (by omega)
    show f_L_law_251_b z L xs p10 p9 p8 p7 p6 (some (30, 0)) p4 (nI n) p2 p1 p0 (f_L_law_251_L z L xs p10 p9 p8 p7 p6 (some (30, 0)) p4 (nI n) p2 p1 p0 f) (nI k) (enc (nx P cm k)) g = _
    unfold f_L_law_251_b
    have hk : k < n := by omega
    have hck := hc k hk
    rw [if_neg (fun w => by have := (nI_leI (by omega) (by omega)).mp w; omega), ald30 hA (by omega), hg k hk]
    simp only [Option.bind_some, nI_1]
    rcases nx_sp (P := P) (cm := cm) k with ⟨a1, a2⟩ | ⟨j, a1, a2, a3, a4⟩
    · cases hP : P k with
      | true =>
        have e : nx P cm (k + 1) = none := by unfold nx; rw [a1]; simp [hP]
        rw [e] at ih
        rw [a1, if_pos rfl, if_pos (by decide)]
        exact ih
      | false =>
        have e : nx P cm (k + 1) = some k := by unfold nx; rw [a1]; simp [hP]
        rw [e] at ih
        rw [a1]
        simp only [Bool.false_eq_true, if_false]
        rw [if_neg (fun w => by have := (nI_ltI (b := 0) (by omega) (by omega)).mp w; omega), if_pos (show enc none < 0 from by decide)]
        exact ih
    · have hcj := hc j (by omega)
      cases hP : P k with
      | true =>
        have e : nx P cm (k + 1) = some j := by unfold nx; rw [a1]; simp [hP]
        rw [e] at ih
        rw [a1, if_pos rfl, if_pos (by decide)]
        exact ih
      | false =>
        have hgj := hg j (by omega)
        rw [a3, if_neg (by decide)] at hgj
        rw [a1]
        simp only [Bool.false_eq_true, if_false]
        rw [if_neg (fun w => by have := (nI_ltI (b := 0) (by omega) (by omega)).mp w; omega), if_neg (fun w => by have := (nI_ltI (b := 0) (by omega) (by omega)).mp (show nI j < nI 0 from w); omega)]
        rw [show enc (some j) = nI j from rfl, ald30 hA (show j < 9 by omega), hgj]
        simp only [Option.bind_some]
        by_cases hle : cm j ≤ cm k
        · have e : nx P cm (k + 1) = some j := by unfold nx; rw [a1]; simp [hP, hle]
          rw [e] at ih
          rw [if_pos ((nI_leI (by omega) (by omega)).mpr hle)]
          exact ih
        · have e : nx P cm (k + 1) = some k := by unfold nx; rw [a1]; simp [hP, hle]
          rw [e] at ih
          rw [if_neg (fun w => hle ((nI_leI (by omega) (by omega)).mp w))]
          exact ih
end ARR
