section MAD
variable {z : Nat}
def PC (j : Nat) (C : List Nat) (m : Nm) : Prop := m = (0, j) ∨ m.1 ∈ C
theorem PC.n {j : Nat} {C : List Nat} {c i : Nat} (h : c ∉ C) (h0 : c ≠ 0) : ¬ PC j C (c, i) := fun q => q.elim (fun e => h0 (congrArg Prod.fst e)) h
theorem PC.n0 {j : Nat} {C : List Nat} {i : Nat} (h : 0 ∉ C) (h0 : i ≠ j) : ¬ PC j C (0, i) := fun q => q.elim (fun e => h0 (congrArg Prod.snd e)) h
theorem LR.fr {j2 : Nat} {C : List Nat} {g g2 : Hp} (hf : Fr (PC j2 C) g g2) {j c n : Nat} (hj : j ≠ j2) (h0 : 0 ∉ C) (hC : 12 + j ∉ C) (h : LR g.1 j c n) : LR g2.1 j c n := by
  have a1 : gR g2 (0, j) = gR g (0, j) := (hf (0, j) (PC.n0 h0 hj)).2.1
  have a2 := fun e => hf (12 + j, e) (PC.n hC (by omega))
  rcases h with ⟨b1, b2, b3⟩ | ⟨e, b1, b2, b3, b4, b5, b6, b7⟩
  · exact Or.inl ⟨b1, (congrFun a1 1).trans b2, fun e => fun q => b3 e ((a2 e).2.2.2.mp q)⟩
  · refine Or.inr ⟨e, (congrFun a1 1).trans b1, ?_, ?_, ?_, (a2 e).2.2.2.mpr b5, fun e2 he q => b6 e2 he ((a2 e2).2.2.2.mp q), fun i hi => (congrFun (a2 e).2.1 i).trans (b7 i hi)⟩
    · show n ≤ gN g2 (12 + j, e); rw [(a2 e).2.2.1]; exact b2
    · show 0 < gN g2 (12 + j, e); rw [(a2 e).2.2.1]; exact b3
    · show gN g2 (12 + j, e) ≤ _; rw [(a2 e).2.2.1]; exact b4
variable {j2 : Nat} {C : List Nat} {g g2 : Hp}
theorem fr_nm (hf : Fr (PC j2 C) g g2) {c i : Nat} (h : c ∉ C) (h0 : c ≠ 0) : (c, i) ∉ gL g → (c, i) ∉ gL g2 := fun hn q => hn ((hf (c, i) (PC.n h h0)).2.2.2.mp q)
theorem fr_R (hf : Fr (PC j2 C) g g2) {c i k : Nat} (h : c ∉ C) (h0 : c ≠ 0) : gR g2 (c, i) k = gR g (c, i) k := congrFun (hf (c, i) (PC.n h h0)).2.1 k
theorem fr_N (hf : Fr (PC j2 C) g g2) {c i : Nat} (h : c ∉ C) (h0 : c ≠ 0) : gN g2 (c, i) = gN g (c, i) := (hf (c, i) (PC.n h h0)).2.2.1
theorem fr_I (hf : Fr (PC j2 C) g g2) {c i k : Nat} (h : c ∉ C) (h0 : c ≠ 0) : gI g2 (c, i) k = gI g (c, i) k := congrFun (hf (c, i) (PC.n h h0)).1 k
theorem RC1.fr (hf : Fr (PC j2 C) g g2) (hC : dj [9, 8, 1, 20, 21, 22, 23, 24] C = true) (h : RC1 g.1) : RC1 g2.1 := by
  have hx : ∀ c, c ∈ [9, 8, 1, 20, 21, 22, 23, 24] → c ∉ C := fun c hc => dj_x hC hc
  obtain ⟨⟨a1, a2, a3, a4⟩, b1, b2, b3, b4, b5⟩ := h
  exact ⟨⟨fun i => (fr_R hf (hx 9 (by decide)) (by decide)).trans (a1 i), (fr_R hf (hx 8 (by decide)) (by decide)).trans a2, (fr_R hf (hx 1 (by decide)) (by decide)).trans a3, (fr_R hf (hx 1 (by decide)) (by decide)).trans a4⟩, (fr_N hf (hx 20 (by decide)) (by decide)).trans b1, (fr_N hf (hx 21 (by decide)) (by decide)).trans b2, (fr_N hf (hx 22 (by decide)) (by decide)).trans b3, (fr_N hf (hx 23 (by decide)) (by decide)).trans b4, (fr_N hf (hx 24 (by decide)) (by decide)).trans b5⟩
theorem RCs.fr (hf : Fr (PC j2 C) g g2) (hC : dj [0, 12, 6, 5, 25] C = true) (hj : 0 ≠ j2) {a : Nat} (h : RCs g.1 a) : RCs g2.1 a := by
  have hx : ∀ c, c ∈ [0, 12, 6, 5, 25] → c ∉ C := fun c hc => dj_x hC hc
  obtain ⟨a1, a2, a3⟩ := h
  exact ⟨a1.fr hf hj (hx 0 (by decide)) (hx 12 (by decide)), fun i hi => ⟨(fr_R hf (hx 6 (by decide)) (by decide)).trans (a2 i hi).1, (fr_R hf (hx 5 (by decide)) (by decide)).trans (a2 i hi).2.1, (fr_N hf (hx 25 (by decide)) (by decide)).trans (a2 i hi).2.2⟩, fun i hi => ⟨fr_nm hf (hx 6 (by decide)) (by decide) (a3 i hi).1, fr_nm hf (hx 5 (by decide)) (by decide) (a3 i hi).2.1, fr_nm hf (hx 25 (by decide)) (by decide) (a3 i hi).2.2⟩⟩
theorem RCt.fr (hf : Fr (PC j2 C) g g2) (hC : dj [0, 13, 7] C = true) (hj : 1 ≠ j2) {a : Nat} (h : RCt g.1 a) : RCt g2.1 a := by
  have hx : ∀ c, c ∈ [0, 13, 7] → c ∉ C := fun c hc => dj_x hC hc
  exact ⟨h.1.fr hf hj (hx 0 (by decide)) (hx 13 (by decide)), fun i hi => fr_nm hf (hx 7 (by decide)) (by decide) (h.2 i hi)⟩
theorem RCp.fr (hf : Fr (PC j2 C) g g2) (hC : dj [0, 14, 3] C = true) (hj : 2 ≠ j2) {a : Nat} (h : RCp g.1 a) : RCp g2.1 a := by
  have hx : ∀ c, c ∈ [0, 14, 3] → c ∉ C := fun c hc => dj_x hC hc
  exact ⟨h.1.fr hf hj (hx 0 (by decide)) (hx 14 (by decide)), fun i hi => fr_nm hf (hx 3 (by decide)) (by decide) (h.2 i hi)⟩
theorem RCm.fr (hf : Fr (PC j2 C) g g2) (hC : dj [0, 16, 2] C = true) (hj : 4 ≠ j2) {a : Nat} (h : RCm g.1 a) : RCm g2.1 a := by
  have hx : ∀ c, c ∈ [0, 16, 2] → c ∉ C := fun c hc => dj_x hC hc
  exact ⟨h.1.fr hf hj (hx 0 (by decide)) (hx 16 (by decide)), fun i hi => fr_nm hf (hx 2 (by decide)) (by decide) (h.2 i hi)⟩
theorem RCq.fr (hf : Fr (PC j2 C) g g2) (hC : dj [0, 15, 4, 26, 27, 28] C = true) (hj : 3 ≠ j2) {a : Nat} (h : RCq g.1 a) : RCq g2.1 a := by
  have hx : ∀ c, c ∈ [0, 15, 4, 26, 27, 28] → c ∉ C := fun c hc => dj_x hC hc
  obtain ⟨a1, a2, a3⟩ := h
  exact ⟨a1.fr hf hj (hx 0 (by decide)) (hx 15 (by decide)), fun i hi => by
    obtain ⟨b1, b2, b3, b4, b5, b6⟩ := a2 i hi
    exact ⟨(fr_R hf (hx 4 (by decide)) (by decide)).trans b1, (fr_R hf (hx 4 (by decide)) (by decide)).trans b2, (fr_R hf (hx 4 (by decide)) (by decide)).trans b3, (fr_N hf (hx 26 (by decide)) (by decide)).trans b4, (fr_N hf (hx 27 (by decide)) (by decide)).trans b5, (fr_N hf (hx 28 (by decide)) (by decide)).trans b6⟩, fun i hi => ⟨fr_nm hf (hx 4 (by decide)) (by decide) (a3 i hi).1, fr_nm hf (hx 26 (by decide)) (by decide) (a3 i hi).2.1, fr_nm hf (hx 27 (by decide)) (by decide) (a3 i hi).2.2.1, fr_nm hf (hx 28 (by decide)) (by decide) (a3 i hi).2.2.2⟩⟩
theorem fr_SM (_ : Fr (PC j2 C) g g2) (_ : noM C = true) (_ : SM g) : SM g2 := trivial
theorem IN.made {D E : List Nat} {V V2 : VV} (h : IN g V) (hf : Fr (PC j2 C) g g2) (hev : Ev D E V V2) (hC : noM C = true) (hC1 : dj [9, 8, 1, 20, 21, 22, 23, 24] C = true) (hd : depOk (0 :: C) D E = true) (hv : VI V2) (hS : RCs g2.1 (nst V2)) (hT : RCt g2.1 (ntw V2)) (hP : RCp g2.1 (npk V2)) (hQ : RCq g2.1 (nqk V2)) (hM : RCm g2.1 (kp V2)) (h0 : gI g2 (0, 0) 2 = nI (nst V2) ∧ gI g2 (0, 1) 2 = nI (ntw V2) ∧ gI g2 (0, 2) 2 = nI (npk V2) ∧ gI g2 (0, 3) 2 = nI (nqk V2) ∧ gI g2 (0, 4) 2 = nI (kp V2)) (hI : ∀ c i k v, c ∈ C → Z0 (c, i) → cI V2 (c, i) k = some v → gI g2 (c, i) k = v) (hH : HC g2 V2) (hcb : CB g2 V2) (hvf : VF V2) : IN (wM g2 V2) V2 := by
  have hrc : RC g2.1 V2 := ⟨RC1.fr hf hC1 h.b1, hS, hT, hP, hQ, hM⟩
  have hsm : SM g2 := fr_SM hf hC h.s
  refine ⟨trivial, hsm, hv, hrc, ?_, hH.w, hcb, hvf⟩
  intro n k v hz hk
  rw [wM_C (cI_cls hk)]
  obtain ⟨c, i⟩ := n
  by_cases hn : c ∈ C
  · exact hI c i k v hn hz hk
  · by_cases c0 : c = 0
    · subst c0
      obtain ⟨z0, z1, z2, z3, z4⟩ := h0
      simp only [cI, if_true] at hk
      by_cases hk2 : k = 2
      · subst hk2
        simp only [if_true] at hk
        by_cases i0 : i = 0
        · subst i0; simp at hk; rw [z0]; exact hk
        by_cases i1 : i = 1
        · subst i1; simp at hk; rw [z1]; exact hk
        by_cases i2 : i = 2
        · subst i2; simp at hk; rw [z2]; exact hk
        by_cases i3 : i = 3
        · subst i3; simp at hk; rw [z3]; exact hk
        by_cases i4 : i = 4
        · subst i4; simp at hk; rw [z4]; exact hk
        simp [i0, i1, i2, i3, i4] at hk
      · simp [hk2] at hk
    · rw [fr_I hf hn c0]
      rw [cI_ev hev hd (n := (c, i)) (by simp [hn, c0])] at hk
      exact h.i hk hz
end MAD
