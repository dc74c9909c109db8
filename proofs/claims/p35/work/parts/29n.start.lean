/-! the class's start, its table -/
def V0 : VV := fun c k => if c = 10 then (if k = 4 then 2 else if k = 3 then 100 else 0) else if c = 43 then -9 else if c = 45 then (if k < 5 then nI (4 * k) else if k = 5 then 61 else 0) else 0
theorem start_core {I : Nm → Nat → Int32} {gA : Hp} (hI0 : ∀ n k, n.1 ≠ 20 → I n k = 0) (hI20 : ∀ k, k < 144 → I (20, 0) k = nI (isq (100 * ((k / 12) * (k / 12) + (k % 12) * (k % 12))))) (aR : ∀ m j, gR gA m j = if m = (9, 0) ∧ j = 8 then some (24, 0) else if m = (24, 0) then none else if m = (9, 0) ∧ j = 7 then some (23, 0) else if m = (23, 0) then none else if m = (9, 0) ∧ j = 6 then some (1, 0) else if m = (1, 0) ∧ j = 1 then some (22, 0) else if m = (22, 0) then none else if m = (1, 0) ∧ j = 0 then some (21, 0) else if m = (21, 0) then none else if m = (1, 0) then none else if m = (9, 0) ∧ j = 5 then some (0, 4) else if m = (0, 4) ∧ j = 1 then some (17, 0) else if m = (0, 4) then none else if m = (9, 0) ∧ j = 4 then some (0, 3) else if m = (0, 3) ∧ j = 1 then some (17, 0) else if m = (0, 3) then none else if m = (9, 0) ∧ j = 3 then some (0, 2) else if m = (0, 2) ∧ j = 1 then some (17, 0) else if m = (0, 2) then none else if m = (9, 0) ∧ j = 2 then some (0, 1) else if m = (0, 1) ∧ j = 1 then some (17, 0) else if m = (0, 1) then none else if m = (9, 0) ∧ j = 1 then some (0, 0) else if m = (0, 0) ∧ j = 1 then some (17, 0) else if m = (0, 0) then none else if m = (9, 0) ∧ j = 0 then some (8, 0) else if m = (8, 0) ∧ j = 0 then some (20, 0) else if m = (20, 0) then none else if m = (8, 0) then none else if m = (9, 0) then none else none) (aN : ∀ m, gN gA m = if m = (24, 0) then 6 else if m = (23, 0) then 6 else if m = (22, 0) then 144 else if m = (21, 0) then 144 else if m = (1, 0) then 0 else if m = (0, 4) then 0 else if m = (0, 3) then 0 else if m = (0, 2) then 0 else if m = (0, 1) then 0 else if m = (0, 0) then 0 else if m = (20, 0) then 144 else if m = (8, 0) then 0 else if m = (9, 0) then 0 else 0) (aI : ∀ m j, gI gA m j = if m = (9, 0) ∧ j = 11 then 2 else if m = (24, 0) then 0 else if m = (23, 0) ∧ j = 5 then 61 else if m = (23, 0) ∧ j = 4 then 16 else if m = (23, 0) ∧ j = 3 then 12 else if m = (23, 0) ∧ j = 2 then 8 else if m = (23, 0) ∧ j = 1 then 4 else if m = (23, 0) ∧ j = 0 then 0 else if m = (23, 0) then 0 else if m = (1, 0) ∧ j = 5 then -9 else if m = (22, 0) then 0 else if m = (21, 0) then 0 else if m = (1, 0) then 0 else if m = (0, 4) ∧ j = 0 then 0 else if m = (0, 4) then 0 else if m = (0, 3) ∧ j = 0 then 0 else if m = (0, 3) then 0 else if m = (0, 2) ∧ j = 0 then 0 else if m = (0, 2) then 0 else if m = (0, 1) ∧ j = 0 then 0 else if m = (0, 1) then 0 else if m = (0, 0) ∧ j = 0 then 0 else if m = (0, 0) then 0 else I m j) (aC : ∀ i, gR gA (9, 0) i = cRef i) (aL : gL gA = l3 ++ [(1, 0), (21, 0), (22, 0), (23, 0), (24, 0)]) (bcs : gc gA = 13 ∧ gs gA = 480) : IN gA V0 := by
  generalize hV : V0 = V
  have v10 : ∀ k, V 10 k = if k = 4 then 2 else if k = 3 then 100 else 0 := fun k => by rw [← hV]; rfl
  have vz : ∀ d k, d ≠ 10 → d ≠ 43 → d ≠ 45 → V d k = 0 := fun d k h0 h1 h2 => by
    rw [← hV]; unfold V0; rw [if_neg h0, if_neg h1, if_neg h2]
  have v43 : ∀ k, V 43 k = -9 := fun k => by rw [← hV]; rfl
  have v45 : ∀ k, V 45 k = if k < 5 then nI (4 * k) else if k = 5 then 61 else 0 := fun k => by rw [← hV]; rfl
  have no : ∀ c i, c ∈ [12, 13, 14, 15, 16, 6, 5, 25, 7, 3, 4, 26, 27, 28, 2] → (c, i) ∉ gL gA := fun c i hc w => by
    simp only [List.mem_cons, List.not_mem_nil, or_false] at hc
    have w2 : (c, i) ∈ l3 ++ [(1, 0), (21, 0), (22, 0), (23, 0), (24, 0)] := by
      rw [← aL]
      exact w
    unfold l3 at w2
    rcases hc with rfl | rfl | rfl | rfl | rfl | rfl | rfl | rfl | rfl | rfl | rfl | rfl | rfl | rfl | rfl
    all_goals simp at w2
  have n6 : nst V = 0 := by unfold nst; rw [v10]; decide
  have n9 : ntw V = 0 := by unfold ntw; rw [v10]; decide
  have n15 : npk V = 0 := by unfold npk; rw [v10]; decide
  have n20 : nqk V = 0 := by unfold nqk; rw [v10]; decide
  have n24 : nms V = 0 := by unfold nms; rw [v10]; decide
  have nk : kp V = 0 := by unfold kp; rw [n24]; decide
  have n3 : slo V = 100 := by unfold slo; rw [v10]; decide
  have n4 : err V = 2 := by unfold err; rw [v10]; decide
  have n5 : nw V = 0 := by unfold nw; rw [v10]; decide
  have s0 : ∀ j, j < 5 → gI gA (0, j) 2 = nI 0 := fun j hj => by
    rw [aI]
    rcases (by omega : j = 0 ∨ j = 1 ∨ j = 2 ∨ j = 3 ∨ j = 4) with rfl | rfl | rfl | rfl | rfl
    all_goals (simp; rfl)
  have r1 : ∀ j, j < 5 → gR gA (0, j) 1 = some (17, 0) := fun j hj => by
    rw [aR]
    rcases (by omega : j = 0 ∨ j = 1 ∨ j = 2 ∨ j = 3 ∨ j = 4) with rfl | rfl | rfl | rfl | rfl
    all_goals simp
  have hLR : ∀ j c, j < 5 → LR gA.1 j c 0 := fun j c hj => Or.inl ⟨rfl, r1 j hj, fun e => no (12 + j) e (by simp; omega)⟩
  refine ⟨trivial, trivial, ?_, ?_, ?_, ?_, ?_, ?_⟩
  · refine ⟨⟨?_, ?_, ?_, ?_, ?_, fun s hs => ?_, fun p hp => ?_⟩, ?_, ?_, ?_, fun s hs => ?_, fun t ht => ?_, fun p hp => ?_, fun q hq => ?_, fun p p2 hp _ => ?_, fun q t k h1 h2 h3 h4 => Or.inl (vz 55 _ (by decide) (by decide) (by decide))⟩
    · rw [n6, v10]; exact ⟨by decide, by decide⟩
    · rw [n15, v10]; exact ⟨by decide, by decide⟩
    · rw [n3, v10]; exact ⟨by decide, by decide⟩
    · rw [n4, v10]; exact ⟨by decide, by decide⟩
    · rw [n5, v10]; exact ⟨by decide, by decide⟩
    · rw [n6] at hs; omega
    · rw [n15] at hp; omega
    · rw [n9, v10]; exact ⟨by decide, by decide⟩
    · rw [n20, v10]; exact ⟨by decide, by decide⟩
    · rw [n24, v10]; decide
    · rw [n6] at hs; omega
    · rw [n9] at ht; omega
    · rw [n15] at hp; omega
    · rw [n20] at hq; omega
    · rw [n15] at hp; omega
  · refine ⟨⟨⟨fun i => ?_, ?_, ?_, ?_⟩, ?_, ?_, ?_, ?_, ?_⟩, ⟨?_, fun i hi => ?_, fun i _ => ⟨no 6 i (by simp), no 5 i (by simp), no 25 i (by simp)⟩⟩, ⟨?_, fun i _ => no 7 i (by simp)⟩, ⟨?_, fun i _ => no 3 i (by simp)⟩, ⟨?_, fun i hi => ?_, fun i _ => ⟨no 4 i (by simp), no 26 i (by simp), no 27 i (by simp), no 28 i (by simp)⟩⟩, ⟨?_, fun i _ => no 2 i (by simp)⟩⟩
    · show gR gA (9, 0) i = cRef i
      rw [aC]
    · show gR gA (8, 0) 0 = some (20, 0)
      rw [aR]; simp
    · show gR gA (1, 0) 0 = some (21, 0)
      rw [aR]; simp
    · show gR gA (1, 0) 1 = some (22, 0)
      rw [aR]; simp
    · show gN gA (20, 0) = 144
      rw [aN]; simp
    · show gN gA (21, 0) = 144
      rw [aN]; simp
    · show gN gA (22, 0) = 144
      rw [aN]; simp
    · show gN gA (23, 0) = 6
      rw [aN]; simp
    · show gN gA (24, 0) = 6
      rw [aN]; simp
    · rw [n6]; exact hLR 0 6 (by decide)
    · rw [n6] at hi; omega
    · rw [n9]; exact hLR 1 7 (by decide)
    · rw [n15]; exact hLR 2 3 (by decide)
    · rw [n20]; exact hLR 3 4 (by decide)
    · rw [n20] at hi; omega
    · rw [nk]; exact hLR 4 2 (by decide)
  · intro n k v hz hk
    obtain ⟨c, i⟩ := n
    have hc := cI_cls hk
    simp only [List.mem_cons, List.not_mem_nil, or_false] at hc
    rcases hc with rfl | rfl | rfl | rfl | rfl | rfl | rfl | rfl | rfl | rfl | rfl | rfl | rfl | rfl | rfl
    · refine cI0 (V2 := V) ⟨?_, ?_, ?_, ?_, ?_⟩ hk
      · rw [n6]; exact s0 0 (by decide)
      · rw [n9]; exact s0 1 (by decide)
      · rw [n15]; exact s0 2 (by decide)
      · rw [n20]; exact s0 3 (by decide)
      · rw [nk]; exact s0 4 (by decide)
    · simp [cI, nk] at hk
    · simp [cI, n15] at hk
    · simp [cI, n20] at hk
    · simp [cI, n6] at hk
    · simp [cI, n6] at hk
    · simp [cI, n9] at hk
    · have hi : i = 0 := hz (by simp)
      subst hi
      rw [aI]
      by_cases k9 : k = 9
      · subst k9; simp [cI, v10] at hk; simp [hI0, hk]
      by_cases k10 : k = 10
      · subst k10; simp [cI, v10] at hk; simp [hI0, hk]
      by_cases k11 : k = 11
      · subst k11; simp [cI, v10] at hk; simp [hk]
      by_cases k12 : k = 12
      · subst k12; simp [cI, v10] at hk; simp [hI0, hk]
      by_cases k13 : k = 13
      · subst k13; simp [cI, v10] at hk; simp [hI0, hk]
      simp [cI, k9, k10, k11, k12, k13] at hk
    · have hi : i = 0 := hz (by simp)
      subst hi
      rw [aI]
      simp [cI, n3] at hk
      rw [← hk.2]
      simp
      exact hI20 k hk.1
    · have hi : i = 0 := hz (by simp)
      subst hi
      rw [aI]
      simp [cI] at hk
      rw [← hk.2, v45]
      rcases (by have := hk.1; omega : k = 0 ∨ k = 1 ∨ k = 2 ∨ k = 3 ∨ k = 4 ∨ k = 5) with rfl | rfl | rfl | rfl | rfl | rfl
      · simp; decide
      · simp; decide
      · simp; decide
      · simp; decide
      · simp; decide
      · simp
    · have hi : i = 0 := hz (by simp)
      subst hi
      rw [aI]
      simp [cI] at hk
      rw [← hk.2, vz 40 k (by decide) (by decide) (by decide)]
      simp
    · simp [cI, n6] at hk
    · simp [cI, n20] at hk
    · simp [cI, n20] at hk
    · simp [cI, n20] at hk
  · refine Or.inl ?_
    rw [aI]; simp
  · unfold CB
    rw [bcs.1, bcs.2]
    exact ⟨by omega, by omega⟩
  · refine ⟨fun s _ h2 => ⟨vz 60 s (by decide) (by decide) (by decide), v43 s, fun k _ => vz 44 _ (by decide) (by decide) (by decide)⟩, fun q _ _ j _ => vz 55 _ (by decide) (by decide) (by decide)⟩
theorem start35 {I : Nm → Nat → Int32} (hI0 : ∀ n k, n.1 ≠ 20 → I n k = 0) (hI20 : ∀ k, k < 144 → I (20, 0) k = nI (isq (100 * ((k / 12) * (k / 12) + (k % 12) * (k % 12))))) : IN (gA6 I) V0 :=
  start_core hI0 hI20 (fun _ _ => A6_R) (fun _ => A6_N) (fun _ _ => A6_I) (fun i => A6_c i) (gL_A6 I) ⟨rfl, rfl⟩
