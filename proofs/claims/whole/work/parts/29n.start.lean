/-! the start is sound, whole -/
def BIG (m : Nm) : Prop := m.2 = 0 ∧ (m.1 = 10 ∨ 40 ≤ m.1)
theorem gcs_A6 {I : Nm → Nat → Int32} : gc (gA6 I) = 13 ∧ gs (gA6 I) = 480 := ⟨rfl, rfl⟩
theorem arr_cs {g : Hp} {c l k : Nat} : gc (arr g c l k) = gc g + 1 ∧ gs (arr g c l k) = gs g + l := ⟨rfl, rfl⟩
theorem b0_cs {I : Nm → Nat → Int32} : gc (gB0 I) = 15 ∧ gs (gB0 I) = 513 := by
  have h := gcs_A6 (I := I)
  have e1 : gc (gB0 I) = gc (gA6 I) + 1 + 1 := rfl
  have e2 : gs (gB0 I) = gs (gA6 I) + 27 + 6 := rfl
  omega
theorem bN_cs {I : Nm → Nat → Int32} : gc (gB16 I) = 31 ∧ gs (gB16 I) = 3168 := by
  have h0 := b0_cs (I := I)
  have h1 : gc (gB1 I) = gc (gB0 I) + 1 ∧ gs (gB1 I) = gs (gB0 I) + 10 := by rw [b1_e]; exact arr_cs
  have h2 : gc (gB2 I) = gc (gB1 I) + 1 ∧ gs (gB2 I) = gs (gB1 I) + 10 := by rw [b2_e]; exact arr_cs
  have h3 : gc (gB3 I) = gc (gB2 I) + 1 ∧ gs (gB3 I) = gs (gB2 I) + 6 := by rw [b3_e]; exact arr_cs
  have h4 : gc (gB4 I) = gc (gB3 I) + 1 ∧ gs (gB4 I) = gs (gB3 I) + 10 := by rw [b4_e]; exact arr_cs
  have h5 : gc (gB5 I) = gc (gB4 I) + 1 ∧ gs (gB5 I) = gs (gB4 I) + 300 := by rw [b5_e]; exact arr_cs
  have h6 : gc (gB6 I) = gc (gB5 I) + 1 ∧ gs (gB6 I) = gs (gB5 I) + 6 := by rw [b6_e]; exact arr_cs
  have h7 : gc (gB7 I) = gc (gB6 I) + 1 ∧ gs (gB7 I) = gs (gB6 I) + 30 := by rw [b7_e]; exact arr_cs
  have h8 : gc (gB8 I) = gc (gB7 I) + 1 ∧ gs (gB8 I) = gs (gB7 I) + 60 := by rw [b8_e]; exact arr_cs
  have h9 : gc (gB9 I) = gc (gB8 I) + 1 ∧ gs (gB9 I) = gs (gB8 I) + 60 := by rw [b9_e]; exact arr_cs
  have h10 : gc (gB10 I) = gc (gB9 I) + 1 ∧ gs (gB10 I) = gs (gB9 I) + 60 := by rw [b10_e]; exact arr_cs
  have h11 : gc (gB11 I) = gc (gB10 I) + 1 ∧ gs (gB11 I) = gs (gB10 I) + 60 := by rw [b11_e]; exact arr_cs
  have h12 : gc (gB12 I) = gc (gB11 I) + 1 ∧ gs (gB12 I) = gs (gB11 I) + 5 := by rw [b12_e]; exact arr_cs
  have h13 : gc (gB13 I) = gc (gB12 I) + 1 ∧ gs (gB13 I) = gs (gB12 I) + 144 := by rw [b13_e]; exact arr_cs
  have h14 : gc (gB14 I) = gc (gB13 I) + 1 ∧ gs (gB14 I) = gs (gB13 I) + 144 := by rw [b14_e]; exact arr_cs
  have h15 : gc (gB15 I) = gc (gB14 I) + 1 ∧ gs (gB15 I) = gs (gB14 I) + 1600 := by rw [b15_e]; exact arr_cs
  have h16 : gc (gB16 I) = gc (gB15 I) + 1 ∧ gs (gB16 I) = gs (gB15 I) + 150 := by rw [b16_e]; exact arr_cs
  omega
theorem V0_10 {I : Nm → Nat → Int32} {j : Nat} : gI (gB16 I) (10, 0) j = if j = 4 then 2 else if j = 3 then 100 else 0 := by
  rw [bN_I, b0_I]; simp
theorem V0_z {I : Nm → Nat → Int32} {d j : Nat} (h : d = 60 ∨ 40 ≤ d ∧ d ≤ 55) : gI (gB16 I) (d, 0) j = 0 := by
  rw [bN_I, b0_I]
  rcases (by omega : d = 60 ∨ d = 40 ∨ d = 41 ∨ d = 42 ∨ d = 43 ∨ d = 44 ∨ d = 45 ∨ d = 46 ∨ d = 47 ∨ d = 48 ∨ d = 49 ∨ d = 50 ∨ d = 51 ∨ d = 52 ∨ d = 53 ∨ d = 54 ∨ d = 55) with rfl | rfl | rfl | rfl | rfl | rfl | rfl | rfl | rfl | rfl | rfl | rfl | rfl | rfl | rfl | rfl | rfl
  all_goals simp
theorem start_core {I : Nm → Nat → Int32} {gA gB gM : Hp} (hI0 : ∀ n k, n.1 ≠ 20 → I n k = 0) (hI20 : ∀ k, k < 144 → I (20, 0) k = nI (isq (100 * ((k / 12) * (k / 12) + (k % 12) * (k % 12))))) (aR : ∀ m j, gR gA m j = if m = (9, 0) ∧ j = 8 then some (24, 0) else if m = (24, 0) then none else if m = (9, 0) ∧ j = 7 then some (23, 0) else if m = (23, 0) then none else if m = (9, 0) ∧ j = 6 then some (1, 0) else if m = (1, 0) ∧ j = 1 then some (22, 0) else if m = (22, 0) then none else if m = (1, 0) ∧ j = 0 then some (21, 0) else if m = (21, 0) then none else if m = (1, 0) then none else if m = (9, 0) ∧ j = 5 then some (0, 4) else if m = (0, 4) ∧ j = 1 then some (17, 0) else if m = (0, 4) then none else if m = (9, 0) ∧ j = 4 then some (0, 3) else if m = (0, 3) ∧ j = 1 then some (17, 0) else if m = (0, 3) then none else if m = (9, 0) ∧ j = 3 then some (0, 2) else if m = (0, 2) ∧ j = 1 then some (17, 0) else if m = (0, 2) then none else if m = (9, 0) ∧ j = 2 then some (0, 1) else if m = (0, 1) ∧ j = 1 then some (17, 0) else if m = (0, 1) then none else if m = (9, 0) ∧ j = 1 then some (0, 0) else if m = (0, 0) ∧ j = 1 then some (17, 0) else if m = (0, 0) then none else if m = (9, 0) ∧ j = 0 then some (8, 0) else if m = (8, 0) ∧ j = 0 then some (20, 0) else if m = (20, 0) then none else if m = (8, 0) then none else if m = (9, 0) then none else none) (aN : ∀ m, gN gA m = if m = (24, 0) then 6 else if m = (23, 0) then 6 else if m = (22, 0) then 144 else if m = (21, 0) then 144 else if m = (1, 0) then 0 else if m = (0, 4) then 0 else if m = (0, 3) then 0 else if m = (0, 2) then 0 else if m = (0, 1) then 0 else if m = (0, 0) then 0 else if m = (20, 0) then 144 else if m = (8, 0) then 0 else if m = (9, 0) then 0 else 0) (aI : ∀ m j, gI gA m j = if m = (9, 0) ∧ j = 11 then 2 else if m = (24, 0) then 0 else if m = (23, 0) ∧ j = 5 then 61 else if m = (23, 0) ∧ j = 4 then 16 else if m = (23, 0) ∧ j = 3 then 12 else if m = (23, 0) ∧ j = 2 then 8 else if m = (23, 0) ∧ j = 1 then 4 else if m = (23, 0) ∧ j = 0 then 0 else if m = (23, 0) then 0 else if m = (1, 0) ∧ j = 5 then -9 else if m = (22, 0) then 0 else if m = (21, 0) then 0 else if m = (1, 0) then 0 else if m = (0, 4) ∧ j = 0 then 0 else if m = (0, 4) then 0 else if m = (0, 3) ∧ j = 0 then 0 else if m = (0, 3) then 0 else if m = (0, 2) ∧ j = 0 then 0 else if m = (0, 2) then 0 else if m = (0, 1) ∧ j = 0 then 0 else if m = (0, 1) then 0 else if m = (0, 0) ∧ j = 0 then 0 else if m = (0, 0) then 0 else I m j) (aC : ∀ i, gR gA (9, 0) i = cRef i) (aL : gL gA = l3 ++ [(1, 0), (21, 0), (22, 0), (23, 0), (24, 0)]) (aD : ∀ d, 40 ≤ d → gN gA (d, 0) = 0) (F : Fr (fun m => m.2 = 0 ∧ (m.1 = 10 ∨ 40 ≤ m.1)) gA gB) (bR : ∀ j, gR gB (10, 0) j = mRef j) (bN : ∀ d, 40 ≤ d → gN gB (d, 0) = if d = 55 then 150 else if d = 54 then 1600 else if d = 53 then 144 else if d = 52 then 144 else if d = 51 then 5 else if d = 50 then 60 else if d = 49 then 60 else if d = 48 then 60 else if d = 47 then 60 else if d = 46 then 30 else if d = 45 then 6 else if d = 44 then 300 else if d = 43 then 10 else if d = 42 then 6 else if d = 60 then 10 else if d = 41 then 10 else if d = 40 then 6 else gN gA (d, 0)) (b10 : ∀ j, gI gB (10, 0) j = if j = 4 then 2 else if j = 3 then 100 else 0) (bz : ∀ d j, (d = 60 ∨ 40 ≤ d ∧ d ≤ 55) → gI gB (d, 0) j = 0) (bcs : gc gB = 31 ∧ gs gB = 3168) (e1 : gM.1 = gB.1) (e2 : gM.2.2 = gB.2.2) (e3 : ∀ nm, nm ≠ (43, 0) → nm ≠ (45, 0) → gI gM nm = gI gB nm) (e43 : ∀ k, k < 10 → gI gM (43, 0) k = -9) (e45 : gI gM (45, 0) 0 = 0) (e45b : ∀ k, 1 ≤ k → k < 5 → gI gM (45, 0) k = nI (4 * k)) (e45c : gI gM (45, 0) 5 = 61) : IN gM (fun c k => gI gM (c, 0) k) ∧ nms (fun c k => gI gM (c, 0) k) = 0 := by
  generalize hV : (fun c k => gI gM (c, 0) k : VV) = V
  have vI : ∀ c k, V c k = gI gM (c, 0) k := fun c k => by rw [← hV]
  have v10 : ∀ k, V 10 k = if k = 4 then 2 else if k = 3 then 100 else 0 := fun k => by
    rw [vI, e3 _ (by simp) (by simp), b10]
  have vz : ∀ d k, d = 60 ∨ 40 ≤ d ∧ d ≤ 55 → d ≠ 43 → d ≠ 45 → V d k = 0 := fun d k h h1 h2 => by
    rw [vI, e3 _ (by simp [h1]) (by simp [h2]), bz _ _ h]
  have rM : gR gM = gR gB := congrArg (fun w : HR => w.2.1) e1
  have nM : gN gM = gN gB := congrArg (fun w : HR => w.2.2) e1
  have lM : gL gM = gL gB := congrArg (fun w : HR => w.1) e1
  have cR : ∀ c i k, c ≠ 10 → c < 40 → gR gM (c, i) k = gR gA (c, i) k := fun c i k h1 h2 => by
    rw [rM]
    exact congrFun (F (c, i) (fun w => by have w1 : c = 10 ∨ 40 ≤ c := w.2; omega)).2.1 k
  have cN : ∀ c i, c ≠ 10 → c < 40 → gN gM (c, i) = gN gA (c, i) := fun c i h1 h2 => by
    rw [nM]
    exact (F (c, i) (fun w => by have w1 : c = 10 ∨ 40 ≤ c := w.2; omega)).2.2.1
  have cL : ∀ c i, c ≠ 10 → c < 40 → ((c, i) ∈ gL gM ↔ (c, i) ∈ gL gA) := fun c i h1 h2 => by
    rw [lM]
    exact (F (c, i) (fun w => by have w1 : c = 10 ∨ 40 ≤ c := w.2; omega)).2.2.2
  have cE : ∀ c i k, c ≠ 10 → c < 40 → gI gM (c, i) k = gI gA (c, i) k := fun c i k h1 h2 => by
    rw [e3 (c, i) (by simp; omega) (by simp; omega)]
    exact congrFun (F (c, i) (fun w => by have w1 : c = 10 ∨ 40 ≤ c := w.2; omega)).1 k
  have no : ∀ c i, c ∈ [12, 13, 14, 15, 16, 6, 5, 25, 7, 3, 4, 26, 27, 28, 2] → (c, i) ∉ gL gM := fun c i hc w => by
    simp only [List.mem_cons, List.not_mem_nil, or_false] at hc
    have w2 : (c, i) ∈ l3 ++ [(1, 0), (21, 0), (22, 0), (23, 0), (24, 0)] := by
      rw [← aL]
      exact (cL c i (by omega) (by omega)).mp w
    unfold l3 at w2
    rcases hc with rfl | rfl | rfl | rfl | rfl | rfl | rfl | rfl | rfl | rfl | rfl | rfl | rfl | rfl | rfl
    all_goals simp at w2
  have n6 : nst V = 0 := by unfold nst; rw [v10]; decide
  have n9 : ntw V = 0 := by unfold ntw; rw [v10]; decide
  have n15 : npk V = 0 := by unfold npk; rw [v10]; decide
  have n20 : nqk V = 0 := by unfold nqk; rw [v10]; decide
  have n24 : nms V = 0 := by unfold nms; rw [v10]; decide
  have nk : kp V = 0 := by unfold kp; rw [n24]; decide
  have n3 : slo V = 100 := by unfold slo; rw [v10]; decide
  have n4 : err V = 2 := by unfold err; rw [v10]; decide
  have n5 : nw V = 0 := by unfold nw; rw [v10]; decide
  have s0 : ∀ j, j < 5 → gI gM (0, j) 2 = nI 0 := fun j hj => by
    rw [cE 0 j 2 (by decide) (by decide), aI]
    rcases (by omega : j = 0 ∨ j = 1 ∨ j = 2 ∨ j = 3 ∨ j = 4) with rfl | rfl | rfl | rfl | rfl
    all_goals (simp; rfl)
  have r1 : ∀ j, j < 5 → gR gM (0, j) 1 = some (17, 0) := fun j hj => by
    rw [cR 0 j 1 (by decide) (by decide), aR]
    rcases (by omega : j = 0 ∨ j = 1 ∨ j = 2 ∨ j = 3 ∨ j = 4) with rfl | rfl | rfl | rfl | rfl
    all_goals simp
  have hLR : ∀ j c, j < 5 → LR gM.1 j c 0 := fun j c hj => Or.inl ⟨rfl, r1 j hj, fun e => no (12 + j) e (by simp; omega)⟩
  refine ⟨⟨trivial, ⟨fun k => by rw [rM]; exact bR k, fun c hc => ?_⟩, ?_, ?_, ?_, ?_, ?_, ?_⟩, n24⟩
  · rw [nM, bN c hc, aD c hc]
    by_cases h : c ≤ 60
    · rcases (by omega : c = 40 ∨ c = 41 ∨ c = 42 ∨ c = 43 ∨ c = 44 ∨ c = 45 ∨ c = 46 ∨ c = 47 ∨ c = 48 ∨ c = 49 ∨ c = 50 ∨ c = 51 ∨ c = 52 ∨ c = 53 ∨ c = 54 ∨ c = 55 ∨ c = 56 ∨ c = 57 ∨ c = 58 ∨ c = 59 ∨ c = 60) with rfl | rfl | rfl | rfl | rfl | rfl | rfl | rfl | rfl | rfl | rfl | rfl | rfl | rfl | rfl | rfl | rfl | rfl | rfl | rfl | rfl
      all_goals simp [mLen]
    · obtain ⟨i, rfl⟩ : ∃ i, c = i + 61 := ⟨c - 61, by omega⟩
      simp [mLen]
  · refine ⟨⟨?_, ?_, ?_, ?_, ?_, fun s hs => ?_, fun p hp => ?_⟩, ?_, ?_, ?_, fun s hs => ?_, fun t ht => ?_, fun p hp => ?_, fun q hq => ?_, fun p p2 hp _ => ?_, fun q t k h1 h2 h3 h4 => Or.inl (vz 55 _ (Or.inr ⟨by decide, by decide⟩) (by decide) (by decide))⟩
    · rw [n6, v10]; exact ⟨by decide, by decide⟩
    · rw [n15, v10]; exact ⟨by decide, by decide⟩
    · rw [n3, v10]; exact ⟨by decide, by decide⟩
    · rw [n4, v10]; exact ⟨by decide, by decide⟩
    · rw [n5, v10]; exact ⟨by decide, by decide⟩
    · rw [n6] at hs; omega
    · rw [n15] at hp; omega
    · rw [n9, v10]; exact ⟨by decide, by decide⟩
    · rw [n20, v10]; exact ⟨by decide, by decide⟩
    · rw [n24, v10]; decide
    · rw [n6] at hs; omega
    · rw [n9] at ht; omega
    · rw [n15] at hp; omega
    · rw [n20] at hq; omega
    · rw [n15] at hp; omega
  · refine ⟨⟨⟨fun i => ?_, ?_, ?_, ?_⟩, ?_, ?_, ?_, ?_, ?_⟩, ⟨?_, fun i hi => ?_, fun i _ => ⟨no 6 i (by simp), no 5 i (by simp), no 25 i (by simp)⟩⟩, ⟨?_, fun i _ => no 7 i (by simp)⟩, ⟨?_, fun i _ => no 3 i (by simp)⟩, ⟨?_, fun i hi => ?_, fun i _ => ⟨no 4 i (by simp), no 26 i (by simp), no 27 i (by simp), no 28 i (by simp)⟩⟩, ⟨?_, fun i _ => no 2 i (by simp)⟩⟩
    · show gR gM (9, 0) i = cRef i
      rw [cR 9 0 i (by decide) (by decide), aC]
    · show gR gM (8, 0) 0 = some (20, 0)
      rw [cR 8 0 0 (by decide) (by decide), aR]; simp
    · show gR gM (1, 0) 0 = some (21, 0)
      rw [cR 1 0 0 (by decide) (by decide), aR]; simp
    · show gR gM (1, 0) 1 = some (22, 0)
      rw [cR 1 0 1 (by decide) (by decide), aR]; simp
    · show gN gM (20, 0) = 144
      rw [cN 20 0 (by decide) (by decide), aN]; simp
    · show gN gM (21, 0) = 144
      rw [cN 21 0 (by decide) (by decide), aN]; simp
    · show gN gM (22, 0) = 144
      rw [cN 22 0 (by decide) (by decide), aN]; simp
    · show gN gM (23, 0) = 6
      rw [cN 23 0 (by decide) (by decide), aN]; simp
    · show gN gM (24, 0) = 6
      rw [cN 24 0 (by decide) (by decide), aN]; simp
    · rw [n6]; exact hLR 0 6 (by decide)
    · rw [n6] at hi; omega
    · rw [n9]; exact hLR 1 7 (by decide)
    · rw [n15]; exact hLR 2 3 (by decide)
    · rw [n20]; exact hLR 3 4 (by decide)
    · rw [n20] at hi; omega
    · rw [nk]; exact hLR 4 2 (by decide)
  · intro n k v hz hk
    obtain ⟨c, i⟩ := n
    have hc := cI_cls hk
    simp only [List.mem_cons, List.not_mem_nil, or_false] at hc
    rcases hc with rfl | rfl | rfl | rfl | rfl | rfl | rfl | rfl | rfl | rfl | rfl | rfl | rfl | rfl | rfl
    · refine cI0 (V2 := V) ⟨?_, ?_, ?_, ?_, ?_⟩ hk
      · rw [n6]; exact s0 0 (by decide)
      · rw [n9]; exact s0 1 (by decide)
      · rw [n15]; exact s0 2 (by decide)
      · rw [n20]; exact s0 3 (by decide)
      · rw [nk]; exact s0 4 (by decide)
    · simp [cI, nk] at hk
    · simp [cI, n15] at hk
    · simp [cI, n20] at hk
    · simp [cI, n6] at hk
    · simp [cI, n6] at hk
    · simp [cI, n9] at hk
    · have hi : i = 0 := hz (by simp)
      subst hi
      rw [cE 9 0 k (by decide) (by decide), aI]
      by_cases k9 : k = 9
      · subst k9; simp [cI, v10] at hk; simp [hI0, hk]
      by_cases k10 : k = 10
      · subst k10; simp [cI, v10] at hk; simp [hI0, hk]
      by_cases k11 : k = 11
      · subst k11; simp [cI, v10] at hk; simp [hk]
      by_cases k12 : k = 12
      · subst k12; simp [cI, v10] at hk; simp [hI0, hk]
      by_cases k13 : k = 13
      · subst k13; simp [cI, v10] at hk; simp [hI0, hk]
      simp [cI, k9, k10, k11, k12, k13] at hk
    · have hi : i = 0 := hz (by simp)
      subst hi
      rw [cE 20 0 k (by decide) (by decide), aI]
      simp [cI, n3] at hk
      rw [← hk.2]
      simp
      exact hI20 k hk.1
    · have hi : i = 0 := hz (by simp)
      subst hi
      rw [cE 23 0 k (by decide) (by decide), aI]
      simp [cI] at hk
      rw [← hk.2, vI]
      rcases (by have := hk.1; omega : k = 0 ∨ k = 1 ∨ k = 2 ∨ k = 3 ∨ k = 4 ∨ k = 5) with rfl | rfl | rfl | rfl | rfl | rfl
      · rw [e45]; simp
      · rw [e45b 1 (by decide) (by decide)]; simp; decide
      · rw [e45b 2 (by decide) (by decide)]; simp; decide
      · rw [e45b 3 (by decide) (by decide)]; simp; decide
      · rw [e45b 4 (by decide) (by decide)]; simp; decide
      · rw [e45c]; simp
    · have hi : i = 0 := hz (by simp)
      subst hi
      rw [cE 24 0 k (by decide) (by decide), aI]
      simp [cI] at hk
      rw [← hk.2, vz 40 k (Or.inr ⟨by decide, by decide⟩) (by decide) (by decide)]
      simp
    · simp [cI, n6] at hk
    · simp [cI, n20] at hk
    · simp [cI, n20] at hk
    · simp [cI, n20] at hk
  · refine Or.inl ?_
    rw [cE 1 0 5 (by decide) (by decide), aI]; simp
  · have h := bcs
    have x1 : gc gM = gc gB := congrArg (fun w : Nat × Nat => w.1) e2
    have x2 : gs gM = gs gB := congrArg (fun w : Nat × Nat => w.2) e2
    unfold CB
    rw [x1, x2, h.1, h.2]
    exact ⟨by omega, by omega⟩
  · refine ⟨fun s _ h2 => ⟨vz 60 s (Or.inl rfl) (by decide) (by decide), by rw [vI]; exact e43 s h2, fun k _ => vz 44 _ (Or.inr ⟨by decide, by decide⟩) (by decide) (by decide)⟩, fun q _ _ j _ => vz 55 _ (Or.inr ⟨by decide, by decide⟩) (by decide) (by decide)⟩
theorem start_IN {I : Nm → Nat → Int32} (hI0 : ∀ n k, n.1 ≠ 20 → I n k = 0) (hI20 : ∀ k, k < 144 → I (20, 0) k = nI (isq (100 * ((k / 12) * (k / 12) + (k % 12) * (k % 12))))) {gM : Hp} (e1 : gM.1 = (gB16 I).1) (e2 : gM.2.2 = (gB16 I).2.2) (e3 : ∀ nm, nm ≠ (43, 0) → nm ≠ (45, 0) → gI gM nm = gI (gB16 I) nm) (e43 : ∀ k, k < 10 → gI gM (43, 0) k = -9) (e45 : gI gM (45, 0) 0 = 0) (e45b : ∀ k, 1 ≤ k → k < 5 → gI gM (45, 0) k = nI (4 * k)) (e45c : gI gM (45, 0) 5 = 61) : IN gM (fun c k => gI gM (c, 0) k) ∧ nms (fun c k => gI gM (c, 0) k) = 0 :=
  start_core hI0 hI20 (fun _ _ => A6_R) (fun _ => A6_N) (fun _ _ => A6_I) (fun i => A6_c i) (gL_A6 I) (fun _ h => A6_n h) bN_F (fun _ => bN_R) (fun _ h => bN_N h) (fun _ => V0_10) (fun _ _ h => V0_z h) bN_cs e1 e2 e3 e43 e45 e45b e45c
