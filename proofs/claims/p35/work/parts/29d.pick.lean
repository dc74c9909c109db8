/-! pick: the table with a pick more is sound -/
theorem ap_vi {U : VV} {s t x : Nat} {qv : Int32} (hv : HV U) (tw : U 10 9 = nI (ntw U) ∧ ntw U ≤ 6) (qk : U 10 20 = nI (nqk U) ∧ nqk U ≤ 5) (ms : U 10 24 = nI (nms U)) (sz : ∀ i, i < nst U → U 43 i = -9 ∨ ∃ m, m ≤ 30 ∧ U 43 i = nI m) (to : ∀ i, i < ntw U → U 42 i = nI (cT U i) ∧ cT U i < 144) (pq : ∀ p, p < npk U → U 49 p = nI (sg U p) ∧ 1 ≤ sg U p ∧ sg U p ≤ 1000000 ∧ (U 50 p = -9 ∨ ∃ q, q < nqk U ∧ U 50 p = nI q)) (fp : ∀ q, q < nqk U → (∃ p, p < npk U ∧ U 51 q = nI p ∧ U 50 p = nI q) ∨ (U 51 q = nI (npk U) ∧ qv = nI q)) (un : ∀ p p2, p < npk U → p2 < npk U → U 50 p = U 50 p2 → U 50 p ≠ -9 → sP U p = sP U p2 → p = p2) (tt : ∀ q t k, q < 5 → t < 6 → 1 ≤ k → k < 5 → U 55 (30 * q + 5 * t + k) = 0 ∨ U 55 (30 * q + 5 * t + k) = 1 ∨ U 55 (30 * q + 5 * t + k) = 2) (hs : s < nst U) (ht : t ≤ nw U) (hp : npk U < 60) (h1 : 1 ≤ x) (h2 : x ≤ 1000000) (hq : qv = -9 ∨ ∃ q, q < nqk U ∧ qv = nI q) (hu : qv ≠ -9 → ∀ p, p < npk U → U 50 p = qv → sP U p ≠ s) : VI (apV U s t (nI x) qv) := by
  have h10 := hv.ns.2
  refine ⟨ap_hv hv hs ht hp, ?_, ?_, ?_, ?_, ?_, ?_, ?_, ?_, ?_⟩
  · rw [ap_nt, ap_ev.2 9 (by decide)]; exact tw
  · rw [ap_nq, ap_ev.2 20 (by decide)]; exact qk
  · rw [ap_nm, ap_ev.2 24 (by decide)]; exact ms
  · intro i hi
    rw [ap_ns] at hi
    rw [ap_ev.1 43 (by decide) (by decide)]; exact sz i hi
  · intro i hi
    rw [ap_nt] at hi
    have e : cT (apV U s t (nI x) qv) i = cT U i := by unfold cT; rw [ap_ev.1 42 (by decide) (by decide)]
    rw [e, ap_ev.1 42 (by decide) (by decide)]; exact to i hi
  · intro p hp2
    rw [ap_np hp] at hp2
    rw [ap_nq]
    by_cases e : p = npk U
    · subst e
      have e1 : sg (apV U s t (nI x) qv) (npk U) = x := by unfold sg; rw [ap_at.2.2.1]; exact nI_cl (by omega)
      rw [e1, ap_at.2.2.1, ap_at.2.2.2]
      exact ⟨rfl, h1, h2, hq⟩
    · rw [ap_sg e, (ap_lt e).2.2.1, (ap_lt e).2.2.2]
      exact pq p (by omega)
  · intro q hq2
    rw [ap_nq] at hq2
    rw [ap_np hp, ap_ev.1 51 (by decide) (by decide)]
    rcases fp q hq2 with ⟨p, a1, a2, a3⟩ | ⟨a1, a2⟩
    · exact ⟨p, by omega, a2, by rw [(ap_lt (by omega)).2.2.2]; exact a3⟩
    · exact ⟨npk U, by omega, a1, by rw [ap_at.2.2.2]; exact a2⟩
  · intro p p2 hp1 hp2 e1 e2 e3
    rw [ap_np hp] at hp1 hp2
    by_cases c1 : p = npk U
    · by_cases c2 : p2 = npk U
      · rw [c1, c2]
      · exfalso
        rw [c1, ap_at.2.2.2, (ap_lt c2).2.2.2] at e1
        rw [c1, ap_at.2.2.2] at e2
        rw [c1, ap_sPa (by omega), ap_sP c2] at e3
        exact hu e2 p2 (by omega) e1.symm e3.symm
    · rw [(ap_lt c1).2.2.2] at e1 e2
      by_cases c2 : p2 = npk U
      · exfalso
        rw [c2, ap_at.2.2.2] at e1
        rw [c2, ap_sPa (by omega), ap_sP c1] at e3
        exact hu (e1 ▸ e2) p (by omega) e1 e3
      · rw [(ap_lt c2).2.2.2] at e1
        rw [ap_sP c1, ap_sP c2] at e3
        exact un p p2 (by omega) (by omega) e1 e2 e3
  · intro q i k a1 a2 a3 a4
    rw [ap_ev.1 55 (by decide) (by decide)]; exact tt q i k a1 a2 a3 a4
theorem ap_vf {U : VV} {s t : Nat} {c qv : Int32} (h : VF U) : VF (apV U s t c qv) := h.cg ap_ev (by decide) (by decide)
theorem op_vf {V : VV} (h : VF V) (hq : nqk V < 1000) : VF (opV V) := by
  unfold VF
  rw [op_nq hq, nst_e (op_ev.2 6 (by decide)), op_ev.1 60 (by decide) (by decide), op_ev.1 43 (by decide) (by decide), op_ev.1 44 (by decide) (by decide), op_ev.1 55 (by decide) (by decide)]
  exact ⟨h.1, fun q h3 h4 => h.2 q (by omega) h4⟩
theorem cI0 {V2 : VV} {g2 : Hp} (h0 : gI g2 (0, 0) 2 = nI (nst V2) ∧ gI g2 (0, 1) 2 = nI (ntw V2) ∧ gI g2 (0, 2) 2 = nI (npk V2) ∧ gI g2 (0, 3) 2 = nI (nqk V2) ∧ gI g2 (0, 4) 2 = nI (kp V2)) {i k : Nat} {v : Int32} (hk : cI V2 (0, i) k = some v) : gI g2 (0, i) k = v := by
  obtain ⟨z0, z1, z2, z3, z4⟩ := h0
  simp only [cI, if_true] at hk
  by_cases hk2 : k = 2
  · subst hk2
    simp only [if_true] at hk
    by_cases i0 : i = 0
    · subst i0; simp at hk; rw [z0]; exact hk
    by_cases i1 : i = 1
    · subst i1; simp at hk; rw [z1]; exact hk
    by_cases i2 : i = 2
    · subst i2; simp at hk; rw [z2]; exact hk
    by_cases i3 : i = 3
    · subst i3; simp at hk; rw [z3]; exact hk
    by_cases i4 : i = 4
    · subst i4; simp at hk; rw [z4]; exact hk
    simp [i0, i1, i2, i3, i4] at hk
  · simp [hk2] at hk
section PIO
variable {z : Nat}
theorem pickObj {g : Hp} {n : Nat} (hs : gI g (0, 2) 2 = nI n) (hl : LR g.1 2 3 n) (hn : n ≤ 400) (a b c d e : Int32) : ∃ ga g2, f_X2_init z (some (3, n)) a b c d e (newN g (3, n) 0 5) = some ((), ga) ∧ f_Jx4a65c_add_9ea2d z (some (0, 2)) (some (3, n)) ga = some (1, g2) ∧ gI g2 (0, 2) 2 = nI (n + 1) ∧ LR g2.1 2 3 (n + 1) ∧ Fr (fun m => m = (3, n) ∨ m = (0, 2) ∨ m.1 = 14) g g2 ∧ (gI g2 (3, n) 0 = a ∧ gI g2 (3, n) 1 = b ∧ gI g2 (3, n) 2 = c ∧ gI g2 (3, n) 3 = d ∧ gI g2 (3, n) 4 = e) ∧ gc g2 ≤ gc g + 2 ∧ gs g2 ≤ gs g + 825 := by
  have F1 : Fr (fun m => m = (3, n)) g (setI (setI (setI (setI (setI (newN g (3, n) 0 5) (3, n) 0 a) (3, n) 1 b) (3, n) 2 c) (3, n) 3 d) (3, n) 4 e) := (((((Fr.nN (g := g) (n := (3, n)) (l := 0) (s := 5)).tr (Fr.sI (k := 0) (v := a))).tr (Fr.sI (k := 1) (v := b))).tr (Fr.sI (k := 2) (v := c))).tr (Fr.sI (k := 3) (v := d))).tr (Fr.sI (k := 4) (v := e)) |>.mono (fun m hm => by rcases hm with ((((w | w) | w) | w) | w) | w <;> exact w)
  generalize hga : setI (setI (setI (setI (setI (newN g (3, n) 0 5) (3, n) 0 a) (3, n) 1 b) (3, n) 2 c) (3, n) 3 d) (3, n) 4 e = ga at F1
  have hgc : gc ga = gc g + 1 ∧ gs ga = gs g + 5 := by rw [← hga]; exact ⟨rfl, rfl⟩
  have hgv : gI ga (3, n) 0 = a ∧ gI ga (3, n) 1 = b ∧ gI ga (3, n) 2 = c ∧ gI ga (3, n) 3 = d ∧ gI ga (3, n) 4 = e := by rw [← hga]; simp [gI_set]
  have A2 : Fr (PC 5 [3]) g ga := F1.mono (fun m hm => Or.inr (by rw [hm]; simp))
  have s1 : gI ga (0, 2) 2 = nI n := (congrFun (A2 (0, 2) (PC.n0 (by decide) (by decide))).1 2).trans hs
  obtain ⟨g2, b1, b2, b3, b4, b5, b6⟩ := addJ (z := z) s1 (LR.fr A2 (by decide) (by decide) (by decide) hl) (by decide) hn (by decide)
  have e3 : gI g2 (3, n) = gI ga (3, n) := (b4 (3, n) (fun w => by rcases w with w | w <;> simp at w)).1
  refine ⟨ga, g2, ?_, b1, b2, b3, (F1.tr b4).mono (fun m hm => hm), by rw [e3]; exact hgv, by omega, by omega⟩
  simp only [f_X2_init, nnu, pI_X, Option.bind_some, hga]
end PIO
/-- all but the new pick is as the new table wants it -/
def PU (gx : Hp) (U A : VV) : Prop := SM gx ∧ RC gx.1 U ∧ HC gx A ∧ (gI gx (0, 0) 2 = nI (nst U) ∧ gI gx (0, 1) 2 = nI (ntw U) ∧ gI gx (0, 2) 2 = nI (npk U) ∧ gI gx (0, 3) 2 = nI (nqk U) ∧ gI gx (0, 4) 2 = nI (kp U)) ∧ (∀ n k v, Z0 n → n.1 ≠ 0 → n.1 ≠ 3 → cI A n k = some v → gI gx n k = v) ∧ ∀ i k v, i < npk U → cI A (3, i) k = some v → gI gx (3, i) k = v
section PIE
variable {z : Nat}
theorem pickEnd {gx : Hp} {U : VV} {s t : Nat} {c d qv : Int32} (h : PU gx U (apV U s t c qv)) (hp : npk U < 60) (hA : VI (apV U s t c qv)) (hF : VF (apV U s t c qv)) (hcb : gc gx + 2 ≤ 100 + 10 * cnt (apV U s t c qv) ∧ gs gx + 825 ≤ 10000 + 1000 * cnt (apV U s t c qv)) (hd : kdF (apV U s t c qv) (npk U) = d) : ∃ ga g2, f_X2_init z (some (3, npk U)) (nI s) (nI t) c d qv (newN gx (3, npk U) 0 5) = some ((), ga) ∧ f_Jx4a65c_add_9ea2d z (some (0, 2)) (some (3, npk U)) ga = some (1, g2) ∧ Fr (fun m => m = (3, npk U) ∨ m = (0, 2) ∨ m.1 = 14) gx g2 ∧ IN g2 (apV U s t c qv) := by
  obtain ⟨h1, h2, h3, h4, h5, h6⟩ := h
  obtain ⟨ga, g2, a1, a2, a3, a4, a5, a6, a7, a8⟩ := pickObj (z := z) h4.2.2.1 h2.2.2.2.1.1 (by omega) (nI s) (nI t) c d qv
  have F : Fr (PC 2 [3, 14]) gx g2 := a5.mono (fun m hm => by
    rcases hm with e | e | e
    · exact Or.inr (by rw [e]; simp)
    · exact Or.inl e
    · exact Or.inr (by rw [e]; simp))
  have ek : kp (apV U s t c qv) = kp U := kp_e (ap_ev.2 24 (by decide))
  have f0 : ∀ j, j ≠ 2 → gI g2 (0, j) 2 = gI gx (0, j) 2 := fun j hj => congrFun (F (0, j) (PC.n0 (by decide) hj)).1 2
  refine ⟨ga, g2, a1, a2, a5, trivial, fr_SM F (by decide) h1, hA, ⟨RC1.fr F (by decide) h2.1, ?_, ?_, ?_, ?_, ?_⟩, ?_, ?_, ?_, hF⟩
  · rw [ap_ns]; exact RCs.fr F (by decide) (by decide) h2.2.1
  · rw [ap_nt]; exact RCt.fr F (by decide) (by decide) h2.2.2.1
  · rw [ap_np hp]
    refine ⟨a4, fun i hi q => ?_⟩
    have e2 := (a5 (3, i) (fun w => by rcases w with w | w | w <;> simp at w; omega)).2.2.2.mp q
    exact h2.2.2.2.1.2 i (by omega) e2
  · rw [ap_nq]; exact RCq.fr F (by decide) (by decide) h2.2.2.2.2.1
  · rw [ek]; exact RCm.fr F (by decide) (by decide) h2.2.2.2.2.2
  · intro n k v hz hk
    obtain ⟨cc, i⟩ := n
    by_cases c0 : cc = 0
    · subst c0
      refine cI0 (V2 := apV U s t c qv) ⟨?_, ?_, ?_, ?_, ?_⟩ hk
      · rw [ap_ns, f0 0 (by decide)]; exact h4.1
      · rw [ap_nt, f0 1 (by decide)]; exact h4.2.1
      · rw [ap_np hp]; exact a3
      · rw [ap_nq, f0 3 (by decide)]; exact h4.2.2.2.1
      · rw [ek, f0 4 (by decide)]; exact h4.2.2.2.2
    by_cases c3 : cc = 3
    · subst c3
      by_cases e : i = npk U
      · subst e
        simp only [cI, ap_np hp] at hk
        simp at hk
        obtain ⟨w0, w1, w2, w3, w4⟩ := a6
        by_cases k0 : k = 0
        · subst k0; simp [ap_at.1] at hk; rw [w0]; exact hk
        by_cases k1 : k = 1
        · subst k1; simp [ap_at.2.1] at hk; rw [w1]; exact hk
        by_cases k2 : k = 2
        · subst k2; simp [ap_at.2.2.1] at hk; rw [w2]; exact hk
        by_cases k3 : k = 3
        · subst k3; simp [hd] at hk; rw [w3]; exact hk
        by_cases k4 : k = 4
        · subst k4; simp [ap_at.2.2.2] at hk; rw [w4]; exact hk
        simp [k0, k1, k2, k3, k4] at hk
      · have hi : i < npk U := by
          simp only [cI, ap_np hp] at hk
          simp at hk
          omega
        rw [(a5 (3, i) (fun w => by rcases w with w | w | w <;> simp at w; omega)).1]
        exact h6 i k v hi hk
    · have c14 : cc ≠ 14 := fun w => by subst w; exact absurd (show 14 ∈ [0, 2, 3, 4, 5, 6, 7, 9, 20, 23, 24, 25, 26, 27, 28] from cI_cls hk) (by decide)
      rw [fr_I F (by simp [c3, c14]) c0]
      exact h5 (cc, i) k v hz c0 c3 hk
  · have e1 : ∀ k, gI g2 (1, 0) k = gI gx (1, 0) k := fun k => fr_I F (by decide) (by decide)
    have e2 : ∀ k, gI g2 (21, 0) k = gI gx (21, 0) k := fun k => fr_I F (by decide) (by decide)
    have e3 : ∀ k, gI g2 (22, 0) k = gI gx (22, 0) k := fun k => fr_I F (by decide) (by decide)
    unfold HC at h3 ⊢
    simp only [e1, e2, e3]
    exact h3
  · unfold CB
    omega
end PIE
