/-! pick: the model's search -/
def EqP (V V2 : VV) : Prop := ∀ c k, c ≠ 52 → c ≠ 53 → ¬ ((c = 47 ∨ c = 48 ∨ c = 50) ∧ k = npk V) → V2 c k = V c k
theorem EqP.rf (V : VV) : EqP V V := fun _ _ _ _ _ => rfl
theorem EqP.row {V V2 : VV} (h : EqP V V2) {c : Nat} (h1 : c ≠ 52) (h2 : c ≠ 53) (h3 : c ≠ 47) (h4 : c ≠ 48) (h5 : c ≠ 50) : V2 c = V c := by
  funext k
  exact h c k h1 h2 (fun w => by omega)
theorem EqP.w {V V2 : VV} (h : EqP V V2) : EqW V V2 := by
  refine ⟨fun c hc => h.row ?_ ?_ ?_ ?_ ?_, fun k hk => by rw [h.row (c := 10) (by decide) (by decide) (by decide) (by decide) (by decide)], fun p hp => ⟨h 47 p (by decide) (by decide) (by omega), h 48 p (by decide) (by decide) (by omega), h 50 p (by decide) (by decide) (by omega)⟩⟩ <;> (simp at hc; omega)
theorem EqP.q {V V2 V3 : VV} (h : EqP V V2) (h2 : EqR V2 V3) : EqP V V3 := fun c k h3 h4 h5 => by rw [h2 c h3 h4]; exact h c k h3 h4 h5
theorem EqW.q {V V2 V3 : VV} (h : EqW V V2) (h2 : EqR V2 V3) : EqW V V3 := ⟨fun c hc => by rw [h2 c (by simp at hc; omega) (by simp at hc; omega)]; exact h.1 c hc, fun k hk => by rw [h2 10 (by decide) (by decide)]; exact h.2.1 k hk, fun p hp => by rw [h2 47 (by decide) (by decide), h2 48 (by decide) (by decide), h2 50 (by decide) (by decide)]; exact h.2.2 p hp⟩
def pkV (V V2 : VV) (s t q : Nat) : VV := vs (vs (vs (vs V2 47 (npk V) (nI s)) 48 (npk V) (nI t)) 50 (npk V) (nI q)) 10 15 (nI (npk V + 1))
theorem pkV_w {V V2 : VV} (h : EqP V V2) {s t q : Nat} (hp : npk V < 60) : EqW (apV V s t 0 (nI q)) (pkV V V2 s t q) := by
  refine ⟨fun c hc => ?_, fun k hk => ?_, fun p hq => ?_⟩
  · simp only [List.mem_cons, List.not_mem_nil, or_false] at hc
    rcases hc with rfl | rfl
    · rw [ap_ev.1 41 (by decide) (by decide)]
      unfold pkV
      rw [vs_ne (by decide), vs_ne (by decide), vs_ne (by decide), vs_ne (by decide)]
      exact h.row (by decide) (by decide) (by decide) (by decide) (by decide)
    · rw [ap_ev.1 60 (by decide) (by decide)]
      unfold pkV
      rw [vs_ne (by decide), vs_ne (by decide), vs_ne (by decide), vs_ne (by decide)]
      exact h.row (by decide) (by decide) (by decide) (by decide) (by decide)
  · by_cases e : k = 15
    · subst e
      rw [ap_15]; exact vs_eq
    · rw [ap_ev.2 k (by simp [e])]
      unfold pkV
      rw [vs_nk e, vs_ne (by decide), vs_ne (by decide), vs_ne (by decide), h.row (c := 10) (by decide) (by decide) (by decide) (by decide) (by decide)]
  · rw [ap_np hp] at hq
    by_cases e : p = npk V
    · subst e
      rw [ap_at.1, ap_at.2.1, ap_at.2.2.2]
      simp [pkV, vs]
    · obtain ⟨a1, a2, a3, a4⟩ := ap_lt (V := V) (s := s) (t := t) (c := 0) (qv := nI q) e
      rw [a1, a2, a4]
      simp only [pkV, vs]
      simp [e]
      exact ⟨h 47 p (by decide) (by decide) (by omega), h 48 p (by decide) (by decide) (by omega), h 50 p (by decide) (by decide) (by omega)⟩
theorem pkV_b {V V2 V3 : VV} (h : EqP V V2) (hV : V 10 15 = nI (npk V)) {s t q : Nat} (h2 : EqR (pkV V V2 s t q) V3) : EqP V (vs V3 10 15 (nI (npk V))) := fun c k h3 h4 h5 => by
  by_cases e : c = 10 ∧ k = 15
  · rw [e.1, e.2, vs_eq, hV]
  · have e1 : vs V3 10 15 (nI (npk V)) c k = V3 c k := by simp only [vs, if_neg e]
    rw [e1, h2 c h3 h4]
    have w1 : ¬ (c = 50 ∧ k = npk V) := fun w => h5 ⟨Or.inr (Or.inr w.1), w.2⟩
    have w2 : ¬ (c = 48 ∧ k = npk V) := fun w => h5 ⟨Or.inr (Or.inl w.1), w.2⟩
    have w3 : ¬ (c = 47 ∧ k = npk V) := fun w => h5 ⟨Or.inl w.1, w.2⟩
    simp only [pkV, vs, if_neg e, if_neg w1, if_neg w2, if_neg w3]
    exact h c k h3 h4 h5
section TAM
variable {z : Nat}
theorem as60 {g : Hp} {W : VV} (h : SM g) {c i : Nat} {v : Int32} (hc : c = 47 ∨ c = 48 ∨ c = 49 ∨ c = 50) (hi : i < 60) : astI (some (c, 0)) (nI i) v (wM g W) = some (wM g (vs W c i v)) := by
  rcases hc with rfl | rfl | rfl | rfl <;> rw [as_M h (by decide) (by decide) (vp_n (N := 60) hi (by decide)), nI_cl (show i < 2147483648 by omega)]
theorem nI_le0 {n : Nat} (h : n < 1000000) : nI n ≤ 0 ↔ n = 0 := by
  have := nI_leI (a := n) (b := 0) (by omega) (by omega)
  rw [show (0 : Int32) = nI 0 from rfl, this]
  omega
theorem pick9_L (hz : 2000 ≤ z) {g : Hp} (h : SM g) {V : VV} (hV : VI V) {s t : Nat} (hs : s < nst V) (ht : t ≤ nw V) (hp : npk V < 60) (p3 : Int32) : ∀ (k n q : Nat) (V2 : VV), EqP V V2 → q + k = nqk V → k < n → ∃ w V3, f_X9_pick_51_L z (some (10, 0)) (nI s) (nI t) p3 n (nI q) (-9) (wM g V2) = some (w, tkF V s t k q, wM g V3) ∧ EqP V V3
  | k, 0, _, _, _, _, h => absurd h (Nat.not_lt_zero _)
  | 0, n + 1, q, V2, hE, e, _ => by
    have h5 := hV.qk
    refine ⟨nI q, V2, ?_, hE⟩
    show f_X9_pick_51_b z (some (10, 0)) (nI s) (nI t) p3 (f_X9_pick_51_L z (some (10, 0)) (nI s) (nI t) p3 n) (nI q) (-9) (wM g V2) = some (nI q, -9, wM g V2)
    unfold f_X9_pick_51_b
    simp only [gi_M, Option.bind_some, hE.row (c := 10) (by decide) (by decide) (by decide) (by decide) (by decide), h5.1]
    rw [if_pos ((nI_leI (by omega) (by omega)).mpr (by omega))]
  | k + 1, n + 1, q, V2, hE, e, hn => by
    have h5 := hV.qk
    have hnp := hV.hv.np
    have hn1 := ncl_le V q 144
    have hn2 := ncl_le (apV V s t 0 (nI q)) q 144
    have e10 := hE.row (c := 10) (by decide) (by decide) (by decide) (by decide) (by decide)
    have enp : npk V2 = npk V := hE.w.np
    have hh9 := hears9 (z := z) hz h (V := V2) (by rw [enp, e10]; exact hnp.1) (by rw [enp]; exact hnp.2) q s
    rw [enp, hE.w.hrd_] at hh9
    have hq9 : ∃ Va, (if (if hrd V q s (npk V) = true then (1 : Int32) else 0) = 0 then ((ick (some (10, 0)) 10 (f_X9_setHeap z (some (10, 0)) (nI q) (wM g V2))).bind fun q8 => if q8.1 ≤ 0 then (some ((0 : Int32), q8.2)) else (some (1, q8.2))) else (some (0, wM g V2))) = some ((if hrd V q s (npk V) = false ∧ ncl V q 144 ≠ 0 then 1 else 0), wM g Va) ∧ EqP V Va := by
      by_cases hh : hrd V q s (npk V) = true
      · refine ⟨V2, ?_, hE⟩
        rw [if_pos hh, if_neg (by decide), if_neg (fun w => by rw [w.1] at hh; exact absurd hh (by decide))]
      · have hf : hrd V q s (npk V) = false := by simpa using hh
        obtain ⟨Va, a1, a2, -⟩ := setHeap9 hz h (hE.w.hv hV.hv) q
        rw [hE.w.ncl_] at a1
        refine ⟨Va, ?_, hE.q a2⟩
        rw [if_neg hh, if_pos rfl, ick_M, a1]
        simp only [Option.bind_some]
        by_cases h0 : ncl V q 144 = 0
        · rw [if_pos ((nI_le0 (by omega)).mpr h0), if_neg (fun w => w.2 h0)]
        · rw [if_neg (fun w => h0 ((nI_le0 (by omega)).mp w)), if_pos ⟨hf, h0⟩]
    obtain ⟨Va, a1, a2⟩ := hq9
    have ea := a2.row (c := 10) (by decide) (by decide) (by decide) (by decide) (by decide)
    have ea15 : Va 10 15 = nI (npk V) := by rw [ea]; exact hnp.1
    have hW := pkV_w a2 (s := s) (t := t) (q := q) hp
    have hvW : HV (pkV V Va s t q) := hW.hv (ap_hv hV.hv hs ht hp)
    have hq22 : ∃ Vd, (if (if hrd V q s (npk V) = false ∧ ncl V q 144 ≠ 0 then (1 : Int32) else 0) = 0 then (some ((-9 : Int32), wM g (pkV V Va s t q))) else ((ick (some (10, 0)) 10 (f_X9_setHeap z (some (10, 0)) (nI q) (wM g (pkV V Va s t q)))).bind fun q21 => if q21.1 ≤ 0 then (some (-9, q21.2)) else (some (nI q, q21.2)))) = some ((if tkB V s t q = true then nI q else -9), wM g Vd) ∧ EqR (pkV V Va s t q) Vd := by
      by_cases hc : hrd V q s (npk V) = false ∧ ncl V q 144 ≠ 0
      · obtain ⟨Vd, d1, d2, -⟩ := setHeap9 hz h hvW q
        rw [hW.ncl_] at d1
        refine ⟨Vd, ?_, d2⟩
        rw [if_pos hc, if_neg (by decide), ick_M, d1]
        simp only [Option.bind_some]
        by_cases h0 : ncl (apV V s t 0 (nI q)) q 144 = 0
        · have eb : ¬ tkB V s t q = true := by unfold tkB; rw [h0]; simp
          rw [if_pos ((nI_le0 (by omega)).mpr h0), if_neg eb]
        · have eb : tkB V s t q = true := by unfold tkB; rw [hc.1]; simp [hc.2, h0]
          rw [if_neg (fun w => h0 ((nI_le0 (by omega)).mp w)), if_pos eb]
      · have eb : ¬ tkB V s t q = true := by
          unfold tkB
          intro w
          simp at w
          exact hc ⟨w.1, w.2.1⟩
        refine ⟨_, ?_, EqR.rf _⟩
        rw [if_neg hc, if_pos rfl, if_neg eb]
    obtain ⟨Vd, d1, d2⟩ := hq22
    have hend := pkV_b a2 hnp.1 d2
    have hd15 : Vd 10 15 = nI (npk V + 1) := by rw [d2 10 (by decide) (by decide)]; exact vs_eq
    have hrec : ∃ w V3, f_X9_pick_51_L z (some (10, 0)) (nI s) (nI t) p3 n (nI (q + 1)) (if tkB V s t q = true then nI q else -9) (wM g (vs Vd 10 15 (nI (npk V)))) = some (w, (if tkB V s t q = true then nI q else tkF V s t k (q + 1)), wM g V3) ∧ EqP V V3 := by
      by_cases hb : tkB V s t q = true
      · rw [if_pos hb, if_pos hb]
        refine ⟨nI (q + 1), _, ?_, hend⟩
        obtain ⟨m, rfl⟩ : ∃ m, n = m + 1 := ⟨n - 1, by omega⟩
        show f_X9_pick_51_b z (some (10, 0)) (nI s) (nI t) p3 (f_X9_pick_51_L z (some (10, 0)) (nI s) (nI t) p3 m) (nI (q + 1)) (nI q) (wM g (vs Vd 10 15 (nI (npk V)))) = _
        unfold f_X9_pick_51_b
        simp only [gi_M, Option.bind_some]
        have h0q : (0 : Int32) ≤ nI q := nIge (by omega)
        rw [if_pos h0q]
        split <;> rfl
      · rw [if_neg hb, if_neg hb]
        exact pick9_L hz h hV hs ht hp p3 k n (q + 1) _ hend (by omega) (by omega)
    obtain ⟨w, V3, r1, r2⟩ := hrec
    refine ⟨w, V3, ?_, r2⟩
    show f_X9_pick_51_b z (some (10, 0)) (nI s) (nI t) p3 (f_X9_pick_51_L z (some (10, 0)) (nI s) (nI t) p3 n) (nI q) (-9) (wM g V2) = some (w, (if tkB V s t q = true then nI q else tkF V s t k (q + 1)), wM g V3)
    unfold f_X9_pick_51_b
    simp only [gi_M, Option.bind_some, e10, h5.1]
    rw [if_neg (fun w => by have := (nI_leI (by omega) (by omega)).mp w; omega), if_neg n9lt, ick_M, hh9]
    simp only [Option.bind_some]
    rw [a1]
    simp only [Option.bind_some, gr_M h, mRef, gi_M, ea15]
    rw [as60 h (Or.inl rfl) hp]
    simp only [Option.bind_some, gr_M h, mRef, gi_M, vs_ne (show 10 ≠ 47 by decide), ea15]
    rw [as60 h (Or.inr (Or.inl rfl)) hp]
    simp only [Option.bind_some, gr_M h, mRef, gi_M, vs_ne (show 10 ≠ 48 by decide), vs_ne (show 10 ≠ 47 by decide), ea15]
    rw [as60 h (Or.inr (Or.inr (Or.inr rfl))) hp]
    simp only [Option.bind_some, gi_M, pu_M, vs_ne (show 10 ≠ 50 by decide), vs_ne (show 10 ≠ 48 by decide), vs_ne (show 10 ≠ 47 by decide), ea15, nI_1]
    rw [show vs (vs (vs (vs Va 47 (npk V) (nI s)) 48 (npk V) (nI t)) 50 (npk V) (nI q)) 10 15 (nI (npk V + 1)) = pkV V Va s t q from rfl, d1]
    simp only [Option.bind_some, gi_M, pu_M, hd15, nI_pred]
    exact r1
end TAM
