/-! pick: the model's search -/
def EqP (V V2 : VV) : Prop := ∀ c k, c ≠ 52 → c ≠ 53 → ¬ ((c = 47 ∨ c = 48 ∨ c = 50) ∧ k = npk V) → V2 c k = V c k
theorem EqP.rf (V : VV) : EqP V V := fun _ _ _ _ _ => rfl
theorem EqP.row {V V2 : VV} (h : EqP V V2) {c : Nat} (h1 : c ≠ 52) (h2 : c ≠ 53) (h3 : c ≠ 47) (h4 : c ≠ 48) (h5 : c ≠ 50) : V2 c = V c := by
  funext k
  exact h c k h1 h2 (fun w => by omega)
theorem EqP.w {V V2 : VV} (h : EqP V V2) : EqW V V2 := by
  refine ⟨fun c hc => h.row ?_ ?_ ?_ ?_ ?_, fun k hk => by rw [h.row (c := 10) (by decide) (by decide) (by decide) (by decide) (by decide)], fun p hp => ⟨h 47 p (by decide) (by decide) (by omega), h 48 p (by decide) (by decide) (by omega), h 50 p (by decide) (by decide) (by omega)⟩⟩ <;> (simp at hc; omega)
theorem EqP.q {V V2 V3 : VV} (h : EqP V V2) (h2 : EqR V2 V3) : EqP V V3 := fun c k h3 h4 h5 => by rw [h2 c h3 h4]; exact h c k h3 h4 h5
theorem EqW.q {V V2 V3 : VV} (h : EqW V V2) (h2 : EqR V2 V3) : EqW V V3 := ⟨fun c hc => by rw [h2 c (by simp at hc; omega) (by simp at hc; omega)]; exact h.1 c hc, fun k hk => by rw [h2 10 (by decide) (by decide)]; exact h.2.1 k hk, fun p hp => by rw [h2 47 (by decide) (by decide), h2 48 (by decide) (by decide), h2 50 (by decide) (by decide)]; exact h.2.2 p hp⟩
def pkV (V V2 : VV) (s t q : Nat) : VV := vs (vs (vs (vs V2 47 (npk V) (nI s)) 48 (npk V) (nI t)) 50 (npk V) (nI q)) 10 15 (nI (npk V + 1))
theorem pkV_w {V V2 : VV} (h : EqP V V2) {s t q : Nat} (hp : npk V < 60) : EqW (apV V s t 0 (nI q)) (pkV V V2 s t q) := by
  refine ⟨fun c hc => ?_, fun k hk => ?_, fun p hq => ?_⟩
  · simp only [List.mem_cons, List.not_mem_nil, or_false] at hc
    rcases hc with rfl | rfl
    · rw [ap_ev.1 41 (by decide) (by decide)]
      unfold pkV
      rw [vs_ne (by decide), vs_ne (by decide), vs_ne (by decide), vs_ne (by decide)]
      exact h.row (by decide) (by decide) (by decide) (by decide) (by decide)
    · rw [ap_ev.1 60 (by decide) (by decide)]
      unfold pkV
      rw [vs_ne (by decide), vs_ne (by decide), vs_ne (by decide), vs_ne (by decide)]
      exact h.row (by decide) (by decide) (by decide) (by decide) (by decide)
  · by_cases e : k = 15
    · subst e
      rw [ap_15]; exact vs_eq
    · rw [ap_ev.2 k (by simp [e])]
      unfold pkV
      rw [vs_nk e, vs_ne (by decide), vs_ne (by decide), vs_ne (by decide), h.row (c := 10) (by decide) (by decide) (by decide) (by decide) (by decide)]
  · rw [ap_np hp] at hq
    by_cases e : p = npk V
    · subst e
      rw [ap_at.1, ap_at.2.1, ap_at.2.2.2]
      simp [pkV, vs]
    · obtain ⟨a1, a2, a3, a4⟩ := ap_lt (V := V) (s := s) (t := t) (c := 0) (qv := nI q) e
      rw [a1, a2, a4]
      simp only [pkV, vs]
      simp [e]
      exact ⟨h 47 p (by decide) (by decide) (by omega), h 48 p (by decide) (by decide) (by omega), h 50 p (by decide) (by decide) (by omega)⟩
theorem pkV_b {V V2 V3 : VV} (h : EqP V V2) (hV : V 10 15 = nI (npk V)) {s t q : Nat} (h2 : EqR (pkV V V2 s t q) V3) : EqP V (vs V3 10 15 (nI (npk V))) := fun c k h3 h4 h5 => by
  by_cases e : c = 10 ∧ k = 15
  · rw [e.1, e.2, vs_eq, hV]
  · have e1 : vs V3 10 15 (nI (npk V)) c k = V3 c k := by simp only [vs, if_neg e]
    rw [e1, h2 c h3 h4]
    have w1 : ¬ (c = 50 ∧ k = npk V) := fun w => h5 ⟨Or.inr (Or.inr w.1), w.2⟩
    have w2 : ¬ (c = 48 ∧ k = npk V) := fun w => h5 ⟨Or.inr (Or.inl w.1), w.2⟩
    have w3 : ¬ (c = 47 ∧ k = npk V) := fun w => h5 ⟨Or.inl w.1, w.2⟩
    simp only [pkV, vs, if_neg e, if_neg w1, if_neg w2, if_neg w3]
    exact h c k h3 h4 h5
section TAM
variable {z : Nat}
theorem nI_le0 {n : Nat} (h : n < 1000000) : nI n ≤ 0 ↔ n = 0 := by
  have := nI_leI (a := n) (b := 0) (by omega) (by omega)
  rw [show (0 : Int32) = nI 0 from rfl, this]
  omega
end TAM
