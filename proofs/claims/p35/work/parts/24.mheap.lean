/-! the model lays a heap -/
section MHE
variable {g : Hp} {V : VV} {z : Nat}
theorem EqR.rf (V : VV) : EqR V V := fun _ _ _ => rfl
theorem EqR.tr {a b c : VV} (h : EqR a b) (h2 : EqR b c) : EqR a c := fun k h3 h4 => (h2 k h3 h4).trans (h k h3 h4)
theorem EqR.s2 {V V2 : VV} {k : Nat} {v : Int32} (h : EqR V V2) : EqR V (vs V2 52 k v) := fun c h1 h2 => (vs_ne h1).trans (h c h1 h2)
theorem EqR.s3 {V V2 : VV} {k : Nat} {v : Int32} (h : EqR V V2) : EqR V (vs V2 53 k v) := fun c h1 h2 => (vs_ne h2).trans (h c h1 h2)
/-- only place c of the two rows -/
def At1 (c : Nat) (V V2 : VV) : Prop := ∀ r, r = 52 ∨ r = 53 → ∀ k, k ≠ c → V2 r k = V r k
theorem At1.rf (c : Nat) (V : VV) : At1 c V V := fun _ _ _ _ => rfl
theorem At1.tr {c : Nat} {a b d : VV} (h : At1 c a b) (h2 : At1 c b d) : At1 c a d := fun r hr k hk => (h2 r hr k hk).trans (h r hr k hk)
theorem At1.s {c r : Nat} {V V2 : VV} {v : Int32} (h : At1 c V V2) : At1 c V (vs V2 r c v) := fun r2 hr k hk => (vs_nk hk).trans (h r2 hr k hk)
theorem HP.ext {V V2 V3 : VV} {q n : Nat} (h : HP V q V2 n) (hA : ∀ r, r = 52 ∨ r = 53 → ∀ k, k < n → V3 r k = V2 r k) : HP V q V3 n := by
  intro c hc
  rw [hA 52 (Or.inl rfl) c hc, hA 53 (Or.inr rfl) c hc]
  exact h c hc
end MHE
