/-! the model's cells as a table V : code, place; the heap with this table in its model's cells -/
abbrev VV : Type := Nat → Nat → Int32
abbrev wM (g : Hp) (_ : VV) : Hp := g
def vs (V : VV) (c k : Nat) (v : Int32) : VV := fun c' k' => if c' = c ∧ k' = k then v else V c' k'
theorem vs_ne {V : VV} {c k c' : Nat} {v : Int32} (h : c' ≠ c) : vs V c k v c' = V c' := by funext j; simp [vs, h]
theorem vs_eq {V : VV} {c k : Nat} {v : Int32} : vs V c k v c k = v := by simp [vs]
theorem vs_nk {V : VV} {c k c' k' : Nat} {v : Int32} (h : k' ≠ k) : vs V c k v c' k' = V c' k' := by simp [vs, h]
def SM (_ : Hp) : Prop := True
theorem wM_X {g : Hp} {V : VV} {n : Nm} (_ : n.1 ≠ 10) (_ : n.1 < 40) : gI (wM g V) n = gI g n := rfl
theorem wM_R {g : Hp} {V : VV} : gR (wM g V) = gR g := rfl
theorem wM_N {g : Hp} {V : VV} : gN (wM g V) = gN g := rfl
theorem wM_L {g : Hp} {V : VV} : gL (wM g V) = gL g := rfl
theorem vp_n {n N : Nat} (h : n < N) (hN : N < 2147483648) : vp_in (nI n) N := vp_in_nI h (by omega)
theorem nI_cl {n : Nat} (h : n < 2147483648) : (nI n).toNatClampNeg = n := nI_clamp (by omega)
theorem ick_X {α : Type} {P : Option α} {c i : Nat} : ick (some (c, i)) c P = P := by simp [ick]
/-- within bounds: 1, 0 -/
def inB (a lo hi : Int32) : Int32 := if a < lo then 0 else if hi < a then 0 else 1
theorem inB_01 (a lo hi : Int32) : inB a lo hi = 0 ∨ inB a lo hi = 1 := by unfold inB; split; exact Or.inl rfl; split; exact Or.inl rfl; exact Or.inr rfl
theorem rtZ_01 {x : Int32} {g : Hp} (h : x = 0 ∨ x = 1) : rtZ x g = some (x, g) := by simp [rtZ, h]
theorem rtZ_0 {g : Hp} : rtZ 0 g = some (0, g) := rtZ_01 (Or.inl rfl)
theorem rtZ_1 {g : Hp} : rtZ 1 g = some (1, g) := rtZ_01 (Or.inr rfl)
theorem inB_ne {a lo hi : Int32} (h : ¬ inB a lo hi = 0) : lo ≤ a ∧ a ≤ hi := by
  unfold inB at h
  by_cases h1 : a < lo
  · simp [h1] at h
  · by_cases h2 : hi < a
    · simp [h1, h2] at h
    · exact ⟨Int32.not_lt.mp h1, Int32.not_lt.mp h2⟩
theorem inB_nI {a : Int32} {n : Nat} (hn : n < 1073741824) (h : ¬ inB a 0 (nI n - 1) = 0) : ∃ i, i < n ∧ a = nI i := by
  obtain ⟨h1, h2⟩ := inB_ne h
  obtain ⟨j, hj, rfl⟩ := nI_of (x := a) (Int32.not_lt.mpr h1)
  refine ⟨j, ?_, rfl⟩
  cases n with
  | zero =>
    exfalso
    have e : nI 0 - 1 = iI (-1) := by decide
    rw [e, nI_iI, iI_le (by omega) (by omega) (by omega) (by omega)] at h2
    omega
  | succ n =>
    rw [nI_pred, nI_leI (by omega) (by omega)] at h2
    omega
theorem inB_nIr {a : Int32} {m : Nat} (hm : m < 1073741824) (h : ¬ inB a 0 (nI m) = 0) : ∃ i, i ≤ m ∧ a = nI i := by
  obtain ⟨h1, h2⟩ := inB_ne h
  obtain ⟨j, hj, rfl⟩ := nI_of (x := a) (Int32.not_lt.mpr h1)
  rw [nI_leI (by omega) (by omega)] at h2
  exact ⟨j, h2, rfl⟩
theorem in8 (z : Nat) (a b c : Int32) (g : Hp) : f_X8_isWithin z a b c g = some (inB a b c, g) := by
  unfold f_X8_isWithin inB
  split
  · exact rtZ_0
  · split
    · exact rtZ_0
    · exact rtZ_1
theorem cell8 (z : Nat) (a : Int32) (g : Hp) : f_X8_isCell z a g = some (inB a 0 143, g) := by
  simp only [f_X8_isCell, in8, Option.bind_some, rtZ_01 (inB_01 _ _ _)]
section MOD
variable {g : Hp} {V : VV} (h : SM g) (z : Nat)
end MOD
