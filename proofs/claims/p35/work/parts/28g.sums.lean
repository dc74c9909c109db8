section SUM
variable {z : Nat}
def sumF (V : VV) (i : Nat) : Nat → Nat → Int64 → Int64
  | _, 0, acc => acc
  | f, c + 1, acc => sumF V i (f + 1) c (acc + (iabs (V 44 (30 * i + f))).toInt64)
def fstF (V : VV) (i s l : Nat) (a b : Int32) (m : Nat) : Nat → Nat → Option Int32
  | 0, _ => none
  | n + 1, v => if m < v + s then some (-9) else if lg_cmp (sumF V i v s 0 * (nI l).toInt64 * b.toInt64) (sumF V i (v - l) l 0 * (nI s).toInt64 * a.toInt64) ≤ 0 then fstF V i s l a b m n (v + 1) else some (nI v)
theorem fstF_s {V : VV} {i s l : Nat} {a b : Int32} {m : Nat} (hs : 1 ≤ s) : ∀ n v, m + 1 - v < n → ∃ r, fstF V i s l a b m n v = some r
  | 0, v, h => absurd h (Nat.not_lt_zero _)
  | n + 1, v, h => by
    unfold fstF
    by_cases h1 : m < v + s
    · rw [if_pos h1]; exact ⟨_, rfl⟩
    · rw [if_neg h1]
      split
      · exact fstF_s hs n (v + 1) (by omega)
      · exact ⟨_, rfl⟩
theorem in1 {a : Int32} {m : Nat} (hm : m < 100000) (h : ¬ inB a 1 (nI m) = 0) : ∃ i, 1 ≤ i ∧ i ≤ m ∧ a = nI i := by
  obtain ⟨w1, w2⟩ := inB_ne h
  have h0 : ¬ a < 0 := fun q => absurd (Int32.lt_of_lt_of_le q (show (0 : Int32) ≤ 1 by decide)) (Int32.not_lt.mpr w1)
  obtain ⟨j, hj, rfl⟩ := nI_of h0
  rw [nI_leI (by omega) (by omega)] at w2
  rw [show (1 : Int32) = nI 1 from rfl, nI_leI (by omega) (by omega)] at w1
  exact ⟨j, w1, w2, rfl⟩
end SUM
