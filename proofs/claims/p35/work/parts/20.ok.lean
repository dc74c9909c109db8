/-! plain programs: what they come to -/
def OK {α : Type} (pr : Option α) (Q : α → Prop) : Prop := ∃ a, pr = some a ∧ Q a
theorem OK.of {α : Type} {pr : Option α} {Q : α → Prop} {a : α} (h : pr = some a) (hq : Q a) : OK pr Q := ⟨a, h, hq⟩
theorem OK.mono {α : Type} {pr : Option α} {Q Q2 : α → Prop} (h : OK pr Q) (hq : ∀ a, Q a → Q2 a) : OK pr Q2 := by
  obtain ⟨a, e, q⟩ := h
  exact ⟨a, e, hq a q⟩
theorem ok_some {α : Type} {a : α} {Q : α → Prop} : OK (some a) Q ↔ Q a := ⟨fun ⟨_, e, q⟩ => by cases e; exact q, fun q => ⟨a, rfl, q⟩⟩
theorem ok_bind {α β : Type} {A : Option α} {F : α → Option β} {Q : β → Prop} : OK (A.bind F) Q ↔ OK A (fun a => OK (F a) Q) := by
  cases A with
  | none => exact ⟨(fun ⟨_, e, _⟩ => nomatch e), (fun ⟨_, e, _⟩ => nomatch e)⟩
  | some a => rw [ok_some]; exact Iff.rfl
theorem OK.bind {α β : Type} {A : Option α} {F : α → Option β} {Q : β → Prop} {P : α → Prop} (h : OK A P) (k : ∀ a, P a → OK (F a) Q) : OK (A.bind F) Q := ok_bind.mpr (h.mono k)
theorem ok_ite {α : Type} {c : Prop} [Decidable c] {A B : Option α} {Q : α → Prop} : OK (if c then A else B) Q ↔ (c → OK A Q) ∧ (¬ c → OK B Q) := by
  by_cases h : c
  · simp [h]
  · simp [h]
theorem OK.ite {α : Type} {c : Prop} [Decidable c] {A B : Option α} {Q : α → Prop} (h1 : c → OK A Q) (h2 : ¬ c → OK B Q) : OK (if c then A else B) Q := ok_ite.mpr ⟨h1, h2⟩
/-! numbers -/
def iI (x : Int) : Int32 := Int32.ofInt x
theorem iI_add (x y : Int) : iI x + iI y = iI (x + y) := (Int32.ofInt_add x y).symm
theorem iI_sub (x y : Int) : iI x - iI y = iI (x - y) := (Int32.ofInt_sub x y).symm
theorem iI_mul (x y : Int) : iI x * iI y = iI (x * y) := (Int32.ofInt_mul x y).symm
theorem iI_neg (x : Int) : - iI x = iI (-x) := (Int32.ofInt_neg x).symm
theorem nI_iI (n : Nat) : nI n = iI (n : Int) := by
  apply Int32.toBitVec_inj.mp
  simp [nI, iI, Int32.ofNat, Int32.ofInt]
theorem iI_toInt {x : Int} (h1 : -2147483648 ≤ x) (h2 : x < 2147483648) : (iI x).toInt = x := Int32.toInt_ofInt_of_le h1 h2
theorem iI_le {x y : Int} (h1 : -2147483648 ≤ x) (h2 : x < 2147483648) (h3 : -2147483648 ≤ y) (h4 : y < 2147483648) : iI x ≤ iI y ↔ x ≤ y := by
  rw [Int32.le_iff_toInt_le, iI_toInt h1 h2, iI_toInt h3 h4]
theorem iI_lt {x y : Int} (h1 : -2147483648 ≤ x) (h2 : x < 2147483648) (h3 : -2147483648 ≤ y) (h4 : y < 2147483648) : iI x < iI y ↔ x < y := by
  rw [Int32.lt_iff_toInt_lt, iI_toInt h1 h2, iI_toInt h3 h4]
theorem iI_eq {x y : Int} (h1 : -2147483648 ≤ x) (h2 : x < 2147483648) (h3 : -2147483648 ≤ y) (h4 : y < 2147483648) : iI x = iI y ↔ x = y := by
  constructor
  · intro h
    have := congrArg Int32.toInt h
    rwa [iI_toInt h1 h2, iI_toInt h3 h4] at this
  · intro h; rw [h]
theorem lit_nI (n : Nat) : (OfNat.ofNat n : Int32) = nI n := rfl
/-! whole roots -/
def isq : Nat → Nat
  | 0 => 0
  | n + 1 => if (isq n + 1) * (isq n + 1) ≤ n + 1 then isq n + 1 else isq n
theorem isq_spec : ∀ n : Nat, isq n * isq n ≤ n ∧ n < (isq n + 1) * (isq n + 1)
  | 0 => by simp [isq]
  | n + 1 => by
    obtain ⟨h1, h2⟩ := isq_spec n
    unfold isq
    split
    · rename_i h
      refine ⟨h, ?_⟩
      have e : (isq n + 1 + 1) * (isq n + 1 + 1) = (isq n + 1) * (isq n + 1) + 2 * (isq n + 1) + 1 := by
        simp only [Nat.mul_add, Nat.add_mul]; omega
      omega
    · rename_i h
      exact ⟨by omega, by omega⟩
theorem isq_uniq {n t : Nat} (h1 : t * t ≤ n) (h2 : n < (t + 1) * (t + 1)) : t = isq n := by
  obtain ⟨g1, g2⟩ := isq_spec n
  rcases Nat.lt_trichotomy t (isq n) with h | h | h
  · have := Nat.mul_le_mul (show t + 1 ≤ isq n from h) (show t + 1 ≤ isq n from h)
    omega
  · exact h
  · have := Nat.mul_le_mul (show isq n + 1 ≤ t from h) (show isq n + 1 ≤ t from h)
    omega
theorem isq_lt {n k : Nat} (h : n < k * k) : isq n < k := by
  obtain ⟨g1, g2⟩ := isq_spec n
  rcases Nat.lt_or_ge (isq n) k with h1 | h1
  · exact h1
  · have := Nat.mul_le_mul h1 h1
    omega
def sq (a b : Nat) : Nat := (a - b + (b - a)) * (a - b + (b - a))
theorem nI_sq (a b : Nat) : (nI a - nI b) * (nI a - nI b) = nI (sq a b) := by
  rcases Nat.le_total b a with h | h
  · rw [pk_sub h, pk_mul]
    have : b - a = 0 := Nat.sub_eq_zero_of_le h
    simp [sq, this]
  · have e : nI a - nI b = - nI (b - a) := by
      rw [nI_iI, nI_iI, nI_iI, iI_sub, iI_neg]
      congr 1
      omega
    have : a - b = 0 := Nat.sub_eq_zero_of_le h
    rw [e]
    simp only [nI_iI, iI_neg, iI_mul, sq, this, Nat.zero_add]
    congr 1
    rw [Int.neg_mul_neg]
    norm_cast
/-- how long shaking takes -/
def tv (q a b : Nat) : Nat := isq (q * (sq (a % 12) (b % 12) + sq (a / 12) (b / 12)))
theorem sq_le {a b : Nat} (ha : a ≤ 11) (hb : b ≤ 11) : sq a b ≤ 121 := by
  have h : a - b + (b - a) ≤ 11 := by omega
  have := Nat.mul_le_mul h h
  exact this
theorem tv_arg {q a b : Nat} (hq : q ≤ 400) (ha : a < 144) (hb : b < 144) : q * (sq (a % 12) (b % 12) + sq (a / 12) (b / 12)) ≤ 96800 := by
  have h1 := sq_le (a := a % 12) (b := b % 12) (by omega) (by omega)
  have h2 := sq_le (a := a / 12) (b := b / 12) (by omega) (by omega)
  have := Nat.mul_le_mul hq (show sq (a % 12) (b % 12) + sq (a / 12) (b / 12) ≤ 242 by omega)
  omega
theorem tv_lt {q a b : Nat} (hq : q ≤ 400) (ha : a < 144) (hb : b < 144) : tv q a b < 312 := isq_lt (Nat.lt_of_le_of_lt (tv_arg hq ha hb) (by decide))
