/-! what the document's words are over the model's table -/
def nst (V : VV) : Nat := (V 10 6).toNatClampNeg
def ntw (V : VV) : Nat := (V 10 9).toNatClampNeg
def npk (V : VV) : Nat := (V 10 15).toNatClampNeg
def nqk (V : VV) : Nat := (V 10 20).toNatClampNeg
def nms (V : VV) : Nat := (V 10 24).toNatClampNeg
def slo (V : VV) : Nat := (V 10 3).toNatClampNeg
def err (V : VV) : Nat := (V 10 4).toNatClampNeg
def nw (V : VV) : Nat := (V 10 5).toNatClampNeg
def cS (V : VV) (s : Nat) : Nat := (V 41 s).toNatClampNeg
def cT (V : VV) (t : Nat) : Nat := (V 42 t).toNatClampNeg
def sP (V : VV) (p : Nat) : Nat := (V 47 p).toNatClampNeg
def tk (V : VV) (p : Nat) : Nat := (V 48 p).toNatClampNeg
def sg (V : VV) (p : Nat) : Nat := (V 49 p).toNatClampNeg
/-- what a heap needs -/
def HV (V : VV) : Prop := (V 10 6 = nI (nst V) ∧ nst V ≤ 10) ∧ (V 10 15 = nI (npk V) ∧ npk V ≤ 60) ∧ (V 10 3 = nI (slo V) ∧ slo V ≤ 400) ∧ (V 10 4 = nI (err V) ∧ err V ≤ 50) ∧ (V 10 5 = nI (nw V) ∧ nw V ≤ 100000) ∧
  (∀ s, s < nst V → V 41 s = nI (cS V s) ∧ cS V s < 144 ∧ (V 60 s = 0 ∨ V 60 s = 1)) ∧
  (∀ p, p < npk V → V 47 p = nI (sP V p) ∧ sP V p < nst V ∧ V 48 p = nI (tk V p) ∧ tk V p ≤ nw V)
def VI (V : VV) : Prop := HV V ∧ (V 10 9 = nI (ntw V) ∧ ntw V ≤ 6) ∧ (V 10 20 = nI (nqk V) ∧ nqk V ≤ 5) ∧ V 10 24 = nI (nms V) ∧
  (∀ s, s < nst V → V 43 s = -9 ∨ ∃ m, m ≤ 30 ∧ V 43 s = nI m) ∧
  (∀ t, t < ntw V → V 42 t = nI (cT V t) ∧ cT V t < 144) ∧
  (∀ p, p < npk V → V 49 p = nI (sg V p) ∧ 1 ≤ sg V p ∧ sg V p ≤ 1000000 ∧ (V 50 p = -9 ∨ ∃ q, q < nqk V ∧ V 50 p = nI q)) ∧
  (∀ q, q < nqk V → ∃ p, p < npk V ∧ V 51 q = nI p ∧ V 50 p = nI q) ∧
  (∀ p p', p < npk V → p' < npk V → V 50 p = V 50 p' → V 50 p ≠ -9 → sP V p = sP V p' → p = p') ∧
  (∀ q t k, q < 5 → t < 6 → 1 ≤ k → k < 5 → V 55 (30 * q + 5 * t + k) = 0 ∨ V 55 (30 * q + 5 * t + k) = 1 ∨ V 55 (30 * q + 5 * t + k) = 2)
def TV (V : VV) (c d : Nat) : Int := (tv (slo V) c d : Int)
def pkT (V : VV) (p c : Nat) : Int := (tk V p : Int) - TV V c (cS V (sP V p))
def hrd (V : VV) (q s : Nat) : Nat → Bool
  | 0 => false
  | p + 1 => hrd V q s p || (decide (V 50 p = nI q) && decide (V 47 p = nI s))
def loP (V : VV) (q c : Nat) : Nat → Int
  | 0 => -1000000000
  | p + 1 => if V 50 p = nI q then max (loP V q c p) (pkT V p c - err V) else loP V q c p
def hiP (V : VV) (q c : Nat) : Nat → Int
  | 0 => 1000000000
  | p + 1 => if V 50 p = nI q then min (hiP V q c p) (pkT V p c + err V) else hiP V q c p
def loS (V : VV) (q c : Nat) : Nat → Int
  | 0 => loP V q c (npk V)
  | s + 1 => if V 60 s = 0 ∧ hrd V q s (npk V) = false then max (loS V q c s) ((nw V : Int) - TV V c (cS V s) - err V) else loS V q c s
def lo (V : VV) (q c : Nat) : Int := loS V q c (nst V)
def hi (V : VV) (q c : Nat) : Int := hiP V q c (npk V)
def ncl (V : VV) (q : Nat) : Nat → Nat
  | 0 => 0
  | c + 1 => if lo V q c ≤ hi V q c then ncl V q c + 1 else ncl V q c
theorem ncl_le (V : VV) (q : Nat) : ∀ n, ncl V q n ≤ n
  | 0 => Nat.le_refl _
  | c + 1 => by unfold ncl; have := ncl_le V q c; split <;> omega
/-- the heap that is laid: where a cell is over, its first time may be told too low -/
def HP (V : VV) (q : Nat) (V2 : VV) (n : Nat) : Prop := ∀ c, c < n → V2 53 c = iI (hi V q c) ∧ ∃ x : Int, V2 52 c = iI x ∧ -1000000000 ≤ x ∧ x ≤ 100100 ∧ (x ≤ hi V q c ↔ lo V q c ≤ hi V q c) ∧ (lo V q c ≤ hi V q c → x = lo V q c)
def EqR (V V2 : VV) : Prop := ∀ c, c ≠ 52 → c ≠ 53 → V2 c = V c
theorem TV_b {V : VV} (hq : slo V ≤ 400) {c d : Nat} (hc : c < 144) (hd : d < 144) : 0 ≤ TV V c d ∧ TV V c d ≤ 311 := by
  have := tv_lt hq hc hd
  unfold TV
  omega
theorem loP_b {V : VV} (h : HV V) {q c : Nat} (hc : c < 144) : ∀ p, p ≤ npk V → -1000000000 ≤ loP V q c p ∧ loP V q c p ≤ 100000
  | 0, _ => by simp [loP]
  | p + 1, hp => by
    have ih := loP_b h (q := q) hc p (by omega)
    obtain ⟨-, -, ⟨-, h3⟩, ⟨-, h4⟩, ⟨-, h5⟩, h6, h7⟩ := h
    obtain ⟨a1, a2, a3, a4⟩ := h7 p (by omega)
    have := TV_b h3 hc (h6 _ a2).2.1
    unfold loP
    split
    · unfold pkT
      omega
    · exact ih
theorem hiP_b {V : VV} (h : HV V) {q c : Nat} (hc : c < 144) : ∀ p, p ≤ npk V → -400 ≤ hiP V q c p ∧ hiP V q c p ≤ 1000000000
  | 0, _ => by simp [hiP]
  | p + 1, hp => by
    have ih := hiP_b h (q := q) hc p (by omega)
    obtain ⟨-, -, ⟨-, h3⟩, ⟨-, h4⟩, ⟨-, h5⟩, h6, h7⟩ := h
    obtain ⟨a1, a2, a3, a4⟩ := h7 p (by omega)
    have := TV_b h3 hc (h6 _ a2).2.1
    unfold hiP
    split
    · unfold pkT
      omega
    · exact ih
theorem loS_b {V : VV} (h : HV V) {q c : Nat} (hc : c < 144) : ∀ s, s ≤ nst V → -1000000000 ≤ loS V q c s ∧ loS V q c s ≤ 100000
  | 0, _ => loP_b h hc _ (Nat.le_refl _)
  | s + 1, hs => by
    have ih := loS_b h (q := q) hc s (by omega)
    obtain ⟨-, -, ⟨-, h3⟩, ⟨-, h4⟩, ⟨-, h5⟩, h6, h7⟩ := h
    have := TV_b h3 hc (h6 s (by omega)).2.1
    unfold loS
    split <;> omega
theorem loS_mono {V : VV} {q c : Nat} {s : Nat} : ∀ n, s ≤ n → loS V q c s ≤ loS V q c n := by
  intro n hn
  induction n with
  | zero => have : s = 0 := by omega
            subst this; exact Int.le_refl _
  | succ n ih =>
    by_cases h : s = n + 1
    · subst h; exact Int.le_refl _
    · have := ih (by omega)
      have e : loS V q c n ≤ loS V q c (n + 1) := by
        conv => rhs; unfold loS
        split <;> omega
      omega
theorem iI_max {a b : Int} (h1 : -2147483648 ≤ a) (h2 : a < 2147483648) (h3 : -2147483648 ≤ b) (h4 : b < 2147483648) : (if iI b ≤ iI a then iI a else iI b) = iI (max a b) := by
  by_cases h : b ≤ a
  · rw [if_pos ((iI_le h3 h4 h1 h2).mpr h)]; congr 1; omega
  · rw [if_neg (fun q => h ((iI_le h3 h4 h1 h2).mp q))]; congr 1; omega
theorem iI_min {a b : Int} (h1 : -2147483648 ≤ a) (h2 : a < 2147483648) (h3 : -2147483648 ≤ b) (h4 : b < 2147483648) : (if iI a ≤ iI b then iI a else iI b) = iI (min a b) := by
  by_cases h : a ≤ b
  · rw [if_pos ((iI_le h1 h2 h3 h4).mpr h)]; congr 1; omega
  · rw [if_neg (fun q => h ((iI_le h1 h2 h3 h4).mp q))]; congr 1; omega
/-- how many bits -/
def bl (w : Nat) : Nat := if w = 0 then 0 else w.log2 + 1
theorem bl_le {w k : Nat} : w < 2 ^ k ↔ bl w ≤ k := by
  unfold bl
  split
  · rename_i h; subst h; simp [Nat.pow_pos]
  · rename_i h; rw [← Nat.log2_lt h]; omega
