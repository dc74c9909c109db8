section REA
variable {z : Nat}
theorem count8 {g : Hp} {V : VV} (h : IN g V) : f_X8_count z (some (9, 0)) 5 g = some (V 10 5, g) ∧ f_X8_count z (some (9, 0)) 3 g = some (nI (nqk V), g) := by
  constructor
  · simp only [f_X8_count, tsw, gi_C, h.f10, Option.bind_some]
    rw [if_neg (by decide), if_neg (by decide), if_neg (by decide), if_neg (by decide), if_neg (by decide), if_pos trivial]
  · simp only [f_X8_count, tsw, gr_C h.b1, cRef, Option.bind_some, ick_X, sizeJ h.c3]
    rw [if_neg (by decide), if_neg (by decide), if_neg (by decide), if_pos trivial]
theorem findOf {a : Int32} (hb : ¬ inB a 1 5 = 0) : ∃ i, 1 ≤ i ∧ i < 6 ∧ a = nI i := by
  obtain ⟨h1, h2⟩ := inB_ne hb
  have h0 : ¬ a < 0 := by
    intro q
    exact absurd (Int32.lt_of_lt_of_le q (show (0 : Int32) ≤ 1 by decide)) (Int32.not_lt.mpr h1)
  obtain ⟨j, hj, rfl⟩ := nI_of h0
  rw [show (5 : Int32) = nI 5 from rfl, nI_leI (by omega) (by omega)] at h2
  rw [show (1 : Int32) = nI 1 from rfl, nI_leI (by omega) (by omega)] at h1
  exact ⟨j, h1, by omega, rfl⟩
theorem iabs_n {x y : Nat} (hx : x < 1000000) (hy : y < 1000000) : iabs (nI x - nI y) = nI (x - y + (y - x)) := by
  unfold iabs
  rw [nI_iI x, nI_iI y, iI_sub, show (0 : Int32) = iI 0 from by decide]
  by_cases h : (0 : Int) ≤ (x : Int) - y
  · rw [if_pos ((iI_le (by omega) (by omega) (by omega) (by omega)).mpr h), nI_iI]; congr 1; omega
  · rw [if_neg (fun w => h ((iI_le (by omega) (by omega) (by omega) (by omega)).mp w)), iI_sub, nI_iI]; congr 1; omega
/-- the class's table of travels -/
def TT (g : Hp) (V : VV) : Prop := RC1 g.1 ∧ slo V ≤ 400 ∧ ∀ k, k < 144 → gI g (20, 0) k = nI (isq (slo V * ((k / 12) * (k / 12) + (k % 12) * (k % 12))))
theorem IN.tt {g : Hp} {V : VV} (h : IN g V) : TT g V := ⟨h.b1, h.v.hv.sl.2, fun _ hk => h.tr hk⟩
theorem between8 {g : Hp} {V : VV} (h : TT g V) {a b : Nat} (ha : a < 144) (hb : b < 144) : f_X7_between z (some (8, 0)) (nI a) (nI b) g = some (nI (tv (slo V) a b), g) := by
  have e : gR g (8, 0) 0 = some (20, 0) := h.1.1.2.1
  have hn : gN g (20, 0) = 144 := h.1.2.1
  unfold f_X7_between
  rw [show (12 : Int32) = nI 12 from rfl]
  simp only [rmI_n (show a < 2 ^ 31 by omega) (show 0 < 12 by decide) (show 12 < 2 ^ 31 by decide), rmI_n (show b < 2 ^ 31 by omega) (show 0 < 12 by decide) (show 12 < 2 ^ 31 by decide), dvI_n (show a < 2 ^ 31 by omega) (show 0 < 12 by decide) (show 12 < 2 ^ 31 by decide), dvI_n (show b < 2 ^ 31 by omega) (show 0 < 12 by decide) (show 12 < 2 ^ 31 by decide), gR_X, Option.bind_some, e, iabs_n (show a / 12 < 1000000 by omega) (show b / 12 < 1000000 by omega), iabs_n (show a % 12 < 1000000 by omega) (show b % 12 < 1000000 by omega), pk_mul, nI_add]
  have hd2 : a % 12 - b % 12 + (b % 12 - a % 12) < 12 := by omega
  have hd1 : a / 12 - b / 12 + (b / 12 - a / 12) < 12 := by omega
  unfold tv sq
  generalize a % 12 - b % 12 + (b % 12 - a % 12) = d2 at hd2 ⊢
  generalize a / 12 - b / 12 + (b / 12 - a / 12) = d1 at hd1 ⊢
  rw [ald_X hn (by decide) (by decide) (show 12 * d1 + d2 < 144 by omega) (by decide), h.2.2 _ (by omega)]
  have e1 : (12 * d1 + d2) / 12 = d1 := by omega
  have e2 : (12 * d1 + d2) % 12 = d2 := by omega
  rw [e1, e2, Nat.add_comm (d1 * d1)]
  rfl
theorem cl_in {d : Nat} (hd : d < 144) : ¬ inB (nI d) 0 143 = 0 := by
  unfold inB
  rw [show (0 : Int32) = nI 0 from rfl, show (143 : Int32) = nI 143 from rfl, if_neg (fun w => by have := (nI_ltI (by omega) (by omega)).mp w; omega), if_neg (fun w => by have := (nI_ltI (by omega) (by omega)).mp w; omega)]; decide
theorem travel8 {g : Hp} {V : VV} (h : IN g V) {i j : Nat} (hi : i < 144) (hj : j < 144) : f_X8_travel z (some (9, 0)) (nI i) (nI j) g = some (nI (tv (slo V) i j), g) := by
  simp only [f_X8_travel, cell8, Option.bind_some, if_neg (cl_in hi), if_neg (cl_in hj), gr_C h.b1, cRef, ick_X, between8 h.tt hi hj]
theorem inB_in {i n : Nat} (h : i < n) (hn : n < 1073741824) : inB (nI i) 0 (nI n - 1) = 1 := by
  cases n with
  | zero => omega
  | succ n =>
    unfold inB
    rw [nI_pred, show (0 : Int32) = nI 0 from rfl, if_neg (fun w => by have := (nI_ltI (by omega) (by omega)).mp w; omega), if_neg (fun w => by have := (nI_ltI (by omega) (by omega)).mp w; omega)]
end REA
