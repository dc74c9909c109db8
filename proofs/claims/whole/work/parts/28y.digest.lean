/-! digest -/
def dG (F : Nat → Int32) : Nat → Nat → Int64 → Int64
  | 0, _, a => a
  | k + 1, v, a => dG F k (v + 1) (31 * a + (F v).toInt64)
def dH (F : Nat → Int64 → Int64) : Nat → Nat → Int64 → Int64
  | 0, _, a => a
  | k + 1, v, a => dH F k (v + 1) (F v a)
def lnD (V : VV) (i : Nat) : Nat := if V 43 i = -9 then 0 else (V 43 i).toNatClampNeg
def szD (V : VV) (i : Nat) : Int32 := if V 43 i = -9 then -1 else V 43 i
def rwD (V : VV) (i : Nat) (a : Int64) : Int64 := dG (fun v => V 44 (30 * i + v)) (lnD V i) 0 (31 * a + (szD V i).toInt64)
def dgF (V : VV) : Int64 := dH (fun i a => dG (fun w => V 54 (4 * i + w)) 4 0 a) (kp V) 0 (dH (fun q a => dG (fun v => tqF V q (nI v)) 5 0 a) (nqk V) 0 (dH (fun p a => dG (fun v => tellF V p (nI v)) 5 0 a) (npk V) 0 (dH (rwD V) (nst V) 0 (31 * 17 + (V 10 5).toInt64))))
theorem in4y : ∀ v, v < 5 → ¬ inB (nI v) 0 4 = 0 := by decide +kernel
theorem in3y : ∀ v, v < 4 → ¬ inB (nI v) 0 3 = 0 := by decide +kernel
section DIA
variable {z : Nat}
theorem row8D_L {g : Hp} {V : VV} (h : IN g V) {i : Nat} (hi : i < nst V) {m : Nat} (hm : m ≤ 30) (e1 : gI g (5, i) 1 = nI m) (p0 : Int64) : ∀ (k n v : Nat) (a : Int64), v + k = m → k < n → f_X8_mixedRow_12_L z p0 (some (5, i)) n (nI v) a g = some (nI m, dG (fun v => V 44 (30 * i + v)) k v a, g)
  | k, 0, _, _, _, h => absurd h (Nat.not_lt_zero _)
  | 0, n + 1, v, a, e, _ => by
    show f_X8_mixedRow_12_b z p0 (some (5, i)) (f_X8_mixedRow_12_L z p0 (some (5, i)) n) (nI v) a g = some (nI m, a, g)
    unfold f_X8_mixedRow_12_b
    simp only [gI_X, Option.bind_some, e1]
    rw [if_pos ((nI_leI (by omega) (by omega)).mpr (by omega)), show v = m by omega]
  | k + 1, n + 1, v, a, e, hn => by
    show f_X8_mixedRow_12_b z p0 (some (5, i)) (f_X8_mixedRow_12_L z p0 (some (5, i)) n) (nI v) a g = some (nI m, dG (fun v => V 44 (30 * i + v)) k (v + 1) (31 * a + (V 44 (30 * i + v)).toInt64), g)
    unfold f_X8_mixedRow_12_b
    simp only [gI_X, Option.bind_some, e1]
    rw [if_neg (fun w => by have := (nI_leI (by omega) (by omega)).mp w; omega)]
    simp only [gR_X, gR50 h hi, Option.bind_some, ald_X (gN25 h hi) (by decide) (by decide) (show v < 30 by omega) (by decide), h.rd hi (show v < 30 by omega), f_X8_mixed, nI_1]
    exact row8D_L h hi hm e1 p0 k n (v + 1) _ (by omega) (by omega)
theorem row8D (hz : 2000 ≤ z) {g : Hp} {V : VV} (h : IN g V) {i : Nat} (hi : i < nst V) (a : Int64) : f_X8_mixedRow z a (some (5, i)) g = some (rwD V i a, g) := by
  unfold rwD lnD szD
  rcases szS h hi with ⟨e, e1⟩ | ⟨m, hm, e, en, e1⟩
  · have hL : f_X8_mixedRow_12_L z a (some (5, i)) z 0 (31 * a + (-1 : Int32).toInt64) g = some (0, 31 * a + (-1 : Int32).toInt64, g) := by
      obtain ⟨w, hw⟩ : ∃ w, z = w + 1 := ⟨z - 1, by omega⟩
      have : ∀ n, f_X8_mixedRow_12_L z a (some (5, i)) (n + 1) 0 (31 * a + (-1 : Int32).toInt64) g = some (0, 31 * a + (-1 : Int32).toInt64, g) := fun n => by
        show f_X8_mixedRow_12_b z a (some (5, i)) (f_X8_mixedRow_12_L z a (some (5, i)) n) 0 _ g = _
        unfold f_X8_mixedRow_12_b
        simp only [gI_X, Option.bind_some, e1]
        rw [if_pos (by decide)]
      have t := this w
      rw [← hw] at t
      exact t
    rw [if_pos e, if_pos e]
    simp only [f_X8_mixedRow, gI_X, e1, Option.bind_some, f_X8_mixed, hL]
    rfl
  · have hL := row8D_L (z := z) h hi hm e1 a m z 0 (31 * a + (nI m).toInt64) (by omega) (by omega)
    rw [if_neg en, if_neg en, e, nI_cl (by omega)]
    simp only [f_X8_mixedRow, gI_X, e1, Option.bind_some, f_X8_mixed]
    rw [show (0 : Int32) = nI 0 from rfl, hL]
    rfl
theorem st8D_L (hz : 2000 ≤ z) {g : Hp} {V : VV} (h : IN g V) : ∀ (k n i : Nat) (a : Int64), i + k = nst V → k < n → f_X8_digest_13_L z (some (9, 0)) n (nI i) a g = some (nI (nst V), dH (rwD V) k i a, g)
  | k, 0, _, _, _, h => absurd h (Nat.not_lt_zero _)
  | 0, n + 1, i, a, e, _ => by
    have hs := h.v.hv.ns.2
    show f_X8_digest_13_b z (some (9, 0)) (f_X8_digest_13_L z (some (9, 0)) n) (nI i) a g = some (nI (nst V), a, g)
    unfold f_X8_digest_13_b
    simp only [gr_C h.b1, cRef, Option.bind_some, ick_X, sizeJ h.c0]
    rw [if_pos ((nI_leI (by omega) (by omega)).mpr (by omega)), show i = nst V by omega]
  | k + 1, n + 1, i, a, e, hn => by
    have hs := h.v.hv.ns.2
    show f_X8_digest_13_b z (some (9, 0)) (f_X8_digest_13_L z (some (9, 0)) n) (nI i) a g = some (nI (nst V), dH (rwD V) k (i + 1) (rwD V i a), g)
    unfold f_X8_digest_13_b
    simp only [gr_C h.b1, cRef, Option.bind_some, ick_X, sizeJ h.c0]
    rw [if_neg (fun w => by have := (nI_leI (by omega) (by omega)).mp w; omega)]
    simp only [rowOf8 h (show i < nst V by omega), Option.bind_some, row8D hz h (show i < nst V by omega), nI_1]
    exact st8D_L hz h k n (i + 1) _ (by omega) (by omega)
theorem tl8D_L {g : Hp} {V : VV} (h : IN g V) {p : Nat} (hp : p < npk V) : ∀ (k n v : Nat) (a : Int64), v + k = 5 → k < n → f_X8_digest_56_L z (nI p) (some (9, 0)) n (nI v) a g = some (5, dG (fun v => tellF V p (nI v)) k v a, g)
  | k, 0, _, _, _, h => absurd h (Nat.not_lt_zero _)
  | 0, n + 1, v, a, e, _ => by
    show f_X8_digest_56_b z (nI p) (some (9, 0)) (f_X8_digest_56_L z (nI p) (some (9, 0)) n) (nI v) a g = some (5, a, g)
    unfold f_X8_digest_56_b
    rw [show v = 5 by omega, if_pos (by decide)]
    rfl
  | k + 1, n + 1, v, a, e, hn => by
    show f_X8_digest_56_b z (nI p) (some (9, 0)) (f_X8_digest_56_L z (nI p) (some (9, 0)) n) (nI v) a g = some (5, dG (fun v => tellF V p (nI v)) k (v + 1) (31 * a + (tellF V p (nI v)).toInt64), g)
    unfold f_X8_digest_56_b
    rw [show (4 : Int32) = nI 4 from rfl, if_neg (fun w => by have := (nI_ltI (by omega) (by omega)).mp w; omega)]
    simp only [ick_X, told8 h hp (in4y v (by omega)), Option.bind_some, f_X8_mixed, nI_1]
    exact tl8D_L h hp k n (v + 1) _ (by omega) (by omega)
theorem pk8D_L (hz : 2000 ≤ z) {g : Hp} {V : VV} (h : IN g V) : ∀ (k n p : Nat) (a : Int64), p + k = npk V → k < n → f_X8_digest_42_L z (some (9, 0)) n (nI p) a g = some (nI (npk V), dH (fun p a => dG (fun v => tellF V p (nI v)) 5 0 a) k p a, g)
  | k, 0, _, _, _, h => absurd h (Nat.not_lt_zero _)
  | 0, n + 1, p, a, e, _ => by
    have hs := h.v.hv.np.2
    show f_X8_digest_42_b z (some (9, 0)) (f_X8_digest_42_L z (some (9, 0)) n) (nI p) a g = some (nI (npk V), a, g)
    unfold f_X8_digest_42_b
    simp only [gr_C h.b1, cRef, Option.bind_some, ick_X, sizeJ h.c2]
    rw [if_pos ((nI_leI (by omega) (by omega)).mpr (by omega)), show p = npk V by omega]
  | k + 1, n + 1, p, a, e, hn => by
    have hs := h.v.hv.np.2
    have hL := tl8D_L (z := z) h (show p < npk V by omega) 5 z 0 a rfl (by omega)
    show f_X8_digest_42_b z (some (9, 0)) (f_X8_digest_42_L z (some (9, 0)) n) (nI p) a g = some (nI (npk V), dH (fun p a => dG (fun v => tellF V p (nI v)) 5 0 a) k (p + 1) (dG (fun v => tellF V p (nI v)) 5 0 a), g)
    unfold f_X8_digest_42_b
    simp only [gr_C h.b1, cRef, Option.bind_some, ick_X, sizeJ h.c2]
    rw [if_neg (fun w => by have := (nI_leI (by omega) (by omega)).mp w; omega), show (0 : Int32) = nI 0 from rfl, hL, nI_1]
    simp only [Option.bind_some]
    exact pk8D_L hz h k n (p + 1) _ (by omega) (by omega)
theorem tq8D_L (hz : 2000 ≤ z) {V : VV} {q : Nat} : ∀ (k n v : Nat) (a : Int64) (g : Hp), IN g V → q < nqk V → v + k = 5 → k < n → ∃ g2, f_X8_digest_102_L z (nI q) (some (9, 0)) n (nI v) a g = some (5, dG (fun v => tqF V q (nI v)) k v a, g2) ∧ Ch [1, 21, 22] g g2 ∧ IN g2 V
  | k, 0, _, _, _, _, _, _, h => absurd h (Nat.not_lt_zero _)
  | 0, n + 1, v, a, g, h, _, e, _ => by
    refine ⟨g, ?_, Ch.rf _ _, h⟩
    show f_X8_digest_102_b z (nI q) (some (9, 0)) (f_X8_digest_102_L z (nI q) (some (9, 0)) n) (nI v) a g = some (5, a, g)
    unfold f_X8_digest_102_b
    rw [show v = 5 by omega, if_pos (by decide)]
    rfl
  | k + 1, n + 1, v, a, g, h, hq, e, hn => by
    obtain ⟨g1, a1, a2, a3⟩ := quake8 hz h hq (in4y v (by omega))
    obtain ⟨g2, b1, b2, b3⟩ := tq8D_L hz (V := V) (q := q) k n (v + 1) (31 * a + (tqF V q (nI v)).toInt64) g1 a3 hq (by omega) (by omega)
    refine ⟨g2, ?_, a2.tr b2, b3⟩
    show f_X8_digest_102_b z (nI q) (some (9, 0)) (f_X8_digest_102_L z (nI q) (some (9, 0)) n) (nI v) a g = some (5, dG (fun v => tqF V q (nI v)) k (v + 1) (31 * a + (tqF V q (nI v)).toInt64), g2)
    unfold f_X8_digest_102_b
    rw [show (4 : Int32) = nI 4 from rfl, if_neg (fun w => by have := (nI_ltI (by omega) (by omega)).mp w; omega)]
    simp only [ick_X, a1, Option.bind_some, f_X8_mixed, nI_1]
    exact b1
theorem qk8D_L (hz : 2000 ≤ z) {V : VV} : ∀ (k n q : Nat) (a : Int64) (g : Hp), IN g V → q + k = nqk V → k < n → ∃ g2, f_X8_digest_88_L z (some (9, 0)) n (nI q) a g = some (nI (nqk V), dH (fun q a => dG (fun v => tqF V q (nI v)) 5 0 a) k q a, g2) ∧ Ch [1, 21, 22] g g2 ∧ IN g2 V
  | k, 0, _, _, _, _, _, h => absurd h (Nat.not_lt_zero _)
  | 0, n + 1, q, a, g, h, e, _ => by
    have hs := h.v.qk.2
    refine ⟨g, ?_, Ch.rf _ _, h⟩
    show f_X8_digest_88_b z (some (9, 0)) (f_X8_digest_88_L z (some (9, 0)) n) (nI q) a g = some (nI (nqk V), a, g)
    unfold f_X8_digest_88_b
    simp only [gr_C h.b1, cRef, Option.bind_some, ick_X, sizeJ h.c3]
    rw [if_pos ((nI_leI (by omega) (by omega)).mpr (by omega)), show q = nqk V by omega]
  | k + 1, n + 1, q, a, g, h, e, hn => by
    have hs := h.v.qk.2
    obtain ⟨g1, a1, a2, a3⟩ := tq8D_L (z := z) hz (V := V) (q := q) 5 z 0 a g h (by omega) rfl (by omega)
    obtain ⟨g2, b1, b2, b3⟩ := qk8D_L hz (V := V) k n (q + 1) (dG (fun v => tqF V q (nI v)) 5 0 a) g1 a3 (by omega) (by omega)
    refine ⟨g2, ?_, a2.tr b2, b3⟩
    show f_X8_digest_88_b z (some (9, 0)) (f_X8_digest_88_L z (some (9, 0)) n) (nI q) a g = some (nI (nqk V), dH (fun q a => dG (fun v => tqF V q (nI v)) 5 0 a) k (q + 1) (dG (fun v => tqF V q (nI v)) 5 0 a), g2)
    unfold f_X8_digest_88_b
    simp only [gr_C h.b1, cRef, Option.bind_some, ick_X, sizeJ h.c3]
    rw [if_neg (fun w => by have := (nI_leI (by omega) (by omega)).mp w; omega), show (0 : Int32) = nI 0 from rfl, a1, nI_1]
    simp only [Option.bind_some]
    exact b1
theorem msg8 {g : Hp} {V : VV} (h : IN g V) {i k : Nat} (hi : i < kp V) (hk : k < 4) : f_X8_message z (some (9, 0)) (nI i) (nI k) g = some (V 54 (4 * i + k), g) := by
  have hkb := kp_b V
  have h1 := in3y k hk
  have h2 : ¬ inB (nI i) 0 (nI (kp V) - 1) = 0 := by rw [inB_in hi (by omega)]; decide
  simp only [f_X8_message, in8, Option.bind_some, if_neg h1, gr_C h.b1, cRef, ick_X, sizeJ h.c4, if_neg h2, getM h hi, ckc_X, tsw, gI_X, h.m0 hi (show 0 < 4 by decide), h.m0 hi (show 1 < 4 by decide), h.m0 hi (show 2 < 4 by decide), h.m0 hi (show 3 < 4 by decide)]
  rcases (by omega : k = 0 ∨ k = 1 ∨ k = 2 ∨ k = 3) with rfl | rfl | rfl | rfl
  · rw [if_pos (by decide)]
  · rw [if_neg (by decide), if_pos (by decide)]
  · rw [if_neg (by decide), if_neg (by decide), if_pos (by decide)]
  · rw [if_neg (by decide), if_neg (by decide), if_neg (by decide)]
theorem ms8D_L {g : Hp} {V : VV} (h : IN g V) {i : Nat} (hi : i < kp V) : ∀ (k n v : Nat) (a : Int64), v + k = 4 → k < n → f_X8_digest_148_L z (nI i) (some (9, 0)) n (nI v) a g = some (4, dG (fun w => V 54 (4 * i + w)) k v a, g)
  | k, 0, _, _, _, h => absurd h (Nat.not_lt_zero _)
  | 0, n + 1, v, a, e, _ => by
    show f_X8_digest_148_b z (nI i) (some (9, 0)) (f_X8_digest_148_L z (nI i) (some (9, 0)) n) (nI v) a g = some (4, a, g)
    unfold f_X8_digest_148_b
    rw [show v = 4 by omega, if_pos (by decide)]
    rfl
  | k + 1, n + 1, v, a, e, hn => by
    show f_X8_digest_148_b z (nI i) (some (9, 0)) (f_X8_digest_148_L z (nI i) (some (9, 0)) n) (nI v) a g = some (4, dG (fun w => V 54 (4 * i + w)) k (v + 1) (31 * a + (V 54 (4 * i + v)).toInt64), g)
    unfold f_X8_digest_148_b
    rw [show (3 : Int32) = nI 3 from rfl, if_neg (fun w => by have := (nI_ltI (by omega) (by omega)).mp w; omega)]
    simp only [ick_X, msg8 h hi (show v < 4 by omega), Option.bind_some, f_X8_mixed, nI_1]
    exact ms8D_L h hi k n (v + 1) _ (by omega) (by omega)
theorem km8D_L (hz : 2000 ≤ z) {g : Hp} {V : VV} (h : IN g V) : ∀ (k n i : Nat) (a : Int64), i + k = kp V → k < n → f_X8_digest_134_L z (some (9, 0)) n (nI i) a g = some (nI (kp V), dH (fun i a => dG (fun w => V 54 (4 * i + w)) 4 0 a) k i a, g)
  | k, 0, _, _, _, h => absurd h (Nat.not_lt_zero _)
  | 0, n + 1, i, a, e, _ => by
    have hs := kp_b V
    show f_X8_digest_134_b z (some (9, 0)) (f_X8_digest_134_L z (some (9, 0)) n) (nI i) a g = some (nI (kp V), a, g)
    unfold f_X8_digest_134_b
    simp only [gr_C h.b1, cRef, Option.bind_some, ick_X, sizeJ h.c4]
    rw [if_pos ((nI_leI (by omega) (by omega)).mpr (by omega)), show i = kp V by omega]
  | k + 1, n + 1, i, a, e, hn => by
    have hs := kp_b V
    have hL := ms8D_L (z := z) h (show i < kp V by omega) 4 z 0 a rfl (by omega)
    show f_X8_digest_134_b z (some (9, 0)) (f_X8_digest_134_L z (some (9, 0)) n) (nI i) a g = some (nI (kp V), dH (fun i a => dG (fun w => V 54 (4 * i + w)) 4 0 a) k (i + 1) (dG (fun w => V 54 (4 * i + w)) 4 0 a), g)
    unfold f_X8_digest_134_b
    simp only [gr_C h.b1, cRef, Option.bind_some, ick_X, sizeJ h.c4]
    rw [if_neg (fun w => by have := (nI_leI (by omega) (by omega)).mp w; omega), show (0 : Int32) = nI 0 from rfl, hL, nI_1]
    simp only [Option.bind_some]
    exact km8D_L hz h k n (i + 1) _ (by omega) (by omega)
theorem digest8 (hz : 2000 ≤ z) {g : Hp} {V : VV} (h : IN g V) : ∃ g2, f_X8_digest z (some (9, 0)) g = some (dgF V, g2) ∧ Ch [1, 21, 22] g g2 ∧ IN g2 V := by
  have b1 := h.v.hv.ns.2
  have b2 := h.v.hv.np.2
  have b3 := h.v.qk.2
  have b4 := kp_b V
  have l1 := st8D_L hz h (nst V) z 0 (31 * 17 + (V 10 5).toInt64) (by omega) (by omega)
  have l2 := pk8D_L hz h (npk V) z 0 (dH (rwD V) (nst V) 0 (31 * 17 + (V 10 5).toInt64)) (by omega) (by omega)
  obtain ⟨g2, l3, l4, l5⟩ := qk8D_L hz (nqk V) z 0 (dH (fun p a => dG (fun v => tellF V p (nI v)) 5 0 a) (npk V) 0 (dH (rwD V) (nst V) 0 (31 * 17 + (V 10 5).toInt64))) g h (by omega) (by omega)
  have l6 := km8D_L hz l5 (kp V) z 0 (dH (fun q a => dG (fun v => tqF V q (nI v)) 5 0 a) (nqk V) 0 (dH (fun p a => dG (fun v => tellF V p (nI v)) 5 0 a) (npk V) 0 (dH (rwD V) (nst V) 0 (31 * 17 + (V 10 5).toInt64)))) (by omega) (by omega)
  refine ⟨g2, ?_, l4, l5⟩
  unfold f_X8_digest
  rw [show (0 : Int32) = nI 0 from rfl]
  simp only [gi_C, h.f10, f_X8_mixed, Option.bind_some, l1, l2, l3, l6]
  rfl
end DIA
