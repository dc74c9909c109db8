/-! the calls that read, and the plain ones that write -/
section SIM
variable {g : Hp} {V : VV} {z : Nat}
theorem IN.c0 (h : IN g V) : gI g (0, 0) 2 = nI (nst V) := h.i (by simp [cI])
theorem IN.c1 (h : IN g V) : gI g (0, 1) 2 = nI (ntw V) := h.i (by simp [cI])
theorem IN.c2 (h : IN g V) : gI g (0, 2) 2 = nI (npk V) := h.i (by simp [cI])
theorem IN.c3 (h : IN g V) : gI g (0, 3) 2 = nI (nqk V) := h.i (by simp [cI])
theorem IN.c4 (h : IN g V) : gI g (0, 4) 2 = nI (kp V) := h.i (by simp [cI])
theorem IN.f9 (h : IN g V) : gI g (9, 0) 9 = V 10 0 := h.i (by simp [cI])
theorem IN.f10 (h : IN g V) : gI g (9, 0) 10 = V 10 5 := h.i (by simp [cI])
theorem IN.f11 (h : IN g V) : gI g (9, 0) 11 = V 10 4 := h.i (by simp [cI])
theorem IN.f12 (h : IN g V) : gI g (9, 0) 12 = V 10 24 := h.i (by simp [cI])
theorem IN.f13 (h : IN g V) : gI g (9, 0) 13 = V 10 2 := h.i (by simp [cI])
theorem IN.s0 (h : IN g V) {i : Nat} (hi : i < nst V) : gI g (6, i) 0 = V 41 i := h.i (by simp [cI, hi])
theorem IN.s2 (h : IN g V) {i : Nat} (hi : i < nst V) : gI g (6, i) 2 = V 60 i := h.i (by simp [cI, hi])
theorem IN.r1 (h : IN g V) {i : Nat} (hi : i < nst V) : gI g (5, i) 1 = if V 43 i = -9 then -1 else V 43 i := h.i (by simp [cI, hi])
theorem IN.rd (h : IN g V) {i k : Nat} (hi : i < nst V) (hk : k < 30) : gI g (25, i) k = V 44 (30 * i + k) := h.i (by simp [cI, hi, hk])
theorem IN.t0 (h : IN g V) {i : Nat} (hi : i < ntw V) : gI g (7, i) 0 = V 42 i := h.i (by simp [cI, hi])
theorem IN.p0 (h : IN g V) {i : Nat} (hi : i < npk V) : gI g (3, i) 0 = V 47 i := h.i (by simp [cI, hi])
theorem IN.p1 (h : IN g V) {i : Nat} (hi : i < npk V) : gI g (3, i) 1 = V 48 i := h.i (by simp [cI, hi])
theorem IN.p2 (h : IN g V) {i : Nat} (hi : i < npk V) : gI g (3, i) 2 = V 49 i := h.i (by simp [cI, hi])
theorem IN.p3 (h : IN g V) {i : Nat} (hi : i < npk V) : gI g (3, i) 3 = kdF V i := h.i (by simp [cI, hi])
theorem IN.p4 (h : IN g V) {i : Nat} (hi : i < npk V) : gI g (3, i) 4 = V 50 i := h.i (by simp [cI, hi])
theorem IN.q0 (h : IN g V) {i : Nat} (hi : i < nqk V) : gI g (4, i) 0 = nI (sP V (fP V i)) := h.i (by simp [cI, hi])
theorem IN.q1 (h : IN g V) {i : Nat} (hi : i < nqk V) : gI g (4, i) 1 = nI (sg V (fP V i)) := h.i (by simp [cI, hi])
theorem IN.q3 (h : IN g V) {i : Nat} (hi : i < nqk V) : gI g (4, i) 3 = nI (cntF V i (npk V)) := h.i (by simp [cI, hi])
theorem IN.qt (h : IN g V) {i k : Nat} (hi : i < nqk V) (hk : k < 10) : gI g (26, i) k = iI (tkS V i k (npk V)) := h.i (by simp [cI, hi, hk])
theorem IN.q27 (h : IN g V) {i k : Nat} (hi : i < nqk V) (hk : k < 6) : gI g (27, i) k = nI (bt (toldF V i k)) := h.i (by simp [cI, hi, hk])
theorem IN.q28 (h : IN g V) {i k : Nat} (hi : i < nqk V) (hk : k < 6) : gI g (28, i) k = nI (bt (backF V i k)) := h.i (by simp [cI, hi, hk])
theorem IN.m0 (h : IN g V) {i k : Nat} (hi : i < kp V) (hk : k < 4) : gI g (2, i) k = V 54 (4 * i + k) := h.i (by simp [cI, hi, hk])
theorem IN.ne (h : IN g V) {k : Nat} (hk : k < 6) : gI g (23, 0) k = V 45 k := h.i (by simp [cI, hk])
theorem IN.an (h : IN g V) {k : Nat} (hk : k < 6) : gI g (24, 0) k = V 40 k := h.i (by simp [cI, hk])
theorem IN.tr (h : IN g V) {k : Nat} (hk : k < 144) : gI g (20, 0) k = nI (isq (slo V * ((k / 12) * (k / 12) + (k % 12) * (k % 12)))) := h.i (by simp [cI, hk])
theorem IN.b1 (h : IN g V) : RC1 g.1 := h.r.1
theorem kp_b (V : VV) : kp V ≤ 400 ∧ kp V ≤ nms V := by unfold kp; split <;> omega
theorem isStation8 (h : IN g V) (a : Int32) : f_X8_isStation z (some (9, 0)) a g = some (inB a 0 (V 10 6 - 1), g) := by
  simp only [f_X8_isStation, gr_C h.b1, cRef, Option.bind_some, ick_X, sizeJ h.c0, in8, ← h.v.hv.ns.1, rtZ_01 (inB_01 _ _ _)]
theorem isTown8 (h : IN g V) (a : Int32) : f_X8_isTown z (some (9, 0)) a g = some (inB a 0 (V 10 9 - 1), g) := by
  simp only [f_X8_isTown, gr_C h.b1, cRef, Option.bind_some, ick_X, sizeJ h.c1, in8, ← h.v.tw.1, rtZ_01 (inB_01 _ _ _)]
theorem isQuake8 (h : IN g V) (a : Int32) : f_X8_isQuake z (some (9, 0)) a g = some (inB a 0 (V 10 20 - 1), g) := by
  simp only [f_X8_isQuake, gr_C h.b1, cRef, Option.bind_some, ick_X, sizeJ h.c3, in8, ← h.v.qk.1, rtZ_01 (inB_01 _ _ _)]
theorem stOf (h : IN g V) {a : Int32} (hb : ¬ inB a 0 (V 10 6 - 1) = 0) : ∃ i, i < nst V ∧ a = nI i := by
  have := h.v.hv.ns; rw [this.1] at hb; exact inB_nI (by omega) hb
theorem twOf (h : IN g V) {a : Int32} (hb : ¬ inB a 0 (V 10 9 - 1) = 0) : ∃ i, i < ntw V ∧ a = nI i := by
  have := h.v.tw; rw [this.1] at hb; exact inB_nI (by omega) hb
theorem pkOf (h : IN g V) {a : Int32} (hb : ¬ inB a 0 (V 10 15 - 1) = 0) : ∃ i, i < npk V ∧ a = nI i := by
  have := h.v.hv.np; rw [this.1] at hb; exact inB_nI (by omega) hb
theorem qkOf (h : IN g V) {a : Int32} (hb : ¬ inB a 0 (V 10 20 - 1) = 0) : ∃ i, i < nqk V ∧ a = nI i := by
  have := h.v.qk; rw [this.1] at hb; exact inB_nI (by omega) hb
theorem clOf {a : Int32} (hb : ¬ inB a 0 143 = 0) : ∃ i, i < 144 ∧ a = nI i := by
  rw [show (143 : Int32) = nI 143 from rfl] at hb
  obtain ⟨i, h1, h2⟩ := inB_nIr (by omega) hb
  exact ⟨i, by omega, h2⟩
theorem getS (h : IN g V) {i : Nat} (hi : i < nst V) : f_Jx4a65c_get_915e3 z (some (0, 0)) (nI i) g = some (some (6, i), g) := getJ h.c0 h.r.2.1.1 hi (by have := h.v.hv.ns.2; omega) (by decide)
theorem getT (h : IN g V) {i : Nat} (hi : i < ntw V) : f_Jx4a65c_get_915e3 z (some (0, 1)) (nI i) g = some (some (7, i), g) := getJ h.c1 h.r.2.2.1.1 hi (by have := h.v.tw.2; omega) (by decide)
theorem getP (h : IN g V) {i : Nat} (hi : i < npk V) : f_Jx4a65c_get_915e3 z (some (0, 2)) (nI i) g = some (some (3, i), g) := getJ h.c2 h.r.2.2.2.1.1 hi (by have := h.v.hv.np.2; omega) (by decide)
theorem getQ (h : IN g V) {i : Nat} (hi : i < nqk V) : f_Jx4a65c_get_915e3 z (some (0, 3)) (nI i) g = some (some (4, i), g) := getJ h.c3 h.r.2.2.2.2.1.1 hi (by have := h.v.qk.2; omega) (by decide)
theorem getM (h : IN g V) {i : Nat} (hi : i < kp V) : f_Jx4a65c_get_915e3 z (some (0, 4)) (nI i) g = some (some (2, i), g) := getJ h.c4 h.r.2.2.2.2.2.1 hi (by have := kp_b V; omega) (by decide)
theorem gR61 (h : IN g V) {i : Nat} (hi : i < nst V) : gR g (6, i) 1 = some (5, i) := (h.r.2.1.2.1 i hi).1
theorem gR50 (h : IN g V) {i : Nat} (hi : i < nst V) : gR g (5, i) 0 = some (25, i) := (h.r.2.1.2.1 i hi).2.1
theorem gN25 (h : IN g V) {i : Nat} (hi : i < nst V) : gN g (25, i) = 30 := (h.r.2.1.2.1 i hi).2.2
theorem nI_ne9 {n : Nat} (h : n < 1000000) : nI n ≠ -9 := by
  intro e
  rw [nI_iI, show (-9 : Int32) = iI (-9) from by decide, iI_eq (by omega) (by omega) (by omega) (by omega)] at e
  omega
end SIM
