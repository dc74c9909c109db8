def OPL (A8 A9 : Hp → Option (Int64 × Hp)) : Prop := ∀ g V, IN g V → wM g V = g → nms V ≤ 1000000 → ∃ r g1 V2, A8 g = some (r, g1) ∧ A9 g1 = some (r, wM g1 V2) ∧ IN (wM g1 V2) V2 ∧ nms V2 ≤ nms V + 120
theorem dG_f (F : Nat → Int32) (i k : Nat) (a : Int64) : dG F (4 * k + 4) (4 * i) a = dG F (4 * k) (4 * (i + 1)) (dG (fun w => F (4 * i + w)) 4 0 a) := rfl
theorem dH_f (F : Nat → Int32) : ∀ (k i : Nat) (a : Int64), dH (fun i a => dG (fun w => F (4 * i + w)) 4 0 a) k i a = dG F (4 * k) (4 * i) a
  | 0, _, _ => rfl
  | k + 1, i, a => by
    show dH (fun i a => dG (fun w => F (4 * i + w)) 4 0 a) k (i + 1) (dG (fun w => F (4 * i + w)) 4 0 a) = dG F (4 * k + 4) (4 * i) a
    rw [dG_f, dH_f F k (i + 1)]
theorem tqF_e {V V2 : VV} (h : EqR V V2) (q : Nat) (b : Int32) : tqF V2 q b = tqF V q b := by
  have eh : EqH V V2 := (Ev.q h).h (by decide) (by decide)
  unfold tqF
  rw [eh.np, cntF_e (h 50 (by decide) (by decide)), eh.ncl_, eh.lwF_, eh.hgF_]
section DIB
variable {z : Nat}
theorem al54 {g : Hp} {W : VV} (h : SM g) {i : Nat} (hi : i < 1600) : aldI (some (54, 0)) (nI i) (wM g W) = some (W 54 i) := by
  rw [al_M h (by decide) (by decide) (vp_n (N := 1600) hi (by decide)), nI_cl (show i < 2147483648 by omega)]
theorem row9D_L {g : Hp} {V : VV} (h : SM g) {i : Nat} (hi : i < 10) {m : Nat} (hm : m ≤ 30) (e1 : V 43 i = nI m) : ∀ (k n v : Nat) (a : Int64), v + k = m → k < n → f_X9_digest_50_L z (nI i) (some (10, 0)) n (nI v) a (wM g V) = some (nI m, dG (fun v => V 44 (30 * i + v)) k v a, wM g V)
  | k, 0, _, _, _, h => absurd h (Nat.not_lt_zero _)
  | 0, n + 1, v, a, e, _ => by
    show f_X9_digest_50_b z (nI i) (some (10, 0)) (f_X9_digest_50_L z (nI i) (some (10, 0)) n) (nI v) a (wM g V) = some (nI m, a, wM g V)
    unfold f_X9_digest_50_b
    simp only [gr_M h, mRef, Option.bind_some, al43 h hi, e1]
    rw [if_pos ((nI_leI (by omega) (by omega)).mpr (by omega)), show v = m by omega]
  | k + 1, n + 1, v, a, e, hn => by
    show f_X9_digest_50_b z (nI i) (some (10, 0)) (f_X9_digest_50_L z (nI i) (some (10, 0)) n) (nI v) a (wM g V) = some (nI m, dG (fun v => V 44 (30 * i + v)) k (v + 1) (31 * a + (V 44 (30 * i + v)).toInt64), wM g V)
    unfold f_X9_digest_50_b
    rw [show (30 : Int32) = nI 30 from rfl, pk_mul, nI_add]
    simp only [gr_M h, mRef, Option.bind_some, al43 h hi, e1]
    rw [if_neg (fun w => by have := (nI_leI (by omega) (by omega)).mp w; omega)]
    simp only [al44 h (show 30 * i + v < 300 by omega), Option.bind_some, nI_1]
    exact row9D_L h hi hm e1 k n (v + 1) _ (by omega) (by omega)
theorem row9D (hz : 2000 ≤ z) {g : Hp} {V : VV} (h : SM g) (hV : VI V) {i : Nat} (hi : i < nst V) (a : Int64) : ∃ w, f_X9_digest_50_L z (nI i) (some (10, 0)) z 0 (31 * a + (szD V i).toInt64) (wM g V) = some (w, rwD V i a, wM g V) := by
  have hi10 : i < 10 := by have := hV.hv.ns.2; omega
  unfold rwD lnD szD
  rcases hV.sz hi with e | ⟨m, hm, e⟩
  · rw [if_pos e, if_pos e]
    refine ⟨0, ?_⟩
    obtain ⟨w, hw⟩ : ∃ w, z = w + 1 := ⟨z - 1, by omega⟩
    have : ∀ n, f_X9_digest_50_L z (nI i) (some (10, 0)) (n + 1) 0 (31 * a + (-1 : Int32).toInt64) (wM g V) = some (0, 31 * a + (-1 : Int32).toInt64, wM g V) := fun n => by
      show f_X9_digest_50_b z (nI i) (some (10, 0)) (f_X9_digest_50_L z (nI i) (some (10, 0)) n) 0 _ (wM g V) = _
      unfold f_X9_digest_50_b
      simp only [gr_M h, mRef, Option.bind_some, al43 h hi10, e]
      rw [if_pos (by decide)]
    have t := this w
    rw [← hw] at t
    exact t
  · have en : V 43 i ≠ -9 := by rw [e]; exact nI_ne9 (by omega)
    have hL := row9D_L (z := z) (g := g) h hi10 hm e m z 0 (31 * a + (nI m).toInt64) (by omega) (by omega)
    rw [if_neg en, if_neg en, e, nI_cl (by omega)]
    exact ⟨nI m, hL⟩
theorem st9D_L (hz : 2000 ≤ z) {g : Hp} {V : VV} (h : SM g) (hV : VI V) : ∀ (k n i : Nat) (a : Int64), i + k = nst V → k < n → f_X9_digest_12_L z (some (10, 0)) n (nI i) a (wM g V) = some (nI (nst V), dH (rwD V) k i a, wM g V)
  | k, 0, _, _, _, h => absurd h (Nat.not_lt_zero _)
  | 0, n + 1, i, a, e, _ => by
    have hs := hV.hv.ns
    show f_X9_digest_12_b z (some (10, 0)) (f_X9_digest_12_L z (some (10, 0)) n) (nI i) a (wM g V) = some (nI (nst V), a, wM g V)
    unfold f_X9_digest_12_b
    simp only [gi_M, Option.bind_some, hs.1]
    rw [if_pos ((nI_leI (by omega) (by omega)).mpr (by omega)), show i = nst V by omega]
  | k + 1, n + 1, i, a, e, hn => by
    have hs := hV.hv.ns
    obtain ⟨w, hL⟩ := row9D hz h hV (show i < nst V by omega) a
    have hi10 : i < 10 := by omega
    show f_X9_digest_12_b z (some (10, 0)) (f_X9_digest_12_L z (some (10, 0)) n) (nI i) a (wM g V) = some (nI (nst V), dH (rwD V) k (i + 1) (rwD V i a), wM g V)
    unfold f_X9_digest_12_b
    simp only [gi_M, Option.bind_some, hs.1]
    rw [if_neg (fun w => by have := (nI_leI (by omega) (by omega)).mp w; omega)]
    simp only [gr_M h, mRef, Option.bind_some, al43 h hi10]
    have e7 : (if (0 : Int32) ≤ V 43 i then some (V 43 i) else some (-1)) = some (szD V i) := by
      unfold szD
      rcases hV.sz (show i < nst V by omega) with e | ⟨m, hm, e⟩
      · rw [e, if_neg n9lt, if_pos rfl]
      · rw [e, if_pos (nIge (by omega)), if_neg (nI_ne9 (by omega))]
    rw [e7]
    simp only [Option.bind_some, hL, nI_1]
    exact st9D_L hz h hV k n (i + 1) _ (by omega) (by omega)
theorem tl9D_L {g : Hp} {V : VV} (h : SM g) (hV : VI V) {p : Nat} (hp : p < npk V) : ∀ (k n v : Nat) (a : Int64), v + k = 5 → k < n → f_X9_digest_106_L z (nI p) (some (10, 0)) n (nI v) a (wM g V) = some (5, dG (fun v => tellF V p (nI v)) k v a, wM g V)
  | k, 0, _, _, _, h => absurd h (Nat.not_lt_zero _)
  | 0, n + 1, v, a, e, _ => by
    show f_X9_digest_106_b z (nI p) (some (10, 0)) (f_X9_digest_106_L z (nI p) (some (10, 0)) n) (nI v) a (wM g V) = some (5, a, wM g V)
    unfold f_X9_digest_106_b
    rw [show v = 5 by omega, if_pos (by decide)]
    rfl
  | k + 1, n + 1, v, a, e, hn => by
    show f_X9_digest_106_b z (nI p) (some (10, 0)) (f_X9_digest_106_L z (nI p) (some (10, 0)) n) (nI v) a (wM g V) = some (5, dG (fun v => tellF V p (nI v)) k (v + 1) (31 * a + (tellF V p (nI v)).toInt64), wM g V)
    unfold f_X9_digest_106_b
    rw [show (4 : Int32) = nI 4 from rfl, if_neg (fun w => by have := (nI_ltI (by omega) (by omega)).mp w; omega)]
    simp only [ick_M, tells9 h hV hp, Option.bind_some, nI_1]
    exact tl9D_L h hV hp k n (v + 1) _ (by omega) (by omega)
theorem pk9D_L (hz : 2000 ≤ z) {g : Hp} {V : VV} (h : SM g) (hV : VI V) : ∀ (k n p : Nat) (a : Int64), p + k = npk V → k < n → f_X9_digest_95_L z (some (10, 0)) n (nI p) a (wM g V) = some (nI (npk V), dH (fun p a => dG (fun v => tellF V p (nI v)) 5 0 a) k p a, wM g V)
  | k, 0, _, _, _, h => absurd h (Nat.not_lt_zero _)
  | 0, n + 1, p, a, e, _ => by
    have hs := hV.hv.np
    show f_X9_digest_95_b z (some (10, 0)) (f_X9_digest_95_L z (some (10, 0)) n) (nI p) a (wM g V) = some (nI (npk V), a, wM g V)
    unfold f_X9_digest_95_b
    simp only [gi_M, Option.bind_some, hs.1]
    rw [if_pos ((nI_leI (by omega) (by omega)).mpr (by omega)), show p = npk V by omega]
  | k + 1, n + 1, p, a, e, hn => by
    have hs := hV.hv.np
    have hL := tl9D_L (z := z) (g := g) h hV (show p < npk V by omega) 5 z 0 a rfl (by omega)
    show f_X9_digest_95_b z (some (10, 0)) (f_X9_digest_95_L z (some (10, 0)) n) (nI p) a (wM g V) = some (nI (npk V), dH (fun p a => dG (fun v => tellF V p (nI v)) 5 0 a) k (p + 1) (dG (fun v => tellF V p (nI v)) 5 0 a), wM g V)
    unfold f_X9_digest_95_b
    simp only [gi_M, Option.bind_some, hs.1]
    rw [if_neg (fun w => by have := (nI_leI (by omega) (by omega)).mp w; omega), show (0 : Int32) = nI 0 from rfl, hL, nI_1]
    simp only [Option.bind_some]
    exact pk9D_L hz h hV k n (p + 1) _ (by omega) (by omega)
theorem tq9D_L (hz : 2000 ≤ z) {g : Hp} {V : VV} (h : SM g) (hV : VI V) {q : Nat} (hq : q < nqk V) : ∀ (k n v : Nat) (a : Int64) (V2 : VV), EqR V V2 → v + k = 5 → k < n → ∃ V3, f_X9_digest_152_L z (nI q) (some (10, 0)) n (nI v) a (wM g V2) = some (5, dG (fun v => tqF V q (nI v)) k v a, wM g V3) ∧ EqR V V3
  | k, 0, _, _, _, _, _, h => absurd h (Nat.not_lt_zero _)
  | 0, n + 1, v, a, V2, hE, e, _ => by
    refine ⟨V2, ?_, hE⟩
    show f_X9_digest_152_b z (nI q) (some (10, 0)) (f_X9_digest_152_L z (nI q) (some (10, 0)) n) (nI v) a (wM g V2) = some (5, a, wM g V2)
    unfold f_X9_digest_152_b
    rw [show v = 5 by omega, if_pos (by decide)]
    rfl
  | k + 1, n + 1, v, a, V2, hE, e, hn => by
    have eh : EqH V V2 := (Ev.q hE).h (by decide) (by decide)
    obtain ⟨V3, a1, a2⟩ := tellsQ9 hz h (hV.eqr hE) (show q < nqk V2 by rw [eh.nq]; exact hq) (nI v)
    rw [tqF_e hE] at a1
    obtain ⟨V4, b1, b2⟩ := tq9D_L hz h hV hq k n (v + 1) (31 * a + (tqF V q (nI v)).toInt64) V3 (hE.tr a2) (by omega) (by omega)
    refine ⟨V4, ?_, b2⟩
    show f_X9_digest_152_b z (nI q) (some (10, 0)) (f_X9_digest_152_L z (nI q) (some (10, 0)) n) (nI v) a (wM g V2) = some (5, dG (fun v => tqF V q (nI v)) k (v + 1) (31 * a + (tqF V q (nI v)).toInt64), wM g V4)
    unfold f_X9_digest_152_b
    rw [show (4 : Int32) = nI 4 from rfl, if_neg (fun w => by have := (nI_ltI (by omega) (by omega)).mp w; omega)]
    simp only [ick_M, a1, Option.bind_some, nI_1]
    exact b1
theorem qk9D_L (hz : 2000 ≤ z) {g : Hp} {V : VV} (h : SM g) (hV : VI V) : ∀ (k n q : Nat) (a : Int64) (V2 : VV), EqR V V2 → q + k = nqk V → k < n → ∃ V3, f_X9_digest_141_L z (some (10, 0)) n (nI q) a (wM g V2) = some (nI (nqk V), dH (fun q a => dG (fun v => tqF V q (nI v)) 5 0 a) k q a, wM g V3) ∧ EqR V V3
  | k, 0, _, _, _, _, _, h => absurd h (Nat.not_lt_zero _)
  | 0, n + 1, q, a, V2, hE, e, _ => by
    have hs := hV.qk
    refine ⟨V2, ?_, hE⟩
    show f_X9_digest_141_b z (some (10, 0)) (f_X9_digest_141_L z (some (10, 0)) n) (nI q) a (wM g V2) = some (nI (nqk V), a, wM g V2)
    unfold f_X9_digest_141_b
    simp only [gi_M, Option.bind_some, hE 10 (by decide) (by decide), hs.1]
    rw [if_pos ((nI_leI (by omega) (by omega)).mpr (by omega)), show q = nqk V by omega]
  | k + 1, n + 1, q, a, V2, hE, e, hn => by
    have hs := hV.qk
    obtain ⟨V3, a1, a2⟩ := tq9D_L (z := z) hz h hV (show q < nqk V by omega) 5 z 0 a V2 hE rfl (by omega)
    obtain ⟨V4, b1, b2⟩ := qk9D_L hz h hV k n (q + 1) (dG (fun v => tqF V q (nI v)) 5 0 a) V3 a2 (by omega) (by omega)
    refine ⟨V4, ?_, b2⟩
    show f_X9_digest_141_b z (some (10, 0)) (f_X9_digest_141_L z (some (10, 0)) n) (nI q) a (wM g V2) = some (nI (nqk V), dH (fun q a => dG (fun v => tqF V q (nI v)) 5 0 a) k (q + 1) (dG (fun v => tqF V q (nI v)) 5 0 a), wM g V4)
    unfold f_X9_digest_141_b
    simp only [gi_M, Option.bind_some, hE 10 (by decide) (by decide), hs.1]
    rw [if_neg (fun w => by have := (nI_leI (by omega) (by omega)).mp w; omega), show (0 : Int32) = nI 0 from rfl, a1, nI_1]
    simp only [Option.bind_some]
    exact b1
theorem ms9D_L {g : Hp} {V : VV} (h : SM g) (hV : VI V) (hms : nms V ≤ 1000000) {V2 : VV} (hE : EqR V V2) : ∀ (k n v : Nat) (a : Int64), v + k = 4 * kp V → k < n → f_X9_digest_187_L z (some (10, 0)) n (nI v) a (wM g V2) = some (nI (4 * kp V), dG (V 54) k v a, wM g V2)
  | k, 0, _, _, _, h => absurd h (Nat.not_lt_zero _)
  | 0, n + 1, v, a, e, _ => by
    have hs := kp_b V
    show f_X9_digest_187_b z (some (10, 0)) (f_X9_digest_187_L z (some (10, 0)) n) (nI v) a (wM g V2) = some (nI (4 * kp V), a, wM g V2)
    unfold f_X9_digest_187_b
    simp only [gi_M, Option.bind_some, hE 10 (by decide) (by decide), hV.ms]
    rw [show (4 : Int32) = nI 4 from rfl, pk_mul, show v = 4 * kp V by omega]
    by_cases w : nms V ≤ 400
    · have ek : kp V = nms V := by unfold kp; rw [if_pos w]
      rw [if_pos ((nI_leI (by omega) (by omega)).mpr (by omega))]
    · have ek : kp V = 400 := by unfold kp; rw [if_neg w]
      rw [if_neg (fun w => by have := (nI_leI (by omega) (by omega)).mp w; omega), ek, if_pos (by decide)]
  | k + 1, n + 1, v, a, e, hn => by
    have hs := kp_b V
    show f_X9_digest_187_b z (some (10, 0)) (f_X9_digest_187_L z (some (10, 0)) n) (nI v) a (wM g V2) = some (nI (4 * kp V), dG (V 54) k (v + 1) (31 * a + (V 54 v).toInt64), wM g V2)
    unfold f_X9_digest_187_b
    simp only [gi_M, Option.bind_some, hE 10 (by decide) (by decide), hV.ms]
    rw [show (4 : Int32) = nI 4 from rfl, pk_mul, show (1600 : Int32) = nI 1600 from rfl, if_neg (fun w => by have := (nI_leI (by omega) (by omega)).mp w; omega), if_neg (fun w => by have := (nI_leI (by omega) (by omega)).mp w; omega)]
    simp only [gr_M h, mRef, Option.bind_some, al54 h (show v < 1600 by omega), hE 54 (by decide) (by decide), nI_1]
    exact ms9D_L h hV hms hE k n (v + 1) _ (by omega) (by omega)
theorem op_digest (hz : 2000 ≤ z) : OPL (fun g => f_X8_digest z (some (9, 0)) g) (fun g => f_X9_digest z (some (10, 0)) g) := by
  intro g V h hM0 hms
  obtain ⟨g2, a1, a2, a3⟩ := digest8 hz h
  have b1 := h.v.hv.ns.2
  have b2 := h.v.hv.np.2
  have b3 := h.v.qk.2
  have b4 := kp_b V
  have l1 := st9D_L hz a3.s h.v (nst V) z 0 (31 * 17 + (V 10 5).toInt64) (by omega) (by omega)
  have l2 := pk9D_L hz a3.s h.v (npk V) z 0 (dH (rwD V) (nst V) 0 (31 * 17 + (V 10 5).toInt64)) (by omega) (by omega)
  obtain ⟨V2, l3, l4⟩ := qk9D_L hz a3.s h.v (nqk V) z 0 (dH (fun p a => dG (fun v => tellF V p (nI v)) 5 0 a) (npk V) 0 (dH (rwD V) (nst V) 0 (31 * 17 + (V 10 5).toInt64))) V (EqR.rf V) (by omega) (by omega)
  have l6 := ms9D_L (z := z) a3.s h.v hms l4 (4 * kp V) z 0 (dH (fun q a => dG (fun v => tqF V q (nI v)) 5 0 a) (nqk V) 0 (dH (fun p a => dG (fun v => tellF V p (nI v)) 5 0 a) (npk V) 0 (dH (rwD V) (nst V) 0 (31 * 17 + (V 10 5).toInt64)))) (by omega) (by omega)
  have e9 : f_X9_digest z (some (10, 0)) (wM g2 V) = some (dgF V, wM g2 V2) := by
    unfold f_X9_digest
    rw [show (0 : Int32) = nI 0 from rfl, show (527 : Int64) = 31 * 17 from by decide]
    simp only [gi_M, Option.bind_some, l1, l2, l3, l6]
    unfold dgF
    rw [dH_f]
  rw [a2.mm (by decide) hM0] at e9
  exact ⟨dgF V, g2, V2, a1, e9, a3.rows l4, by rw [nms_e (by rw [l4 10 (by decide) (by decide)])]; omega⟩
end DIB
