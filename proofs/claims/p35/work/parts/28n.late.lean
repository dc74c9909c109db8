section LAT
variable {z : Nat}
theorem ear_L {g : Hp} {V : VV} (ht : TT g V) (hV : VI V) {q t : Nat} (hq : q < nqk V) (htw : t < ntw V) (hF : HF g (lo V q) (hi V q)) (p1 p2 : Int32) : ∀ (n v : Nat), v ≤ 144 → 144 - v < n → f_X8_earliestArrival_29_L z (nI (cT V t)) (some (1, 0)) (some (9, 0)) p1 p2 n (nI v) (iI (min 1000000 (cmF V q t v))) g = some (144, iI (min 1000000 (cmF V q t 144)), g) ∧ f_X8_latestArrival_30_L z (nI (cT V t)) (some (1, 0)) (some (9, 0)) p1 p2 n (nI v) (iI (max (-1000000) (cxF V q t v))) g = some (144, iI (max (-1000000) (cxF V q t 144)), g)
  | 0, v, _, h2 => absurd h2 (Nat.not_lt_zero _)
  | n + 1, v, h1, h2 => by
    show f_X8_earliestArrival_29_b z (nI (cT V t)) (some (1, 0)) (some (9, 0)) p1 p2 (f_X8_earliestArrival_29_L z (nI (cT V t)) (some (1, 0)) (some (9, 0)) p1 p2 n) (nI v) _ g = _ ∧ f_X8_latestArrival_30_b z (nI (cT V t)) (some (1, 0)) (some (9, 0)) p1 p2 (f_X8_latestArrival_30_L z (nI (cT V t)) (some (1, 0)) (some (9, 0)) p1 p2 n) (nI v) _ g = _
    unfold f_X8_earliestArrival_29_b f_X8_latestArrival_30_b
    rw [show (144 : Int32) = nI 144 from rfl]
    by_cases he : 144 ≤ v
    · have e : v = 144 := by omega
      rw [if_pos ((nI_leI (by omega) (by omega)).mpr he), if_pos ((nI_leI (by omega) (by omega)).mpr he)]
      subst e
      exact ⟨rfl, rfl⟩
    · have hv : v < 144 := by omega
      obtain ⟨i1, i2⟩ := ear_L ht hV hq htw hF p1 p2 n (v + 1) (by omega) (by omega)
      have h6 := hV.to htw
      obtain ⟨b1, b2, b3, b4, -⟩ := cm_b hV hq htw v (by omega)
      have hb := bd_lo hV hq v hv
      have htv := TV_b hV.hv.sl.2 hv h6.2
      have htv2 : nI (tv (slo V) v (cT V t)) = iI (TV V v (cT V t)) := by rw [nI_iI]; rfl
      rw [if_neg (fun w => he ((nI_leI (by omega) (by omega)).mp w)), if_neg (fun w => he ((nI_leI (by omega) (by omega)).mp w)), ick_X, hs8 ht.1 hF (bd_lo hV hq) hv]
      simp only [Option.bind_some]
      by_cases hh : lo V q v ≤ hi V q v
      · have hx : cxF V q t (v + 1) = max (cxF V q t v) (hi V q v + TV V v (cT V t)) := by simp [cxF, hh]
        have hm : cmF V q t (v + 1) = min (cmF V q t v) (lo V q v + TV V v (cT V t)) := by simp [cmF, hh]
        rw [if_pos hh, if_neg (by decide), if_neg (by decide)]
        simp only [gR_X, show gR g (1, 0) 0 = some (21, 0) from ht.1.1.2.2.1, show gR g (1, 0) 1 = some (22, 0) from ht.1.1.2.2.2, Option.bind_some, ald_X ht.1.2.2.1 (by decide) (by decide) hv (by decide), ald_X ht.1.2.2.2.1 (by decide) (by decide) hv (by decide), (hF v hv).1, (hF v hv).2, gr_C ht.1, cRef, ick_X, between8 ht hv h6.2, htv2, iI_add, nI_1]
        rw [imin_i (by omega) (by omega) (by omega) (by omega), imax_i (by omega) (by omega) (by omega) (by omega)]
        rw [hm, show min 1000000 (min (cmF V q t v) (lo V q v + TV V v (cT V t))) = min (min 1000000 (cmF V q t v)) (lo V q v + TV V v (cT V t)) by omega] at i1
        rw [hx, show max (-1000000) (max (cxF V q t v) (hi V q v + TV V v (cT V t))) = max (max (-1000000) (cxF V q t v)) (hi V q v + TV V v (cT V t)) by omega] at i2
        exact ⟨i1, i2⟩
      · rw [if_neg hh, if_pos rfl, if_pos rfl, nI_1]
        rw [show cmF V q t (v + 1) = cmF V q t v by simp [cmF, hh]] at i1
        rw [show cxF V q t (v + 1) = cxF V q t v by simp [cxF, hh]] at i2
        exact ⟨i1, i2⟩
/-! bits of levels -/
theorem bt_g : ∀ (a b c d : Bool), ∀ l, 1 ≤ l → l < 5 → (((nI (bt (fun k => if k = 1 then a else if k = 2 then b else if k = 3 then c else d)) >>> (nI l &&& 31)) &&& 1 = 1) ↔ (if l = 1 then a else if l = 2 then b else if l = 3 then c else d) = true) := by
  intro a b c d l h1 h2
  rcases (by omega : l = 1 ∨ l = 2 ∨ l = 3 ∨ l = 4) with rfl | rfl | rfl | rfl <;> cases a <;> cases b <;> cases c <;> cases d <;> decide
theorem bt_x (f : Nat → Bool) : bt f = bt (fun k => if k = 1 then f 1 else if k = 2 then f 2 else if k = 3 then f 3 else f 4) := rfl
theorem bt_get (f : Nat → Bool) {l : Nat} (h1 : 1 ≤ l) (h2 : l < 5) : ((nI (bt f) >>> (nI l &&& 31)) &&& 1 = 1) ↔ f l = true := by
  rw [bt_x, bt_g _ _ _ _ l h1 h2]
  rcases (by omega : l = 1 ∨ l = 2 ∨ l = 3 ∨ l = 4) with rfl | rfl | rfl | rfl <;> simp
theorem bt_s : ∀ (a b c d : Bool), ∀ l, 1 ≤ l → l < 5 → nI (bt (fun k => if k = 1 then a else if k = 2 then b else if k = 3 then c else d)) ||| (1 <<< (nI l &&& 31)) = nI (bt (fun k => if k = l then true else if k = 1 then a else if k = 2 then b else if k = 3 then c else d)) := by
  intro a b c d l h1 h2
  rcases (by omega : l = 1 ∨ l = 2 ∨ l = 3 ∨ l = 4) with rfl | rfl | rfl | rfl <;> cases a <;> cases b <;> cases c <;> cases d <;> decide
theorem bt_set (f : Nat → Bool) {l : Nat} (h1 : 1 ≤ l) (h2 : l < 5) : nI (bt f) ||| (1 <<< (nI l &&& 31)) = nI (bt (fun k => if k = l then true else f k)) := by
  rw [bt_x, bt_s _ _ _ _ l h1 h2]
  rcases (by omega : l = 1 ∨ l = 2 ∨ l = 3 ∨ l = 4) with rfl | rfl | rfl | rfl <;> rfl
end LAT
