/-! the model's leaves -/
theorem s_l : ∀ n, n < 32 → ((nI n &&& 31).toBitVec.smod 32).toNat = n := by decide +kernel
theorem shr_nI {w n : Nat} (hw : w < 2 ^ 31) (hn : n < 32) : nI w >>> (nI n &&& 31) = nI (w / 2 ^ n) := pk_shrN hw _ n (s_l n hn)
theorem bits9_L {w : Nat} (hw : w < 2 ^ 31) (z : Nat) (g : Hp) : ∀ (n i : Nat), i ≤ bl w → bl w - i < n → f_X9_bits_2_L z (nI w) n (nI i) g = some (nI (bl w), g)
  | 0, i, _, h => absurd h (Nat.not_lt_zero _)
  | n + 1, i, h1, h2 => by
    have hb : bl w ≤ 31 := bl_le.mp hw
    show f_X9_bits_2_b z (nI w) (f_X9_bits_2_L z (nI w) n) (nI i) g = _
    unfold f_X9_bits_2_b
    rw [shr_nI hw (by omega)]
    by_cases h : w < 2 ^ i
    · have e : i = bl w := by have := bl_le.mp h; omega
      rw [Nat.div_eq_of_lt h, if_pos nI_0, e]
    · have h3 : ¬ bl w ≤ i := fun q => h (bl_le.mpr q)
      have hd : 0 < w / 2 ^ i := Nat.div_pos (by omega) (Nat.pow_pos (by omega))
      have hl : w / 2 ^ i < 2 ^ 31 := Nat.lt_of_le_of_lt (Nat.div_le_self _ _) hw
      rw [if_neg (nI_ne0 hd hl), nI_1]
      exact bits9_L hw z g n (i + 1) (by omega) (by omega)
theorem bits9 {w z : Nat} (hw : w < 2 ^ 31) (hz : 2000 ≤ z) (g : Hp) : f_X9_bits z (nI w) g = some (nI (bl w), g) := by
  have hb : bl w ≤ 31 := bl_le.mp hw
  have := bits9_L hw z g z 0 (by omega) (by omega)
  unfold f_X9_bits
  rw [show (0 : Int32) = nI 0 from rfl, this]
  rfl
theorem trav9_L {far : Nat} (hf : far ≤ 96800) (z : Nat) (p4 p3 p1 p2 : Int32) (p0 : Option Nm) (g : Hp) : ∀ (n t : Nat), t ≤ isq far → isq far - t < n → f_X9_travels_40_L z (nI far) p4 p3 p0 p1 p2 n (nI t) g = some (nI (isq far), g)
  | 0, t, _, h => absurd h (Nat.not_lt_zero _)
  | n + 1, t, h1, h2 => by
    have hi := isq_lt (n := far) (k := 312) (by omega)
    show f_X9_travels_40_b z (nI far) p4 p3 p0 p1 p2 (f_X9_travels_40_L z (nI far) p4 p3 p0 p1 p2 n) (nI t) g = _
    unfold f_X9_travels_40_b
    have hm : (t + 1) * (t + 1) ≤ 312 * 312 := Nat.mul_le_mul (by omega) (by omega)
    rw [nI_1, pk_mul]
    by_cases h : far < (t + 1) * (t + 1)
    · rw [if_pos ((nI_ltI (by omega) (by omega)).mpr h)]
      have : t = isq far := by
        obtain ⟨g1, g2⟩ := isq_spec far
        have h4 := Nat.mul_le_mul h1 h1
        exact isq_uniq (by omega) h
      rw [this]
    · rw [if_neg (fun q => h ((nI_ltI (by omega) (by omega)).mp q))]
      refine trav9_L hf z p4 p3 p1 p2 p0 g n (t + 1) ?_ (by
        have : t + 1 ≤ isq far := by
          obtain ⟨g1, g2⟩ := isq_spec far
          rcases Nat.lt_or_ge (isq far) (t + 1) with q | q
          · have := Nat.mul_le_mul (show isq far + 1 ≤ t + 1 by omega) (show isq far + 1 ≤ t + 1 by omega)
            omega
          · exact q
        omega)
      obtain ⟨g1, g2⟩ := isq_spec far
      rcases Nat.lt_or_ge (isq far) (t + 1) with q | q
      · have := Nat.mul_le_mul (show isq far + 1 ≤ t + 1 by omega) (show isq far + 1 ≤ t + 1 by omega)
        omega
      · exact q
theorem rmI_n {a d : Nat} (ha : a < 2 ^ 31) (h0 : 0 < d) (hd : d < 2 ^ 31) : rmI (nI a) (nI d) = some (nI (a % d)) := by
  unfold rmI
  rw [if_neg (nI_ne0 h0 hd), pk_rem ha h0 hd]
theorem dvI_n {a d : Nat} (ha : a < 2 ^ 31) (h0 : 0 < d) (hd : d < 2 ^ 31) : dvI (nI a) (nI d) = some (nI (a / d)) := by
  unfold dvI
  rw [if_neg (nI_ne0 h0 hd), pk_div ha h0 hd]
section MLE
variable {g : Hp} {V : VV} {z : Nat}
theorem travels9 (hz : 2000 ≤ z) {q a b : Nat} (hq : V 10 3 = nI q) (hq2 : q ≤ 400) (ha : a < 144) (hb : b < 144) : f_X9_travels z (some (10, 0)) (nI a) (nI b) (wM g V) = some (nI (tv q a b), wM g V) := by
  have h1 := tv_arg hq2 ha hb
  have h2 := trav9_L h1 z (nI (a / 12) - nI (b / 12)) (nI (a % 12) - nI (b % 12)) (nI a) (nI b) (some (10, 0)) (wM g V) z 0 (Nat.zero_le _) (by have := isq_lt (n := q * (sq (a % 12) (b % 12) + sq (a / 12) (b / 12))) (k := 312) (by omega); omega)
  unfold f_X9_travels
  rw [show (12 : Int32) = nI 12 from rfl, show (0 : Int32) = nI 0 from rfl]
  simp only [rmI_n (show a < 2 ^ 31 by omega) (show 0 < 12 by decide) (show 12 < 2 ^ 31 by decide), rmI_n (show b < 2 ^ 31 by omega) (show 0 < 12 by decide) (show 12 < 2 ^ 31 by decide), dvI_n (show a < 2 ^ 31 by omega) (show 0 < 12 by decide) (show 12 < 2 ^ 31 by decide), dvI_n (show b < 2 ^ 31 by omega) (show 0 < 12 by decide) (show 12 < 2 ^ 31 by decide), gi_M, Option.bind_some, hq, nI_sq, nI_add, pk_mul, h2]
  rfl
theorem meets9 (h : SM g) {f : Nat} (hf : f < 6) : f_X9_meets z (some (10, 0)) (nI f) (wM g V) = some (-3, wM g (vs (vs V 10 0 (nI f)) 40 f (V 40 f + 1))) := by
  unfold f_X9_meets
  have hv : vp_in (nI f) (mLen 40) := vp_n (N := 6) hf (by decide)
  simp only [pu_M, gr_M h, Option.bind_some, mRef]
  rw [al_M h (by decide) (by decide) hv]
  simp only [Option.bind_some]
  rw [as_M h (by decide) (by decide) hv]
  simp only [Option.bind_some, nI_cl (show f < 2147483648 by omega), vs_ne (show 40 ≠ 10 by decide)]
theorem hears9_L (h : SM g) (hn : V 10 15 = nI (npk V)) (hn2 : npk V ≤ 60) (q s : Nat) : ∀ (n i : Nat) (acc : Bool), i ≤ npk V → npk V - i < n → acc = hrd V q s i → f_X9_hears_5_L z (some (10, 0)) (nI q) (nI s) n (nI i) (if acc = true then 1 else 0) (wM g V) = some (nI (npk V), (if hrd V q s (npk V) = true then 1 else 0), wM g V)
  | 0, i, _, _, h2, _ => absurd h2 (Nat.not_lt_zero _)
  | n + 1, i, acc, h1, h2, h3 => by
    show f_X9_hears_5_b z (some (10, 0)) (nI q) (nI s) (f_X9_hears_5_L z (some (10, 0)) (nI q) (nI s) n) (nI i) _ (wM g V) = _
    unfold f_X9_hears_5_b
    simp only [gi_M, Option.bind_some, hn]
    by_cases he : npk V ≤ i
    · have e : i = npk V := by omega
      rw [if_pos ((nI_leI (by omega) (by omega)).mpr he), h3, e]
    · rw [if_neg (fun w => he ((nI_leI (by omega) (by omega)).mp w))]
      have hv : vp_in (nI i) (mLen 50) := vp_n (N := 60) (by omega) (by decide)
      have hv2 : vp_in (nI i) (mLen 47) := vp_n (N := 60) (by omega) (by decide)
      have hstep : ∀ b : Bool, b = hrd V q s (i + 1) → f_X9_hears_5_L z (some (10, 0)) (nI q) (nI s) n (nI (i + 1)) (if b = true then 1 else 0) (wM g V) = some (nI (npk V), (if hrd V q s (npk V) = true then 1 else 0), wM g V) := fun b hb => hears9_L h hn hn2 q s n (i + 1) b (by omega) (by omega) hb
      have hT := hstep true
      have hF := hstep false
      simp only [if_true] at hT
      simp only [Bool.false_eq_true, if_false] at hF
      cases acc with
      | true =>
        rw [if_neg (by decide), nI_1]
        exact hT (by simp [hrd, ← h3])
      | false =>
        rw [if_pos (by decide), gr_M h]
        simp only [mRef, Option.bind_some]
        rw [al_M h (by decide) (by decide) hv]
        simp only [Option.bind_some, nI_cl (show i < 2147483648 by omega)]
        by_cases h5 : V 50 i = nI q
        · rw [if_pos h5, gr_M h]
          simp only [mRef, Option.bind_some]
          rw [al_M h (by decide) (by decide) hv2]
          simp only [Option.bind_some, nI_cl (show i < 2147483648 by omega)]
          by_cases h6 : V 47 i = nI s
          · rw [if_pos h6, nI_1]
            exact hT (by simp [hrd, h5, h6])
          · rw [if_neg h6, nI_1]
            exact hF (by simp [hrd, ← h3, h6])
        · rw [if_neg h5, nI_1]
          exact hF (by simp [hrd, ← h3, h5])
theorem hears9 (hz : 2000 ≤ z) (h : SM g) (hn : V 10 15 = nI (npk V)) (hn2 : npk V ≤ 60) (q s : Nat) : f_X9_hears z (some (10, 0)) (nI q) (nI s) (wM g V) = some ((if hrd V q s (npk V) = true then 1 else 0), wM g V) := by
  have h1 := hears9_L (z := z) h hn hn2 q s z 0 false (by omega) (by omega) rfl
  unfold f_X9_hears
  simp only [Bool.false_eq_true, if_false] at h1
  rw [show nI 0 = (0 : Int32) from rfl] at h1
  rw [h1]
  simp only [Option.bind_some]
  split
  · exact rtZ_1
  · exact rtZ_0
end MLE
