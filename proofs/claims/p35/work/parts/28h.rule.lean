section RUL
variable {z : Nat}
theorem root_L {w : Nat} (hw : w < 512 * 512) (g : Hp) : ∀ (k n t : Nat), k ≤ 8 → k + 1 < n → t + 2 * 2 ^ k ≤ 512 → t * t ≤ w → w < (t + 2 * 2 ^ k) * (t + 2 * 2 ^ k) → f_X7_root_6_L z (nI w) n (nI (2 ^ k)) (nI t) g = some (0, nI (isq w), g)
  | k, 0, t, _, h, _, _, _ => by omega
  | k, 1, t, _, h, _, _, _ => by omega
  | 0, n + 2, t, _, _, h3, h4, h5 => by
    show f_X7_root_6_b z (nI w) (f_X7_root_6_L z (nI w) (n + 1)) (nI (2 ^ 0)) (nI t) g = _
    unfold f_X7_root_6_b
    rw [Nat.pow_zero] at *
    have hm : (t + 1) * (t + 1) ≤ 512 * 512 := Nat.mul_le_mul (by omega) (by omega)
    rw [if_neg (show ¬ nI 1 ≤ 0 by decide), nI_add, pk_mul, show (2 : Int32) = nI 2 from rfl, dvI_n (by decide) (by decide) (by decide)]
    have hend : ∀ r, f_X7_root_6_L z (nI w) (n + 1) (nI 0) r g = some (0, r, g) := fun r => by
      show f_X7_root_6_b z (nI w) (f_X7_root_6_L z (nI w) n) (nI 0) r g = _
      unfold f_X7_root_6_b
      rw [if_pos (by decide)]; rfl
    by_cases h6 : w < (t + 1) * (t + 1)
    · rw [if_pos ((nI_ltI (by omega) (by omega)).mpr h6)]
      simp only [Option.bind_some]
      rw [show 1 / 2 = 0 from rfl, hend, isq_uniq h4 h6]
    · rw [if_neg (fun q => h6 ((nI_ltI (by omega) (by omega)).mp q))]
      simp only [Option.bind_some]
      rw [show 1 / 2 = 0 from rfl, hend, isq_uniq (n := w) (t := t + 1) (by omega) (by simpa using h5)]
  | k + 1, n + 2, t, h1, h2, h3, h4, h5 => by
    show f_X7_root_6_b z (nI w) (f_X7_root_6_L z (nI w) (n + 1)) (nI (2 ^ (k + 1))) (nI t) g = _
    unfold f_X7_root_6_b
    have hp : 2 ^ (k + 1) = 2 * 2 ^ k := by rw [Nat.pow_succ, Nat.mul_comm]
    have hpos : 0 < 2 ^ k := Nat.pow_pos (by decide)
    have ih := fun t2 => root_L hw g k (n + 1) t2 (by omega) (by omega)
    rw [hp] at h3 h5 ⊢
    generalize 2 ^ k = d at *
    have hm : (t + 2 * d) * (t + 2 * d) ≤ 512 * 512 := Nat.mul_le_mul (by omega) (by omega)
    have e4 : t + 2 * (2 * d) = t + 2 * d + 2 * d := by omega
    rw [e4] at h5
    rw [if_neg (fun q => by have := (nI_leI (by omega) (by omega)).mp (show nI (2 * d) ≤ nI 0 from q); omega), nI_add, pk_mul, show (2 : Int32) = nI 2 from rfl, dvI_n (by omega) (by decide) (by decide), show 2 * d / 2 = d by omega]
    by_cases h6 : w < (t + 2 * d) * (t + 2 * d)
    · rw [if_pos ((nI_ltI (by omega) (by omega)).mpr h6)]
      simp only [Option.bind_some]
      exact ih t (by omega) h4 h6
    · rw [if_neg (fun q => h6 ((nI_ltI (by omega) (by omega)).mp q))]
      simp only [Option.bind_some]
      exact ih (t + 2 * d) (by omega) (by omega) h5
theorem root8 {w : Nat} (hz : 2000 ≤ z) (hw : w < 512 * 512) (g : Hp) : f_X7_root z (nI w) g = some (nI (isq w), g) := by
  have := root_L (z := z) hw g 8 z 0 (by decide) (by omega) (by decide) (by omega) (by omega)
  unfold f_X7_root
  rw [show (256 : Int32) = nI (2 ^ 8) from rfl, show (0 : Int32) = nI 0 from rfl, this]
  rfl
theorem reckon_L (hz : 2000 ≤ z) {q : Nat} (hq : q ≤ 400) : ∀ (n v : Nat) (g1 : Hp), gR g1 (8, 0) 0 = some (20, 0) → gN g1 (20, 0) = 144 → v ≤ 144 → 144 - v < n → (∀ k, k < v → gI g1 (20, 0) k = nI (isq (q * ((k / 12) * (k / 12) + (k % 12) * (k % 12))))) → ∃ g2, f_X7_reckon_2_L z (some (8, 0)) (nI q) n (nI v) g1 = some (144, g2) ∧ Ch [20] g1 g2 ∧ ∀ k, k < 144 → gI g2 (20, 0) k = nI (isq (q * ((k / 12) * (k / 12) + (k % 12) * (k % 12))))
  | 0, v, _, _, _, _, h2, _ => absurd h2 (Nat.not_lt_zero _)
  | n + 1, v, g1, hr, hl, h1, h2, h3 => by
    show ∃ g2, f_X7_reckon_2_b z (some (8, 0)) (nI q) (f_X7_reckon_2_L z (some (8, 0)) (nI q) n) (nI v) g1 = _ ∧ _
    unfold f_X7_reckon_2_b
    rw [show (144 : Int32) = nI 144 from rfl]
    by_cases he : 144 ≤ v
    · have e : v = 144 := by omega
      rw [if_pos ((nI_leI (by omega) (by omega)).mpr he)]
      subst e
      exact ⟨g1, rfl, Ch.rf _ _, h3⟩
    · rw [if_neg (fun w => he ((nI_leI (by omega) (by omega)).mp w)), show (12 : Int32) = nI 12 from rfl, dvI_n (by omega) (by decide) (by decide), rmI_n (by omega) (by decide) (by decide)]
      simp only [Option.bind_some, gR_X, hr, pk_mul, nI_add]
      have hb : q * ((v / 12) * (v / 12) + (v % 12) * (v % 12)) ≤ 400 * 242 := Nat.mul_le_mul hq (by
        have h1 : v / 12 * (v / 12) ≤ 11 * 11 := Nat.mul_le_mul (by omega) (by omega)
        have h2 : v % 12 * (v % 12) ≤ 11 * 11 := Nat.mul_le_mul (by omega) (by omega)
        omega)
      rw [root8 hz (by omega)]
      simp only [Option.bind_some]
      rw [ast_X hl (by decide) (by decide) (by omega) (by decide)]
      simp only [Option.bind_some, nI_1]
      obtain ⟨g2, k1, k2, k3⟩ := reckon_L hz hq n (v + 1) (setI g1 (20, 0) v (nI (isq (q * ((v / 12) * (v / 12) + (v % 12) * (v % 12)))))) hr hl (by omega) (by omega) (fun k hk => by
        rw [gI_set]
        by_cases e : k = v
        · rw [if_pos ⟨rfl, e⟩, e]
        · rw [if_neg (fun w => e w.2)]; exact h3 k (by omega))
      exact ⟨g2, k1, (Ch.set (show 20 ∈ [20] by decide)).tr k2, k3⟩
theorem rule8 (hz : 2000 ≤ z) {g : Hp} {V : VV} (h : IN g V) (h3 : npk V = 0) {q e : Nat} (hq1 : 1 ≤ q) (hq2 : q ≤ 400) (he : e ≤ 50) : ∃ g2, f_X8_rule z (some (9, 0)) (nI q) (nI e) g = some (1, g2) ∧ IN g2 (vs (vs V 10 3 (nI q)) 10 4 (nI e)) ∧ Ch [9, 20] g g2 := by
  have hp60 := h.v.hv.np
  have h1 : ¬ inB (nI q) 1 400 = 0 := by
    unfold inB
    rw [show (1 : Int32) = nI 1 from rfl, show (400 : Int32) = nI 400 from rfl, if_neg (fun w => by have := (nI_ltI (by omega) (by omega)).mp w; omega), if_neg (fun w => by have := (nI_ltI (by omega) (by omega)).mp w; omega)]; decide
  have h2 : ¬ inB (nI e) 0 50 = 0 := by
    unfold inB
    rw [show (0 : Int32) = nI 0 from rfl, show (50 : Int32) = nI 50 from rfl, if_neg (fun w => by have := (nI_ltI (by omega) (by omega)).mp w; omega), if_neg (fun w => by have := (nI_ltI (by omega) (by omega)).mp w; omega)]; decide
  obtain ⟨g2, k1, k2, k3⟩ := reckon_L hz hq2 z 0 g h.b1.1.2.1 h.b1.2.1 (by omega) (by omega) (fun k hk => absurd hk (Nat.not_lt_zero _))
  have hev : Ev [] [3, 4] V (vs (vs V 10 3 (nI q)) 10 4 (nI e)) := ((Ev.rf _ _ V).t (by decide)).t (by decide)
  have hch : Ch [9, 20] g (setI g2 (9, 0) 11 (nI e)) := (k2.sub (by decide)).tr (Ch.set (show 9 ∈ [9, 20] by decide))
  have hq0 : nqk V = 0 := by
    rcases Nat.eq_zero_or_pos (nqk V) with w | w
    · exact w
    · have := (h.v.fp w).1; omega
  have eE : vs (vs V 10 3 (nI q)) 10 4 (nI e) 10 4 = nI e := vs_eq
  have eS : vs (vs V 10 3 (nI q)) 10 4 (nI e) 10 3 = nI q := by rw [vs_nk (by decide), vs_eq]
  have sS : slo (vs (vs V 10 3 (nI q)) 10 4 (nI e)) = q := by
    show (vs (vs V 10 3 (nI q)) 10 4 (nI e) 10 3).toNatClampNeg = q
    rw [eS]; exact nI_cl (by omega)
  have sE : err (vs (vs V 10 3 (nI q)) 10 4 (nI e)) = e := by
    show (vs (vs V 10 3 (nI q)) 10 4 (nI e) 10 4).toNatClampNeg = e
    rw [eE]; exact nI_cl (by omega)
  refine ⟨setI g2 (9, 0) 11 (nI e), ?_, h.upd hch hev (by decide) (by decide) ?_ ?_ ?_ (h.vf.cg hev (by decide) (by decide)), hch⟩
  · simp only [f_X8_rule, in8, Option.bind_some, if_neg h1, if_neg h2, gr_C h.b1, cRef, ick_X, emptyJ h.c2 (show npk V < 2147483648 by omega), h3, if_true, f_X7_reckon]
    rw [if_neg (by decide), show (0 : Int32) = nI 0 from rfl, k1]
    simp only [Option.bind_some, pu_C]
  · obtain ⟨hv, w⟩ := h.v
    obtain ⟨v1, v2, v3, v4, v5, v6, v7⟩ := hv
    refine ⟨⟨v1, v2, ?_, ?_, v5, v6, v7⟩, w⟩
    · rw [sS]; exact ⟨eS, hq2⟩
    · rw [sE]; exact ⟨eE, he⟩
  · intro n k v hz2 hn hk
    obtain ⟨c, j⟩ := n
    simp only [List.mem_cons, List.not_mem_nil, or_false] at hn
    rcases hn with rfl | rfl
    · have hj : j = 0 := hz2 (by simp)
      subst hj
      rw [gI_set]
      by_cases e5 : k = 11
      · subst e5
        simp [cI, vs] at hk
        rw [if_pos ⟨rfl, rfl⟩]; exact hk
      · rw [if_neg (by simp [e5]), k2.i (by simp)]
        refine h.i (v := v) ?_
        rw [← hk]
        simp [cI, vs, e5]
    · have hj : j = 0 := hz2 (by simp)
      subst hj
      rw [gI_set, if_neg (by simp)]
      simp only [cI, sS] at hk
      simp at hk
      rw [← hk.2]
      exact k3 k hk.1
  · rcases h.h with w | ⟨q2, hq2, -⟩
    · exact Or.inl (by rw [hch.i (by decide)]; exact w)
    · omega

end RUL
