section HEA
variable {z : Nat}
theorem nlz_st {w k B : Nat} (hw : w < 2 ^ 31) (hk : k < 32) (hB : 2 ^ k = B) : ((nI w).toUInt32 >>> ((nI k).toUInt32 &&& Int32.toUInt32 31)).toInt32 = nI (w / B) := by
  rw [← hB]
  refine pk_ushrN (by omega) (nI k) k ?_
  revert k
  intro k hk _
  exact (show ∀ n, n < 32 → (((nI n).toUInt32 &&& Int32.toUInt32 31).toBitVec % 32).toNat = n by decide +kernel) k hk
theorem bl_div {w k B : Nat} (hB : 2 ^ k = B) (h : B ≤ w) : bl w = bl (w / B) + k := by
  have h0 : 0 < B := by rw [← hB]; exact Nat.pow_pos (by decide)
  apply Nat.le_antisymm
  · apply bl_le.mp
    have := bl_le.mpr (Nat.le_refl (bl (w / B)))
    rw [Nat.pow_add, hB]
    exact (Nat.div_lt_iff_lt_mul h0).mp this
  · have h1 : bl (w / B) ≤ bl w - k := by
      apply bl_le.mp
      apply (Nat.div_lt_iff_lt_mul h0).mpr
      rw [← hB, ← Nat.pow_add]
      have hk : k ≤ bl w := by
        rcases Nat.lt_or_ge (bl w) k with q | q
        · have := bl_le.mpr (Nat.le_of_lt q)
          omega
        · exact q
      rw [Nat.sub_add_cancel hk]
      exact bl_le.mpr (Nat.le_refl _)
    have hk : k ≤ bl w := by
      rcases Nat.lt_or_ge (bl w) k with q | q
      · have := bl_le.mpr (Nat.le_of_lt q)
        omega
      · exact q
    omega
theorem bl4 : bl 1 = 1 ∧ bl 2 = 2 ∧ bl 3 = 2 := by decide
theorem nlz_step {w n k B : Nat} {g : Hp} (hw : 0 < w) (hw2 : w < 2 ^ 31) (hk : k < 32) (hB : 2 ^ k = B) (hB2 : B < 2 ^ 31) (hn : n ≤ 31) (hn2 : k ≤ n ∨ w < B) : ∃ w2 n2, (if nI w < nI B then some (nI n, nI w) else some (nI n + -nI k, ((nI w).toUInt32 >>> ((nI k).toUInt32 &&& Int32.toUInt32 31)).toInt32)) = some (nI n2, nI w2) ∧ 0 < w2 ∧ w2 ≤ w ∧ n2 ≤ 31 ∧ n2 + bl w = n + bl w2 ∧ ((w < B ∧ w2 = w) ∨ w2 = w / B) := by
  by_cases h : w < B
  · rw [if_pos ((nI_ltI hw2 hB2).mpr h)]
    exact ⟨w, n, rfl, hw, Nat.le_refl _, hn, rfl, Or.inl ⟨h, rfl⟩⟩
  · rw [if_neg (fun q => h ((nI_ltI hw2 hB2).mp q)), nlz_st hw2 hk hB]
    have h0 : 0 < B := by rw [← hB]; exact Nat.pow_pos (by decide)
    have hb := bl_div hB (Nat.le_of_not_lt h)
    have hkn : k ≤ n := by omega
    refine ⟨w / B, n - k, ?_, Nat.div_pos (by omega) h0, Nat.div_le_self _ _, by omega, by omega, Or.inr rfl⟩
    congr 2
    rw [nI_iI n, nI_iI k, iI_neg, iI_add, nI_iI]
    congr 1
    omega
theorem bits8 {w : Nat} (hw : w < 2 ^ 31) (g : Hp) : f_X8_bits z (nI w) g = some (nI (bl w), g) := by
  have key : f_J6_numberOfLeadingZeros_0f7a4 z (nI w) g = some (nI (32 - bl w), g) := by
    unfold f_J6_numberOfLeadingZeros_0f7a4
    rcases Nat.eq_zero_or_pos w with h0 | h0
    · subst h0
      rw [if_neg (by decide), if_pos (by decide)]
      rfl
    · rw [if_pos (show (0 : Int32) < nI w from (nI_ltI (a := 0) (by decide) hw).mpr h0)]
      rw [show (31 + -16 : Int32) = nI 31 + -nI 16 from rfl, show (65536 : Int32) = nI 65536 from rfl, show (31 : Int32) = nI 31 from rfl, show (16 : Int32) = nI 16 from rfl]
      obtain ⟨w1, n1, e1, p1, q1, r1, s1, t1⟩ := nlz_step (n := 31) (k := 16) (B := 65536) (g := g) h0 hw (by decide) (by decide) (by decide) (by decide) (Or.inl (by decide))
      rw [show (nI 31).toUInt32 = Int32.toUInt32 31 from rfl, e1]
      have hw1 : w1 < 65536 := by rcases t1 with ⟨a, b⟩ | b <;> omega
      have hn1 : 15 ≤ n1 := by
        have a1 := bl_le.mp hw
        have a2 : w1 < 2 ^ 15 ∨ 2 ^ 15 ≤ w1 := by omega
        rcases t1 with ⟨a, b⟩ | b
        · subst b; omega
        · by_cases hB : 65536 ≤ w
          · have := bl_div (k := 16) (B := 65536) (by decide) hB
            rw [← b] at this; omega
          · have : w1 = 0 := by omega
            omega
      simp only [Option.bind_some]
      rw [show (256 : Int32) = nI 256 from rfl, show (-8 : Int32) = -nI 8 from rfl, show (8 : Int32) = nI 8 from rfl]
      obtain ⟨w2, n2, e2, p2, q2, r2, s2, t2⟩ := nlz_step (n := n1) (k := 8) (B := 256) (g := g) p1 (by omega) (by decide) (by decide) (by decide) r1 (Or.inl (by omega))
      rw [e2]
      have hw2 : w2 < 256 := by rcases t2 with ⟨a, b⟩ | b <;> omega
      have hn2 : 7 ≤ n2 := by
        rcases t2 with ⟨a, b⟩ | b
        · subst b; omega
        · by_cases hB : 256 ≤ w1
          · have := bl_div (k := 8) (B := 256) (by decide) hB
            rw [← b] at this; omega
          · have : w2 = 0 := by omega
            omega
      simp only [Option.bind_some]
      rw [show (-4 : Int32) = -nI 4 from rfl, show (4 : Int32) = nI 4 from rfl]
      obtain ⟨w3, n3, e3, p3, q3, r3, s3, t3⟩ := nlz_step (n := n2) (k := 4) (B := 16) (g := g) p2 (by omega) (by decide) (by decide) (by decide) r2 (Or.inl (by omega))
      rw [e3]
      have hw3 : w3 < 16 := by rcases t3 with ⟨a, b⟩ | b <;> omega
      have hn3 : 3 ≤ n3 := by
        rcases t3 with ⟨a, b⟩ | b
        · subst b; omega
        · by_cases hB : 16 ≤ w2
          · have := bl_div (k := 4) (B := 16) (by decide) hB
            rw [← b] at this; omega
          · have : w3 = 0 := by omega
            omega
      simp only [Option.bind_some]
      rw [show (-2 : Int32) = -nI 2 from rfl, show (2 : Int32) = nI 2 from rfl]
      obtain ⟨w4, n4, e4, p4, q4, r4, s4, t4⟩ := nlz_step (n := n3) (k := 2) (B := 4) (g := g) p3 (by omega) (by decide) (by decide) (by decide) r3 (Or.inl (by omega))
      rw [e4]
      have hw4 : w4 < 4 := by rcases t4 with ⟨a, b⟩ | b <;> omega
      simp only [Option.bind_some]
      rw [show (1 : Int32) = nI 1 from rfl, nlz_st (by omega) (by decide) (show 2 ^ 1 = 2 from rfl)]
      have hn4 : 1 ≤ n4 := by
        rcases t4 with ⟨a, b⟩ | b
        · subst b; omega
        · by_cases hB : 4 ≤ w3
          · have := bl_div (k := 2) (B := 4) (by decide) hB
            rw [← b] at this; omega
          · have : w4 = 0 := by omega
            omega
      have hb4 : bl w4 = 1 + w4 / 2 := by
        rcases (by omega : w4 = 1 ∨ w4 = 2 ∨ w4 = 3) with rfl | rfl | rfl <;> decide
      rw [pk_sub (by omega)]
      congr 3
      omega
  unfold f_X8_bits
  rw [key]
  have hb : bl w ≤ 31 := bl_le.mp hw
  simp only [Option.bind_some]
  rw [show (32 : Int32) = nI 32 from rfl, pk_sub (by omega)]
  congr 3
  omega
end HEA
section HEB
variable {z : Nat}
theorem imax_i {a b : Int} (h1 : -2147483648 ≤ a) (h2 : a < 2147483648) (h3 : -2147483648 ≤ b) (h4 : b < 2147483648) : imax (iI a) (iI b) = iI (max a b) := by
  unfold imax
  by_cases h : a < b
  · rw [if_pos ((iI_lt h1 h2 h3 h4).mpr h)]; congr 1; omega
  · rw [if_neg (fun q => h ((iI_lt h1 h2 h3 h4).mp q))]; congr 1; omega
theorem imin_i {a b : Int} (h1 : -2147483648 ≤ a) (h2 : a < 2147483648) (h3 : -2147483648 ≤ b) (h4 : b < 2147483648) : imin (iI a) (iI b) = iI (min a b) := by
  unfold imin
  by_cases h : b < a
  · rw [if_pos ((iI_lt h3 h4 h1 h2).mpr h)]; congr 1; omega
  · rw [if_neg (fun q => h ((iI_lt h3 h4 h1 h2).mp q))]; congr 1; omega
/-- with the cache nobody's, its cells are free -/
theorem IN.scr {g g1 : Hp} {V : VV} (h : IN g V) (hch : Ch [1, 21, 22] g g1) (h5 : gI g1 (1, 0) 5 = -9) : IN g1 V := by
  have := h.upd (C := [1, 21, 22]) (D := []) (E := []) (V2 := V) hch (Ev.rf _ _ _) (by decide) (by decide) h.v (fun n k v _ hn hk => by
    have := cI_cls hk
    simp only [List.mem_cons, List.not_mem_nil, or_false] at hn
    rcases hn with e | e | e <;> rw [e] at this <;> exact absurd this (by decide)) (Or.inl h5) h.vf
  exact this.unw
def HF (g : Hp) (A B : Nat → Int) : Prop := ∀ c, c < 144 → gI g (21, 0) c = iI (A c) ∧ gI g (22, 0) c = iI (B c)
theorem Ch.b1 {C : List Nat} {g g1 : Hp} (h : Ch C g g1) (hb : RC1 g.1) : RC1 g1.1 := by rw [h.1]; exact hb
theorem clear_L {g : Hp} (hb : RC1 g.1) : ∀ (n v : Nat) (g1 : Hp), Ch [21, 22] g g1 → v ≤ 144 → 144 - v < n → (∀ c, c < v → gI g1 (21, 0) c = iI (-1000000) ∧ gI g1 (22, 0) c = iI 1000000) → ∃ g2, f_X0_clear_8_L z (some (1, 0)) n (nI v) g1 = some (144, g2) ∧ Ch [21, 22] g g2 ∧ HF g2 (fun _ => -1000000) (fun _ => 1000000)
  | 0, v, _, _, _, h2, _ => absurd h2 (Nat.not_lt_zero _)
  | n + 1, v, g1, hc, h1, h2, h3 => by
    show ∃ g2, f_X0_clear_8_b z (some (1, 0)) (f_X0_clear_8_L z (some (1, 0)) n) (nI v) g1 = _ ∧ _
    unfold f_X0_clear_8_b
    rw [show (144 : Int32) = nI 144 from rfl]
    have hb1 := hc.b1 hb
    by_cases he : 144 ≤ v
    · have e : v = 144 := by omega
      rw [if_pos ((nI_leI (by omega) (by omega)).mpr he)]
      subst e
      exact ⟨g1, rfl, hc, h3⟩
    · rw [if_neg (fun w => he ((nI_leI (by omega) (by omega)).mp w))]
      have r0 : gR g1 (1, 0) 0 = some (21, 0) := hb1.1.2.2.1
      have r1 : ∀ w, gR (setI g1 (21, 0) v w) (1, 0) 1 = some (22, 0) := fun w => hb1.1.2.2.2
      have n1 : ∀ w, gN (setI g1 (21, 0) v w) (22, 0) = 144 := fun w => hb1.2.2.2.1
      simp only [gR_X, Option.bind_some, r0, ast_X hb1.2.2.1 (by decide) (by decide) (show v < 144 by omega) (by decide), r1, ast_X (n1 _) (by decide) (by decide) (show v < 144 by omega) (by decide), nI_1]
      refine clear_L hb n (v + 1) _ (hc.tr ((Ch.set (by decide)).tr (Ch.set (by decide)))) (by omega) (by omega) (fun c hc2 => ?_)
      by_cases e : c = v
      · subst e
        rw [gI_set, if_neg (by simp), gI_set, if_pos ⟨rfl, rfl⟩, gI_set, if_pos ⟨rfl, rfl⟩]
        exact ⟨by decide, by decide⟩
      · rw [gI_set, if_neg (by simp), gI_set, if_neg (by simp [e]), gI_set, if_neg (by simp [e]), gI_set, if_neg (by simp)]
        exact h3 c (by omega)
theorem clear8 (hz : 2000 ≤ z) {g : Hp} (hb : RC1 g.1) : ∃ g2, f_X0_clear z (some (1, 0)) g = some ((), g2) ∧ Ch [1, 21, 22] g g2 ∧ gI g2 (1, 0) 5 = -9 ∧ HF g2 (fun _ => -1000000) (fun _ => 1000000) := by
  obtain ⟨g2, k1, k2, k3⟩ := clear_L (z := z) (g := setI g (1, 0) 5 (-9)) hb z 0 _ (Ch.rf _ _) (by omega) (by omega) (fun c hc => absurd hc (Nat.not_lt_zero _))
  refine ⟨g2, ?_, (Ch.set (show 1 ∈ [1, 21, 22] by decide)).tr (k2.sub (by decide)), ?_, k3⟩
  · simp only [f_X0_clear, pI_X, Option.bind_some]
    rw [show (0 : Int32) = nI 0 from rfl, k1]; rfl
  · rw [k2.i (by decide), gI_set, if_pos ⟨rfl, rfl⟩]
theorem narrow_L {g : Hp} {V : VV} (ht : TT g V) {d : Nat} (hd : d < 144) {x y : Int} (hx : -2000000 ≤ x ∧ x ≤ 2000000) (hy : -2000000 ≤ y ∧ y ≤ 2000000) {A B : Nat → Int} (hA : ∀ c, c < 144 → -10000000 ≤ A c ∧ A c ≤ 10000000 ∧ -10000000 ≤ B c ∧ B c ≤ 10000000) : ∀ (n v : Nat) (g1 : Hp), Ch [21, 22] g g1 → v ≤ 144 → 144 - v < n → HF g1 (fun c => if c < v then max (A c) (x - TV V c d) else A c) (fun c => if c < v then min (B c) (y - TV V c d) else B c) → ∃ g2, f_X0_narrow_3_L z (some (1, 0)) (some (8, 0)) (nI d) (iI x) (iI y) n (nI v) g1 = some (144, g2) ∧ Ch [21, 22] g g2 ∧ HF g2 (fun c => max (A c) (x - TV V c d)) (fun c => min (B c) (y - TV V c d))
  | 0, v, _, _, _, h2, _ => absurd h2 (Nat.not_lt_zero _)
  | n + 1, v, g1, hc, h1, h2, h3 => by
    show ∃ g2, f_X0_narrow_3_b z (some (1, 0)) (some (8, 0)) (nI d) (iI x) (iI y) (f_X0_narrow_3_L z (some (1, 0)) (some (8, 0)) (nI d) (iI x) (iI y) n) (nI v) g1 = _ ∧ _
    unfold f_X0_narrow_3_b
    rw [show (144 : Int32) = nI 144 from rfl]
    have hb1 := hc.b1 ht.1
    have ht1 : TT g1 V := ⟨hb1, ht.2.1, fun k hk => by rw [hc.i (by decide)]; exact ht.2.2 k hk⟩
    by_cases he : 144 ≤ v
    · have e : v = 144 := by omega
      rw [if_pos ((nI_leI (by omega) (by omega)).mpr he)]
      subst e
      refine ⟨g1, rfl, hc, fun c hc2 => ?_⟩
      have := h3 c hc2
      simp only [if_pos hc2] at this
      exact this
    · rw [if_neg (fun w => he ((nI_leI (by omega) (by omega)).mp w))]
      have hv : v < 144 := by omega
      have htv := TV_b ht.2.1 hv hd
      have r0 : gR g1 (1, 0) 0 = some (21, 0) := hb1.1.2.2.1
      have r1 : ∀ w, gR (setI g1 (21, 0) v w) (1, 0) 1 = some (22, 0) := fun w => hb1.1.2.2.2
      have n1 : ∀ w, gN (setI g1 (21, 0) v w) (22, 0) = 144 := fun w => hb1.2.2.2.1
      obtain ⟨a1, a2⟩ := h3 v hv
      simp only [Nat.lt_irrefl, if_false] at a1 a2
      have a2' : ∀ w, gI (setI g1 (21, 0) v w) (22, 0) v = iI (B v) := fun w => by rw [gI_set, if_neg (by simp)]; exact a2
      obtain ⟨b1, b2, b3, b4⟩ := hA v hv
      have hw : ∀ x : Int, iI x - nI (tv (slo V) v d) = iI (x - TV V v d) := fun x => by rw [nI_iI, iI_sub]; rfl
      simp only [ick_X, between8 ht1 hv hd, gR_X, Option.bind_some, r0, ald_X hb1.2.2.1 (by decide) (by decide) hv (by decide), a1, hw, imax_i (show -2147483648 ≤ A v by omega) (show A v < 2147483648 by omega) (show -2147483648 ≤ x - TV V v d by omega) (show x - TV V v d < 2147483648 by omega), ast_X hb1.2.2.1 (by decide) (by decide) hv (by decide), r1, ald_X (n1 _) (by decide) (by decide) hv (by decide), a2', imin_i (show -2147483648 ≤ B v by omega) (show B v < 2147483648 by omega) (show -2147483648 ≤ y - TV V v d by omega) (show y - TV V v d < 2147483648 by omega), ast_X (n1 _) (by decide) (by decide) hv (by decide), nI_1]
      refine narrow_L ht hd hx hy hA n (v + 1) _ (hc.tr ((Ch.set (by decide)).tr (Ch.set (by decide)))) (by omega) (by omega) (fun c hc2 => ?_)
      by_cases e : c = v
      · subst e
        rw [gI_set, if_neg (by simp), gI_set, if_pos ⟨rfl, rfl⟩, gI_set, if_pos ⟨rfl, rfl⟩]
        simp
      · rw [gI_set, if_neg (by simp), gI_set, if_neg (by simp [e]), gI_set, if_neg (by simp [e]), gI_set, if_neg (by simp)]
        have := h3 c hc2
        by_cases e2 : c < v
        · simp only [if_pos e2, if_pos (show c < v + 1 by omega)] at this ⊢; exact this
        · simp only [if_neg e2, if_neg (show ¬ c < v + 1 by omega)] at this ⊢; exact this
theorem narrow8 (hz : 2000 ≤ z) {g : Hp} {V : VV} (ht : TT g V) {d : Nat} (hd : d < 144) {x y : Int} (hx : -2000000 ≤ x ∧ x ≤ 2000000) (hy : -2000000 ≤ y ∧ y ≤ 2000000) {A B : Nat → Int} (hA : ∀ c, c < 144 → -10000000 ≤ A c ∧ A c ≤ 10000000 ∧ -10000000 ≤ B c ∧ B c ≤ 10000000) (hF : HF g A B) : ∃ g2, f_X0_narrow z (some (1, 0)) (some (8, 0)) (nI d) (iI x) (iI y) g = some ((), g2) ∧ Ch [21, 22] g g2 ∧ HF g2 (fun c => max (A c) (x - TV V c d)) (fun c => min (B c) (y - TV V c d)) := by
  obtain ⟨g2, k1, k2, k3⟩ := narrow_L (z := z) ht hd hx hy hA z 0 g (Ch.rf _ _) (by omega) (by omega) (fun c hc => by simp; exact hF c hc)
  refine ⟨g2, ?_, k2, k3⟩
  unfold f_X0_narrow
  rw [show (0 : Int32) = nI 0 from rfl, k1]; rfl
def cLo (V : VV) (hd : Nat → Int) (c : Nat) : Nat → Int
  | 0 => -1000000
  | s + 1 => if hd s = -1 then (if V 60 s = 0 then max (cLo V hd c s) ((nw V : Int) - err V - TV V c (cS V s)) else cLo V hd c s) else max (cLo V hd c s) (hd s - err V - TV V c (cS V s))
def cHi (V : VV) (hd : Nat → Int) (c : Nat) : Nat → Int
  | 0 => 1000000
  | s + 1 => if hd s = -1 then (if V 60 s = 0 then min (cHi V hd c s) (1000000 - TV V c (cS V s)) else cHi V hd c s) else min (cHi V hd c s) (hd s + err V - TV V c (cS V s))
theorem cLo_b {V : VV} (h : HV V) {hd : Nat → Int} (hh : ∀ s, s < nst V → -1 ≤ hd s ∧ hd s ≤ 100000) {c : Nat} (hc : c < 144) : ∀ n, n ≤ nst V → -1000000 ≤ cLo V hd c n ∧ cLo V hd c n ≤ 1000000 ∧ -1000000 ≤ cHi V hd c n ∧ cHi V hd c n ≤ 1000000
  | 0, _ => by simp [cLo, cHi]
  | s + 1, hs => by
    have ih := cLo_b h hh hc s (by omega)
    have h5 := h.no.2
    have h4 := h.er.2
    have := TV_b h.sl.2 hc (h.st (s := s) (by omega)).2.1
    have := hh s (by omega)
    unfold cLo cHi
    split
    · split <;> omega
    · omega
theorem fill_L (hz : 2000 ≤ z) {V : VV} {q : Nat} {m t : Int32} {hd : Nat → Int} (hq : q < nqk V) : ∀ (n s : Nat) (g : Hp), IN g V → (∀ s, s < nst V → -1 ≤ hd s ∧ hd s ≤ 100000 ∧ (if nI s = m then t else gI g (26, q) s) = iI (hd s)) → gI g (1, 0) 5 = -9 → s ≤ nst V → nst V - s < n → HF g (fun c => cLo V hd c s) (fun c => cHi V hd c s) → ∃ w g2, f_X8_fillHeap_10_L z (some (9, 0)) (some (4, q)) m t n (nI s) g = some (w, g2) ∧ Ch [21, 22] g g2 ∧ HF g2 (fun c => cLo V hd c (nst V)) (fun c => cHi V hd c (nst V))
  | 0, s, _, _, _, _, _, h2, _ => absurd h2 (Nat.not_lt_zero _)
  | n + 1, s, g, h, hh, h5, h1, h2, hF => by
    show ∃ w g2, f_X8_fillHeap_10_b z (some (9, 0)) (some (4, q)) m t (f_X8_fillHeap_10_L z (some (9, 0)) (some (4, q)) m t n) (nI s) g = _ ∧ _
    unfold f_X8_fillHeap_10_b
    have ns := h.v.hv.ns.2
    have hno := h.v.hv.no
    have her := h.v.hv.er
    simp only [gr_C h.b1, cRef, Option.bind_some, ick_X, sizeJ h.c0]
    by_cases he : nst V ≤ s
    · have e : s = nst V := by omega
      rw [if_pos ((nI_leI (by omega) (by omega)).mpr he)]
      subst e
      exact ⟨_, g, rfl, Ch.rf _ _, hF⟩
    · have hs : s < nst V := by omega
      rw [if_neg (fun w => he ((nI_leI (by omega) (by omega)).mp w)), getS h hs]
      obtain ⟨b1, b2, b3⟩ := hh s hs
      have hst := h.v.hv.st hs
      have hr : (if nI s = m then some t else (getR (some (4, q)) 4 2 g).bind fun x8 => (aldI x8 (nI s) g).bind fun x9 => some x9) = some (iI (hd s)) := by
        rw [← b3]
        by_cases e : nI s = m
        · rw [if_pos e, if_pos e]
        · have r26 : gR g (4, q) 2 = some (26, q) := (h.r.2.2.2.2.1.2.1 q hq).1
          have n26 : gN g (26, q) = 10 := (h.r.2.2.2.2.1.2.1 q hq).2.2.2.1
          rw [if_neg e, if_neg e]
          simp only [gR_X, Option.bind_some, r26, ald_X n26 (by decide) (by decide) (show s < 10 by omega) (by decide)]
      simp only [Option.bind_some, ckc_X, hr, gI_X, h.s0 hs, h.s2 hs, gi_C, h.f10, h.f11, hno.1, her.1, hst.1]
      have hbd := fun c (hc : c < 144) => cLo_b h.v.hv (fun s hs => ⟨(hh s hs).1, (hh s hs).2.1⟩) (hd := hd) hc s (by omega)
      have hgo : ∀ g3, Ch [21, 22] g g3 → HF g3 (fun c => cLo V hd c (s + 1)) (fun c => cHi V hd c (s + 1)) → ∃ w g2, f_X8_fillHeap_10_L z (some (9, 0)) (some (4, q)) m t n (nI s + 1) g3 = some (w, g2) ∧ Ch [21, 22] g g2 ∧ HF g2 (fun c => cLo V hd c (nst V)) (fun c => cHi V hd c (nst V)) := by
        intro g3 k1 k2
        have e5 : gI g3 (1, 0) 5 = -9 := by rw [k1.i (by decide)]; exact h5
        obtain ⟨w, g2, j1, j2, j3⟩ := fill_L hz hq n (s + 1) g3 (h.scr (k1.sub (by decide)) e5) (fun s hs => ⟨(hh s hs).1, (hh s hs).2.1, by rw [k1.i (by simp)]; exact (hh s hs).2.2⟩) e5 (by omega) (by omega) k2
        exact ⟨w, g2, by rw [nI_1]; exact j1, k1.tr j2, j3⟩
      have hbd2 : ∀ c, c < 144 → -10000000 ≤ cLo V hd c s ∧ cLo V hd c s ≤ 10000000 ∧ -10000000 ≤ cHi V hd c s ∧ cHi V hd c s ≤ 10000000 := fun c hc => by have := hbd c hc; omega
      by_cases e1 : hd s = -1
      · rw [e1, if_pos (show iI (-1) = -1 by decide)]
        by_cases e2 : V 60 s = 0
        · rw [if_pos e2]
          have ea : nI (nw V) - nI (err V) = iI ((nw V : Int) - err V) := by rw [nI_iI, nI_iI, iI_sub]
          obtain ⟨g3, k1, k2, k3⟩ := narrow8 hz h.tt hst.2.1 (x := (nw V : Int) - err V) (y := 1000000) (by omega) (by omega) hbd2 hF
          rw [ea, show (1000000 : Int32) = iI 1000000 from by decide]
          simp only [gr_C h.b1, cRef, Option.bind_some, ick_X, k1]
          refine hgo g3 k2 (fun c hc => ?_)
          have := k3 c hc
          simp only [cLo, cHi, e1, e2, if_true]
          exact this
        · rw [if_neg e2]
          refine hgo g (Ch.rf _ _) (fun c hc => ?_)
          have := hF c hc
          simp only [cLo, cHi, e1, if_neg e2, if_true]
          exact this
      · rw [if_neg (fun w => e1 ((iI_eq (y := -1) (by omega) (by omega) (by omega) (by omega)).mp (w.trans (by decide))))]
        have ea : iI (hd s) - nI (err V) = iI (hd s - err V) := by rw [nI_iI, iI_sub]
        have eb : iI (hd s) + nI (err V) = iI (hd s + err V) := by rw [nI_iI, iI_add]
        obtain ⟨g3, k1, k2, k3⟩ := narrow8 hz h.tt hst.2.1 (x := hd s - err V) (y := hd s + err V) (by omega) (by omega) hbd2 hF
        rw [ea, eb]
        simp only [gr_C h.b1, cRef, Option.bind_some, ick_X, k1]
        refine hgo g3 k2 (fun c hc => ?_)
        have := k3 c hc
        simp only [cLo, cHi, if_neg e1]
        exact this
end HEB
section HEC
variable {z : Nat}
def ccF (A B : Nat → Int) : Nat → Nat
  | 0 => 0
  | c + 1 => if A c ≤ B c then ccF A B c + 1 else ccF A B c
theorem ccF_le (A B : Nat → Int) : ∀ n, ccF A B n ≤ n
  | 0 => Nat.le_refl _
  | c + 1 => by unfold ccF; have := ccF_le A B c; split <;> omega
def Bd (A B : Nat → Int) : Prop := ∀ c, c < 144 → -10000000 ≤ A c ∧ A c ≤ 10000000 ∧ -10000000 ≤ B c ∧ B c ≤ 10000000
theorem hs8 {g : Hp} (hb : RC1 g.1) {A B : Nat → Int} (hF : HF g A B) (hB : Bd A B) {c : Nat} (hc : c < 144) : f_X0_has z (some (1, 0)) (nI c) g = some ((if A c ≤ B c then 1 else 0), g) := by
  obtain ⟨b1, b2, b3, b4⟩ := hB c hc
  unfold f_X0_has
  simp only [gR_X, hb.1.2.2.1, hb.1.2.2.2, Option.bind_some, show gR g (1, 0) 0 = some (21, 0) from hb.1.2.2.1, show gR g (1, 0) 1 = some (22, 0) from hb.1.2.2.2, ald_X hb.2.2.1 (by decide) (by decide) hc (by decide), ald_X hb.2.2.2.1 (by decide) (by decide) hc (by decide), (hF c hc).1, (hF c hc).2]
  by_cases h : A c ≤ B c
  · rw [if_neg (fun w => by have := (iI_lt (by omega) (by omega) (by omega) (by omega)).mp w; omega), if_pos h]; exact rtZ_1
  · rw [if_pos ((iI_lt (by omega) (by omega) (by omega) (by omega)).mpr (by omega)), if_neg h]; exact rtZ_0
theorem count_L {A B : Nat → Int} (hB : Bd A B) : ∀ (n v : Nat) (g : Hp), RC1 g.1 → HF g A B → gI g (1, 0) 2 = nI (ccF A B v) → v ≤ 144 → 144 - v < n → ∃ g2, f_X0_countCells_7_L z (some (1, 0)) n (nI v) g = some (144, g2) ∧ Ch [1] g g2 ∧ gI g2 (1, 0) 2 = nI (ccF A B 144) ∧ ∀ k, k ≠ 2 → gI g2 (1, 0) k = gI g (1, 0) k
  | 0, v, _, _, _, _, _, h2 => absurd h2 (Nat.not_lt_zero _)
  | n + 1, v, g, hb, hF, h3, h1, h2 => by
    show ∃ g2, f_X0_countCells_7_b z (some (1, 0)) (f_X0_countCells_7_L z (some (1, 0)) n) (nI v) g = _ ∧ _
    unfold f_X0_countCells_7_b
    rw [show (144 : Int32) = nI 144 from rfl]
    by_cases he : 144 ≤ v
    · have e : v = 144 := by omega
      rw [if_pos ((nI_leI (by omega) (by omega)).mpr he)]
      subst e
      exact ⟨g, rfl, Ch.rf _ _, h3, fun _ _ => rfl⟩
    · rw [if_neg (fun w => he ((nI_leI (by omega) (by omega)).mp w)), ick_X, hs8 hb hF hB (by omega)]
      simp only [Option.bind_some, gI_X, pI_X, h3]
      by_cases h : A v ≤ B v
      · rw [if_pos h, if_neg (by decide), nI_1, nI_1]
        have e : ccF A B v + 1 = ccF A B (v + 1) := by conv => rhs; unfold ccF; rw [if_pos h]
        have hc : Ch [1] g (setI g (1, 0) 2 (nI (ccF A B v + 1))) := Ch.set (by decide)
        obtain ⟨g2, k1, k2, k3, k4⟩ := count_L hB n (v + 1) _ (hc.b1 hb) (fun c hc2 => by rw [hc.i (by decide), hc.i (by decide)]; exact hF c hc2) (by rw [gI_set, if_pos ⟨rfl, rfl⟩, e]) (by omega) (by omega)
        exact ⟨g2, k1, hc.tr k2, k3, fun k hk => by rw [k4 k hk, gI_set, if_neg (fun w => hk w.2)]⟩
      · rw [if_neg h, if_pos rfl, nI_1]
        have e : ccF A B v = ccF A B (v + 1) := by conv => rhs; unfold ccF; rw [if_neg h]
        exact count_L hB n (v + 1) g hb hF (by rw [h3, e]) (by omega) (by omega)
theorem fill8 (hz : 2000 ≤ z) {g : Hp} {V : VV} (h : IN g V) {q : Nat} {m t : Int32} {hd : Nat → Int} (hq : q < nqk V) (hh : ∀ s, s < nst V → -1 ≤ hd s ∧ hd s ≤ 100000 ∧ (if nI s = m then t else gI g (26, q) s) = iI (hd s)) : ∃ g2, f_X8_fillHeap z (some (9, 0)) (some (4, q)) m t g = some ((), g2) ∧ Ch [1, 21, 22] g g2 ∧ gI g2 (1, 0) 5 = -9 ∧ HF g2 (fun c => cLo V hd c (nst V)) (fun c => cHi V hd c (nst V)) ∧ gI g2 (1, 0) 2 = nI (ccF (fun c => cLo V hd c (nst V)) (fun c => cHi V hd c (nst V)) 144) := by
  obtain ⟨g1, a1, a2, a3, a4⟩ := clear8 hz h.b1
  have h1 := h.scr a2 a3
  obtain ⟨w, g2, b1, b2, b3⟩ := fill_L hz (m := m) (t := t) (hd := hd) hq z 0 g1 h1 (fun s hs => ⟨(hh s hs).1, (hh s hs).2.1, by rw [a2.i (by simp)]; exact (hh s hs).2.2⟩) a3 (Nat.zero_le _) (by have := h.v.hv.ns.2; omega) (fun c hc => a4 c hc)
  have hc2 := a2.tr (b2.sub (D := [1, 21, 22]) (by decide))
  have hBd : Bd (fun c => cLo V hd c (nst V)) (fun c => cHi V hd c (nst V)) := fun c hc => by
    have := cLo_b h.v.hv (fun s hs => ⟨(hh s hs).1, (hh s hs).2.1⟩) (hd := hd) hc (nst V) (Nat.le_refl _)
    show -10000000 ≤ cLo V hd c (nst V) ∧ cLo V hd c (nst V) ≤ 10000000 ∧ -10000000 ≤ cHi V hd c (nst V) ∧ cHi V hd c (nst V) ≤ 10000000
    omega
  have hc3 : Ch [1] g2 (setI g2 (1, 0) 2 0) := Ch.set (by decide)
  obtain ⟨g3, c1, c2, c3, c4⟩ := count_L (z := z) hBd z 0 (setI g2 (1, 0) 2 0) ((hc2.tr (hc3.sub (by decide))).b1 h.b1) (fun c hc => by rw [hc3.i (by decide), hc3.i (by decide)]; exact b3 c hc) (by rw [gI_set, if_pos ⟨rfl, rfl⟩]; rfl) (by omega) (by omega)
  refine ⟨g3, ?_, hc2.tr ((hc3.tr c2).sub (by decide)), ?_, fun c hc => ?_, c3⟩
  · unfold f_X8_fillHeap
    simp only [gr_C h.b1, cRef, Option.bind_some, ick_X, a1]
    rw [show (0 : Int32) = nI 0 from rfl, b1]
    simp only [Option.bind_some, gr_C (hc2.b1 h.b1), cRef, ick_X, f_X0_countCells, pI_X]
    rw [show (0 : Int32) = nI 0 from rfl, show setI g2 (1, 0) 2 (nI 0) = setI g2 (1, 0) 2 0 from rfl, c1]
    rfl
  · rw [c4 5 (by decide), gI_set, if_neg (by simp), b2.i (by decide), a3]
  · rw [c2.i (by decide), c2.i (by decide), hc3.i (by decide), hc3.i (by decide)]; exact b3 c hc
/-! the two foldings agree -/
theorem loP_le {W : VV} {q c : Nat} {x : Int} : ∀ n, loP W q c n ≤ x ↔ -1000000000 ≤ x ∧ ∀ p, p < n → W 50 p = nI q → pkT W p c - err W ≤ x
  | 0 => by simp [loP]
  | n + 1 => by
    have ih := loP_le (W := W) (q := q) (c := c) (x := x) n
    unfold loP
    constructor
    · intro h
      by_cases e : W 50 n = nI q
      · rw [if_pos e] at h
        obtain ⟨h1, h2⟩ := ih.mp (by omega)
        refine ⟨h1, fun p hp hq => ?_⟩
        by_cases e2 : p = n
        · subst e2; omega
        · exact h2 p (by omega) hq
      · rw [if_neg e] at h
        obtain ⟨h1, h2⟩ := ih.mp h
        refine ⟨h1, fun p hp hq => ?_⟩
        by_cases e2 : p = n
        · subst e2; exact absurd hq e
        · exact h2 p (by omega) hq
    · intro ⟨h1, h2⟩
      have h3 := ih.mpr ⟨h1, fun p hp hq => h2 p (by omega) hq⟩
      by_cases e : W 50 n = nI q
      · rw [if_pos e]; have := h2 n (by omega) e; omega
      · rw [if_neg e]; exact h3
theorem hiP_ge {W : VV} {q c : Nat} {x : Int} : ∀ n, x ≤ hiP W q c n ↔ x ≤ 1000000000 ∧ ∀ p, p < n → W 50 p = nI q → x ≤ pkT W p c + err W
  | 0 => by simp [hiP]
  | n + 1 => by
    have ih := hiP_ge (W := W) (q := q) (c := c) (x := x) n
    unfold hiP
    constructor
    · intro h
      by_cases e : W 50 n = nI q
      · rw [if_pos e] at h
        obtain ⟨h1, h2⟩ := ih.mp (by omega)
        refine ⟨h1, fun p hp hq => ?_⟩
        by_cases e2 : p = n
        · subst e2; omega
        · exact h2 p (by omega) hq
      · rw [if_neg e] at h
        obtain ⟨h1, h2⟩ := ih.mp h
        refine ⟨h1, fun p hp hq => ?_⟩
        by_cases e2 : p = n
        · subst e2; exact absurd hq e
        · exact h2 p (by omega) hq
    · intro ⟨h1, h2⟩
      have h3 := ih.mpr ⟨h1, fun p hp hq => h2 p (by omega) hq⟩
      by_cases e : W 50 n = nI q
      · rw [if_pos e]; have := h2 n (by omega) e; omega
      · rw [if_neg e]; exact h3
theorem loS_le {W : VV} {q c : Nat} {x : Int} : ∀ n, loS W q c n ≤ x ↔ loP W q c (npk W) ≤ x ∧ ∀ s, s < n → W 60 s = 0 → hrd W q s (npk W) = false → (nw W : Int) - TV W c (cS W s) - err W ≤ x
  | 0 => by simp [loS]
  | n + 1 => by
    have ih := loS_le (W := W) (q := q) (c := c) (x := x) n
    unfold loS
    constructor
    · intro h
      by_cases e : W 60 n = 0 ∧ hrd W q n (npk W) = false
      · rw [if_pos e] at h
        obtain ⟨h1, h2⟩ := ih.mp (by omega)
        refine ⟨h1, fun p hp h3 h4 => ?_⟩
        by_cases e2 : p = n
        · subst e2; omega
        · exact h2 p (by omega) h3 h4
      · rw [if_neg e] at h
        obtain ⟨h1, h2⟩ := ih.mp h
        refine ⟨h1, fun p hp h3 h4 => ?_⟩
        by_cases e2 : p = n
        · subst e2; exact absurd ⟨h3, h4⟩ e
        · exact h2 p (by omega) h3 h4
    · intro ⟨h1, h2⟩
      have h3 := ih.mpr ⟨h1, fun p hp h4 h5 => h2 p (by omega) h4 h5⟩
      by_cases e : W 60 n = 0 ∧ hrd W q n (npk W) = false
      · rw [if_pos e]; have := h2 n (by omega) e.1 e.2; omega
      · rw [if_neg e]; exact h3
theorem cLo_le {W : VV} {hd : Nat → Int} {c : Nat} {x : Int} : ∀ n, cLo W hd c n ≤ x ↔ -1000000 ≤ x ∧ ∀ s, s < n → (hd s ≠ -1 → hd s - err W - TV W c (cS W s) ≤ x) ∧ (hd s = -1 → W 60 s = 0 → (nw W : Int) - err W - TV W c (cS W s) ≤ x)
  | 0 => by simp [cLo]
  | n + 1 => by
    have ih := cLo_le (W := W) (hd := hd) (c := c) (x := x) n
    unfold cLo
    constructor
    · intro h
      have h0 : cLo W hd c n ≤ x := by
        by_cases e1 : hd n = -1
        · rw [if_pos e1] at h
          by_cases e2 : W 60 n = 0
          · rw [if_pos e2] at h; omega
          · rw [if_neg e2] at h; exact h
        · rw [if_neg e1] at h; omega
      obtain ⟨h1, h2⟩ := ih.mp h0
      refine ⟨h1, fun s hs => ?_⟩
      by_cases e : s = n
      · subst e
        refine ⟨fun e1 => ?_, fun e1 e2 => ?_⟩
        · rw [if_neg e1] at h; omega
        · rw [if_pos e1, if_pos e2] at h; omega
      · exact h2 s (by omega)
    · intro ⟨h1, h2⟩
      have h3 := ih.mpr ⟨h1, fun s hs => h2 s (by omega)⟩
      have h4 := h2 n (by omega)
      by_cases e1 : hd n = -1
      · rw [if_pos e1]
        by_cases e2 : W 60 n = 0
        · rw [if_pos e2]; have := h4.2 e1 e2; omega
        · rw [if_neg e2]; exact h3
      · rw [if_neg e1]; have := h4.1 e1; omega
theorem cHi_ge {W : VV} {hd : Nat → Int} {c : Nat} {x : Int} : ∀ n, x ≤ cHi W hd c n ↔ x ≤ 1000000 ∧ ∀ s, s < n → (hd s ≠ -1 → x ≤ hd s + err W - TV W c (cS W s)) ∧ (hd s = -1 → W 60 s = 0 → x ≤ 1000000 - TV W c (cS W s))
  | 0 => by simp [cHi]
  | n + 1 => by
    have ih := cHi_ge (W := W) (hd := hd) (c := c) (x := x) n
    unfold cHi
    constructor
    · intro h
      have h0 : x ≤ cHi W hd c n := by
        by_cases e1 : hd n = -1
        · rw [if_pos e1] at h
          by_cases e2 : W 60 n = 0
          · rw [if_pos e2] at h; omega
          · rw [if_neg e2] at h; exact h
        · rw [if_neg e1] at h; omega
      obtain ⟨h1, h2⟩ := ih.mp h0
      refine ⟨h1, fun s hs => ?_⟩
      by_cases e : s = n
      · subst e
        refine ⟨fun e1 => ?_, fun e1 e2 => ?_⟩
        · rw [if_neg e1] at h; omega
        · rw [if_pos e1, if_pos e2] at h; omega
      · exact h2 s (by omega)
    · intro ⟨h1, h2⟩
      have h3 := ih.mpr ⟨h1, fun s hs => h2 s (by omega)⟩
      have h4 := h2 n (by omega)
      by_cases e1 : hd n = -1
      · rw [if_pos e1]
        by_cases e2 : W 60 n = 0
        · rw [if_pos e2]; have := h4.2 e1 e2; omega
        · rw [if_neg e2]; exact h3
      · rw [if_neg e1]; have := h4.1 e1; omega
theorem tkS_sp {W : VV} {q s : Nat} : ∀ n, (tkS W q s n = -1 ∧ hrd W q s n = false ∧ ∀ p, p < n → ¬ (W 50 p = nI q ∧ W 47 p = nI s)) ∨ ∃ p, p < n ∧ W 50 p = nI q ∧ W 47 p = nI s ∧ tkS W q s n = (tk W p : Int) ∧ hrd W q s n = true
  | 0 => Or.inl ⟨rfl, rfl, fun p hp => absurd hp (Nat.not_lt_zero _)⟩
  | n + 1 => by
    by_cases e : W 50 n = nI q ∧ W 47 n = nI s
    · exact Or.inr ⟨n, by omega, e.1, e.2, by simp [tkS, e], by simp [hrd, e]⟩
    · have hh : hrd W q s (n + 1) = hrd W q s n := by
        show (hrd W q s n || (decide (W 50 n = nI q) && decide (W 47 n = nI s))) = hrd W q s n
        have e3 : (decide (W 50 n = nI q) && decide (W 47 n = nI s)) = false := by rw [← Bool.decide_and]; exact decide_eq_false e
        rw [e3, Bool.or_false]
      have ht : tkS W q s (n + 1) = tkS W q s n := by conv => lhs; unfold tkS; rw [if_neg e]
      rcases tkS_sp (W := W) (q := q) (s := s) n with ⟨h1, h2, h3⟩ | ⟨p, h1, h2, h3, h4, h5⟩
      · refine Or.inl ⟨ht.trans h1, hh.trans h2, fun p hp => ?_⟩
        by_cases e2 : p = n
        · subst e2; exact e
        · exact h3 p (by omega)
      · exact Or.inr ⟨p, by omega, h2, h3, ht.trans h4, hh.trans h5⟩
end HEC
