/-! what the heap of a quake holds, over the table -/
def SRC (V : VV) (q c : Nat) (b : Int) : Prop := (∀ p, p < npk V → V 50 p = nI q → pkT V p c - err V ≤ b ∧ b ≤ pkT V p c + err V) ∧ ∀ s, s < nst V → V 60 s = 0 → hrd V q s (npk V) = false → (nw V : Int) - TV V c (cS V s) - err V ≤ b
theorem src_in {V : VV} {q c : Nat} {b : Int} (h : SRC V q c b) (h1 : -1000000 ≤ b) (h2 : b ≤ 1000000) : lo V q c ≤ b ∧ b ≤ hi V q c := by
  unfold lo hi
  exact ⟨(loS_le (nst V)).mpr ⟨(loP_le (npk V)).mpr ⟨by omega, fun p hp hq => (h.1 p hp hq).1⟩, h.2⟩, (hiP_ge (npk V)).mpr ⟨by omega, fun p hp hq => (h.1 p hp hq).2⟩⟩
theorem ncl_pos {V : VV} {q c : Nat} (hc : c < 144) (h : lo V q c ≤ hi V q c) : 0 < ncl V q 144 := by
  have h1 := ncl_mono (V := V) (q := q) (a := c + 1) 144 (by omega)
  have e : ncl V q (c + 1) = ncl V q c + 1 := by conv => lhs; unfold ncl; rw [if_pos h]
  omega
theorem ncl_sub {V V2 : VV} {q : Nat} : ∀ n, (∀ c, c < n → lo V2 q c ≤ hi V2 q c → lo V q c ≤ hi V q c) → ncl V2 q n ≤ ncl V q n
  | 0, _ => Nat.le_refl _
  | n + 1, h => by
    have ih := ncl_sub (V := V) (V2 := V2) (q := q) n (fun c hc => h c (by omega))
    have h1 := h n (by omega)
    unfold ncl
    by_cases e2 : lo V2 q n ≤ hi V2 q n
    · rw [if_pos e2, if_pos (h1 e2)]; omega
    · rw [if_neg e2]
      split <;> omega
theorem ncl_eq {V V2 : VV} {q : Nat} (h : ∀ c, lo V2 q c = lo V q c ∧ hi V2 q c = hi V q c) : ∀ n, ncl V2 q n = ncl V q n
  | 0 => rfl
  | n + 1 => by
    unfold ncl
    rw [ncl_eq h n, (h n).1, (h n).2]
theorem cm_cx {V : VV} {q t : Nat} : ∀ n, ncl V q n ≠ 0 → cmF V q t n ≤ cxF V q t n
  | 0, h => absurd rfl h
  | n + 1, h => by
    have ih := cm_cx (V := V) (q := q) (t := t) n
    unfold ncl at h
    unfold cmF cxF
    by_cases e : lo V q n ≤ hi V q n
    · rw [if_pos e, if_pos e]; omega
    · rw [if_neg e] at h
      rw [if_neg e, if_neg e]; exact ih h
/-- no station is silent: the picks alone -/
theorem loS_all {V : VV} {q c : Nat} : ∀ n, (∀ s, s < n → V 60 s = 0 → hrd V q s (npk V) = true) → loS V q c n = loP V q c (npk V)
  | 0, _ => rfl
  | n + 1, h => by
    have ih := loS_all (V := V) (q := q) (c := c) n (fun s hs => h s (by omega))
    unfold loS
    rw [if_neg (fun w => by have := h n (by omega) w.1; rw [this] at w; exact absurd w.2 (by decide))]
    exact ih
theorem cnt_all {V : VV} {q : Nat} : ∀ n, (∀ p, p < n → V 50 p = nI q) → cntF V q n = n
  | 0, _ => rfl
  | n + 1, h => by
    unfold cntF
    rw [if_pos (h n (by omega)), cnt_all n (fun p hp => h p (by omega))]
/-! the law's numbers: how many stations, the error, the slowness, the source, its time, the cells, when shaking comes -/
def OKc (n e q c0 b0 : Nat) (at' cm : Nat → Nat) : Prop := n ≤ 8 ∧ 2 ≤ n ∧ e ≤ 7 ∧ 1 ≤ q ∧ q ≤ 300 ∧ c0 < 144 ∧ 10 ≤ b0 ∧ b0 < 60 ∧ ∀ i, i < n → at' i < 144 ∧ b0 + tv q c0 (at' i) ≤ cm i + e ∧ cm i ≤ b0 + tv q c0 (at' i) + e
theorem OKc.le {n e q c0 b0 : Nat} {at' cm : Nat → Nat} (h : OKc n e q c0 b0 at' cm) {i : Nat} (hi : i < n) : cm i ≤ 400 := by
  obtain ⟨h1, h2, h3, h4, h5, h6, h7, h8, h9⟩ := h
  obtain ⟨a1, a2, a3⟩ := h9 i hi
  have := tv_lt (q := q) (by omega) h6 a1
  omega
/-- one quake: its picks are of stations that P has, the others' shaking comes not before NOW -/
def GD (n e q : Nat) (at' cm : Nat → Nat) (V : VV) (P : Nat → Bool) : Prop := nst V = n ∧ slo V = q ∧ err V = e ∧ (∀ i, i < n → cS V i = at' i) ∧ (∀ j, j < npk V → V 50 j = nI 0 ∧ sP V j < n ∧ tk V j = cm (sP V j)) ∧ (∀ i, i < n → hrd V 0 i (npk V) = P i) ∧ (∀ i, i < n → P i = false → nw V ≤ cm i)
section GDS
variable {n e q c0 b0 : Nat} {at' cm : Nat → Nat} {V : VV} {P : Nat → Bool}
theorem GD.src (hk : OKc n e q c0 b0 at' cm) (h : GD n e q at' cm V P) : SRC V 0 c0 b0 := by
  obtain ⟨k1, k2, k3, k4, k5, k6, k7, k8, k9⟩ := hk
  obtain ⟨g1, g2, g3, g4, g5, g6, g7⟩ := h
  refine ⟨fun p hp _ => ?_, fun s hs _ hr => ?_⟩
  · obtain ⟨-, a2, a3⟩ := g5 p hp
    obtain ⟨b1, b2, b3⟩ := k9 _ a2
    unfold pkT TV
    rw [g2, g3, g4 _ a2, a3]
    omega
  · rw [g1] at hs
    obtain ⟨b1, b2, b3⟩ := k9 _ hs
    have hP : P s = false := by rw [← g6 s hs]; exact hr
    have := g7 s hs hP
    unfold TV
    rw [g2, g3, g4 _ hs]
    omega
theorem GD.inn (hk : OKc n e q c0 b0 at' cm) (h : GD n e q at' cm V P) : lo V 0 c0 ≤ b0 ∧ (b0 : Int) ≤ hi V 0 c0 := by
  have hb := hk.2.2.2.2.2.2.2.1
  exact src_in (h.src hk) (by omega) (by omega)
theorem GD.pos (hk : OKc n e q c0 b0 at' cm) (h : GD n e q at' cm V P) : 0 < ncl V 0 144 := by
  have h1 := h.inn hk
  exact ncl_pos hk.2.2.2.2.2.1 (by omega)
/-- time goes on -/
def nwV (V : VV) (t : Nat) : VV := vs V 10 5 (nI t)
theorem nwV_no {t : Nat} (ht : t < 2147483648) : nw (nwV V t) = t := by
  show (vs V 10 5 (nI t) 10 5).toNatClampNeg = t
  rw [vs_eq]; exact nI_cl ht
theorem nwV_hrd {t i : Nat} : ∀ p, hrd (nwV V t) 0 i p = hrd V 0 i p := fun p => hrd_w p (fun _ _ => ⟨rfl, rfl⟩)
theorem GD.later {t : Nat} (h : GD n e q at' cm V P) (ht : t < 2147483648) (hm : ∀ i, i < n → P i = false → t ≤ cm i) : GD n e q at' cm (nwV V t) P := by
  obtain ⟨g1, g2, g3, g4, g5, g6, g7⟩ := h
  refine ⟨g1, g2, g3, g4, g5, fun i hi => ?_, fun i hi hP => ?_⟩
  · show hrd (nwV V t) 0 i (npk V) = P i
    rw [nwV_hrd]; exact g6 i hi
  · rw [nwV_no ht]; exact hm i hi hP
theorem GD.opened (h : GD n e q at' cm V P) : GD n e q at' cm (opV V) P := by
  obtain ⟨g1, g2, g3, g4, g5, g6, g7⟩ := h
  have e47 : opV V 47 = V 47 := op_ev.1 47 (by decide) (by decide)
  have e48 : opV V 48 = V 48 := op_ev.1 48 (by decide) (by decide)
  have e50 : opV V 50 = V 50 := op_ev.1 50 (by decide) (by decide)
  refine ⟨op_w.ns.trans g1, op_w.sl.trans g2, op_w.er.trans g3, fun i hi => op_w.cS_.trans (g4 i hi), fun j hj => ?_, fun i hi => ?_, fun i hi hP => ?_⟩
  · rw [op_w.np] at hj
    unfold sP tk
    rw [e47, e48, e50]
    exact g5 j hj
  · rw [op_w.np, op_w.hrd_]; exact g6 i hi
  · rw [op_w.no]; exact g7 i hi hP
theorem GD.picked {s t : Nat} {x : Int32} (h : GD n e q at' cm V P) (hn : n ≤ 8) (hs : s < n) (ht : t = cm s) (hb : t ≤ 100000) (hp : npk V < 60) (hno : nw V = t) : GD n e q at' cm (apV V s t x (nI 0)) (fun i => P i || decide (i = s)) := by
  obtain ⟨g1, g2, g3, g4, g5, g6, g7⟩ := h
  refine ⟨ap_ns.trans g1, ap_sl.trans g2, ap_er.trans g3, fun i hi => ap_cS.trans (g4 i hi), fun j hj => ?_, fun i hi => ?_, fun i hi hP => ?_⟩
  · rw [ap_np hp] at hj
    by_cases ej : j = npk V
    · subst ej
      rw [ap_sPa (by omega), ap_tka hb, ap_at.2.2.2]
      exact ⟨rfl, hs, ht⟩
    · rw [ap_sP ej, ap_tk ej, (ap_lt ej).2.2.2]
      exact g5 j (by omega)
  · rw [ap_np hp]
    show (hrd (apV V s t x (nI 0)) 0 i (npk V) || (decide (apV V s t x (nI 0) 50 (npk V) = nI 0) && decide (apV V s t x (nI 0) 47 (npk V) = nI i))) = (P i || decide (i = s))
    rw [hrd_w (V := V) (npk V) (fun p hp2 => ⟨(ap_lt (by omega)).1, (ap_lt (by omega)).2.2.2⟩), g6 i hi, ap_at.1, ap_at.2.2.2]
    congr 1
    by_cases ei : i = s
    · subst ei; simp
    · have : ¬ nI s = nI i := fun w => ei (nI_inj2 w (by omega) (by omega)).symm
      simp [ei, this]
  · rw [ap_no]
    have hP2 : P i = false := by
      cases hq : P i with
      | false => rfl
      | true => simp [hq] at hP
    exact g7 i hi hP2
/-- it only shrinks -/
theorem GD.shrinks {s t : Nat} {x : Int32} (h : GD n e q at' cm V P) (hn : n ≤ 8) (hs : s < n) (hb : t ≤ 100000) (hp : npk V < 60) (hle : nw V ≤ t) : ncl (apV (nwV V t) s t x (nI 0)) 0 144 ≤ ncl V 0 144 := by
  obtain ⟨g1, g2, g3, g4, g5, g6, g7⟩ := h
  have hp1 : npk (nwV V t) < 60 := hp
  have eS : ∀ i, cS (apV (nwV V t) s t x (nI 0)) i = cS V i := fun i => ap_cS
  have eT : ∀ a b, TV (apV (nwV V t) s t x (nI 0)) a b = TV V a b := fun a b => ap_TV
  have eE : err (apV (nwV V t) s t x (nI 0)) = err V := ap_er
  have eN : nst (apV (nwV V t) s t x (nI 0)) = nst V := ap_ns
  have eW : nw (apV (nwV V t) s t x (nI 0)) = t := ap_no.trans (nwV_no (by omega))
  have eP : npk (apV (nwV V t) s t x (nI 0)) = npk V + 1 := ap_np hp1
  have ePk : ∀ p c, p < npk V → pkT (apV (nwV V t) s t x (nI 0)) p c = pkT V p c := fun p c hp2 => ap_pkT (V := nwV V t) (show p ≠ npk V by omega)
  have e50 : ∀ p, p < npk V → apV (nwV V t) s t x (nI 0) 50 p = V 50 p := fun p hp2 => (ap_lt (V := nwV V t) (show p ≠ npk V by omega)).2.2.2
  have e60 : apV (nwV V t) s t x (nI 0) 60 = V 60 := ap_ev.1 60 (by decide) (by decide)
  have hat := ap_at (V := nwV V t) (s := s) (t := t) (c := x) (qv := nI 0)
  have eSl : sP (apV (nwV V t) s t x (nI 0)) (npk V) = s := ap_sPa (V := nwV V t) (by omega)
  have eTl : tk (apV (nwV V t) s t x (nI 0)) (npk V) = t := ap_tka (V := nwV V t) hb
  refine ncl_sub 144 (fun c _ hh => ?_)
  have hl : lo V 0 c ≤ lo (apV (nwV V t) s t x (nI 0)) 0 c := by
    have hx := (loS_le (W := apV (nwV V t) s t x (nI 0)) (q := 0) (c := c) (x := lo (apV (nwV V t) s t x (nI 0)) 0 c) (nst (apV (nwV V t) s t x (nI 0)))).mp (Int.le_refl _)
    obtain ⟨x1, x2⟩ := hx
    obtain ⟨x3, x4⟩ := (loP_le _).mp x1
    rw [eP, eE] at x4
    refine (loS_le (nst V)).mpr ⟨(loP_le (npk V)).mpr ⟨x3, fun p hp2 hq => ?_⟩, fun i hi h1 h2 => ?_⟩
    · have := x4 p (by omega) ((e50 p hp2).trans hq)
      rw [ePk p c hp2] at this
      exact this
    · by_cases ei : i = s
      · subst ei
        have := x4 (npk V) (by omega) hat.2.2.2
        have e1 : pkT (apV (nwV V t) i t x (nI 0)) (npk V) c = (t : Int) - TV V c (cS V i) := by
          unfold pkT
          rw [eTl, eSl, eS, eT]
        rw [e1] at this
        omega
      · have hr : hrd (apV (nwV V t) s t x (nI 0)) 0 i (npk (apV (nwV V t) s t x (nI 0))) = false := by
          rw [eP]
          show (hrd (apV (nwV V t) s t x (nI 0)) 0 i (npk V) || (decide (apV (nwV V t) s t x (nI 0) 50 (npk V) = nI 0) && decide (apV (nwV V t) s t x (nI 0) 47 (npk V) = nI i))) = false
          have e1 : apV (nwV V t) s t x (nI 0) 47 (npk V) = nI s := hat.1
          have e2 : ¬ nI s = nI i := fun w => ei (nI_inj2 w (by omega) (by omega)).symm
          rw [hrd_w (V := V) (npk V) (fun p hp2 => ⟨(ap_lt (V := nwV V t) (show p ≠ npk V by omega)).1, e50 p hp2⟩), h2, e1]
          simp [e2]
        have := x2 i (by rw [eN]; exact hi) (by rw [e60]; exact h1) hr
        rw [eW, eT, eS, eE] at this
        omega
  have hh2 : hi (apV (nwV V t) s t x (nI 0)) 0 c ≤ hi V 0 c := by
    have hx := (hiP_ge (W := apV (nwV V t) s t x (nI 0)) (q := 0) (c := c) (x := hi (apV (nwV V t) s t x (nI 0)) 0 c) (npk (apV (nwV V t) s t x (nI 0)))).mp (Int.le_refl _)
    obtain ⟨x1, x2⟩ := hx
    rw [eP, eE] at x2
    refine (hiP_ge (npk V)).mpr ⟨x1, fun p hp2 hq => ?_⟩
    have := x2 p (by omega) ((e50 p hp2).trans hq)
    rw [ePk p c hp2] at this
    exact this
  omega
/-- no station silent: time alone changes nothing -/
theorem GD.stays {t : Nat} (h : GD n e q at' cm V P) (hP : ∀ i, i < n → P i = true) : ncl (nwV V t) 0 144 = ncl V 0 144 := by
  obtain ⟨g1, g2, g3, g4, g5, g6, g7⟩ := h
  refine ncl_eq (fun c => ?_) 144
  have hw := loP_w (V := V) (V2 := nwV V t) (q := 0) (c := c) rfl (npk V) (fun p hp => ⟨rfl, rfl⟩)
  have a1 : lo V 0 c = loP V 0 c (npk V) := loS_all (nst V) (fun s hs _ => by
    rw [g1] at hs; rw [g6 s hs]; exact hP s hs)
  have a2 : lo (nwV V t) 0 c = loP (nwV V t) 0 c (npk V) := loS_all (V := nwV V t) (nst V) (fun s hs _ => by
    rw [g1] at hs
    show hrd (nwV V t) 0 s (npk V) = true
    rw [nwV_hrd, g6 s hs]; exact hP s hs)
  exact ⟨by rw [a1, a2, hw.1], hw.2⟩
end GDS
