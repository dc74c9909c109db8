section HOF
theorem nI_inj2 {a b : Nat} (h : nI a = nI b) (ha : a < 1000000) (hb : b < 1000000) : a = b := by
  have := congrArg Int32.toNatClampNeg h
  rwa [nI_cl (by omega), nI_cl (by omega)] at this
variable {z : Nat}
theorem fold_eq {W : VV} (hv : HV W) {q c : Nat} (hc : c < 144) (uq : ∀ p p2, p < npk W → p2 < npk W → W 50 p = nI q → W 50 p2 = nI q → sP W p = sP W p2 → p = p2) (ex : ∃ p, p < npk W ∧ W 50 p = nI q) : cLo W (fun s => tkS W q s (npk W)) c (nst W) = lo W q c ∧ cHi W (fun s => tkS W q s (npk W)) c (nst W) = hi W q c := by
  obtain ⟨p0, hp0, e0⟩ := ex
  have hno := hv.no.2
  have her := hv.er.2
  have hns := hv.ns.2
  have hb : ∀ p, p < npk W → -311 ≤ pkT W p c ∧ pkT W p c ≤ 100000 := fun p hp => by
    obtain ⟨a1, a2, a3, a4⟩ := hv.pk hp
    have := TV_b hv.sl.2 hc (hv.st a2).2.1
    unfold pkT; omega
  have h47 : ∀ p, p < npk W → ∀ s, s < nst W → (W 47 p = nI s ↔ sP W p = s) := fun p hp s hs => by
    obtain ⟨a1, a2, -⟩ := hv.pk hp
    constructor
    · intro h
      have : (W 47 p).toNatClampNeg = s := by rw [h]; exact nI_cl (by omega)
      exact this
    · intro h; rw [a1, h]
  have lo1 : lo W q c ≤ lo W q c := Int.le_refl _
  have hi1 : hi W q c ≤ hi W q c := Int.le_refl _
  unfold lo at lo1
  obtain ⟨l1, l2⟩ := (loS_le (nst W)).mp lo1
  obtain ⟨-, l3⟩ := (loP_le (npk W)).mp l1
  obtain ⟨-, u3⟩ := (hiP_ge (npk W)).mp hi1
  have hb0 := hb p0 hp0
  have lo_lb : -1000 ≤ lo W q c := by have := l3 p0 hp0 e0; unfold lo; omega
  have hi_ub : hi W q c ≤ 200000 := by have := u3 p0 hp0 e0; omega
  have c1 := (cLo_le (W := W) (hd := fun s => tkS W q s (npk W)) (c := c) (nst W)).mp (Int.le_refl _)
  have c2 := (cHi_ge (W := W) (hd := fun s => tkS W q s (npk W)) (c := c) (nst W)).mp (Int.le_refl _)
  constructor
  · apply Int.le_antisymm
    · apply (cLo_le (nst W)).mpr
      refine ⟨by omega, fun s hs => ⟨fun h1 => ?_, fun h1 h2 => ?_⟩⟩
      · rcases tkS_sp (W := W) (q := q) (s := s) (npk W) with ⟨a1, -⟩ | ⟨p, a1, a2, a3, a4, -⟩
        · exact absurd a1 h1
        · have := l3 p a1 a2
          have e := (h47 p a1 s hs).mp a3
          unfold pkT at this
          rw [e] at this
          show tkS W q s (npk W) - err W - TV W c (cS W s) ≤ lo W q c
          unfold lo
          omega
      · rcases tkS_sp (W := W) (q := q) (s := s) (npk W) with ⟨-, a2, -⟩ | ⟨p, a1, a2, a3, a4, -⟩
        · have := l2 s hs h2 a2
          unfold lo
          omega
        · have : tkS W q s (npk W) = -1 := h1
          omega
    · unfold lo
      apply (loS_le (nst W)).mpr
      refine ⟨(loP_le (npk W)).mpr ⟨by omega, fun p hp hq => ?_⟩, fun s hs h1 h2 => ?_⟩
      · obtain ⟨a1, a2, a3, a4⟩ := hv.pk hp
        rcases tkS_sp (W := W) (q := q) (s := sP W p) (npk W) with ⟨-, -, b3⟩ | ⟨p2, b1, b2, b3, b4, -⟩
        · exact absurd ⟨hq, a1⟩ (b3 p hp)
        · have e := uq p p2 hp b1 hq b2 ((h47 p2 b1 _ a2).mp b3).symm
          subst e
          have := (c1.2 (sP W p) a2).1 (by show tkS W q (sP W p) (npk W) ≠ -1; omega)
          unfold pkT
          rw [b4] at this
          omega
      · rcases tkS_sp (W := W) (q := q) (s := s) (npk W) with ⟨a1, -⟩ | ⟨p, -, -, -, -, a5⟩
        · have := (c1.2 s hs).2 a1 h1
          omega
        · rw [a5] at h2; exact absurd h2 (by decide)
  · apply Int.le_antisymm
    · apply (hiP_ge (npk W)).mpr
      refine ⟨by omega, fun p hp hq => ?_⟩
      obtain ⟨a1, a2, a3, a4⟩ := hv.pk hp
      rcases tkS_sp (W := W) (q := q) (s := sP W p) (npk W) with ⟨-, -, b3⟩ | ⟨p2, b1, b2, b3, b4, -⟩
      · exact absurd ⟨hq, a1⟩ (b3 p hp)
      · have e := uq p p2 hp b1 hq b2 ((h47 p2 b1 _ a2).mp b3).symm
        subst e
        have := (c2.2 (sP W p) a2).1 (by show tkS W q (sP W p) (npk W) ≠ -1; omega)
        unfold pkT
        rw [b4] at this
        omega
    · apply (cHi_ge (nst W)).mpr
      refine ⟨by omega, fun s hs => ⟨fun h1 => ?_, fun h1 h2 => ?_⟩⟩
      · rcases tkS_sp (W := W) (q := q) (s := s) (npk W) with ⟨a1, -⟩ | ⟨p, a1, a2, a3, a4, -⟩
        · exact absurd a1 h1
        · have := u3 p a1 a2
          have e := (h47 p a1 s hs).mp a3
          unfold pkT at this
          rw [e] at this
          show hi W q c ≤ tkS W q s (npk W) + err W - TV W c (cS W s)
          unfold hi at this ⊢
          omega
      · have := TV_b hv.sl.2 hc (hv.st hs).2.1
        omega
theorem VI.uq {V : VV} (h : VI V) {q : Nat} (hq : q < 1000) : ∀ p p2, p < npk V → p2 < npk V → V 50 p = nI q → V 50 p2 = nI q → sP V p = sP V p2 → p = p2 := fun p p2 h1 h2 h3 h4 h5 => h.un h1 h2 (h3.trans h4.symm) (by rw [h3]; exact nI_ne9 (by omega)) h5
def HG (g : Hp) (V : VV) (q : Nat) : Prop := HF g (lo V q) (hi V q) ∧ gI g (1, 0) 2 = nI (ncl V q 144) ∧ gI g (1, 0) 3 = iI (lwF V q 144) ∧ gI g (1, 0) 4 = iI (hgF V q 144)
theorem bd_lo {V : VV} (h : VI V) {q : Nat} (hq : q < nqk V) : Bd (lo V q) (hi V q) := by
  intro c hc
  obtain ⟨e1, e2⟩ := fold_eq h.hv hc (h.uq (q := q) (by have := h.qk.2; omega)) ⟨fP V q, (h.fp hq).1, (h.fp hq).2.2⟩
  have hh : ∀ s, s < nst V → -1 ≤ tkS V q s (npk V) ∧ tkS V q s (npk V) ≤ 100000 := fun s hs => by
    rcases tkS_sp (W := V) (q := q) (s := s) (npk V) with ⟨a1, -⟩ | ⟨p, a1, -, -, a4, -⟩
    · omega
    · have := (h.hv.pk a1).2.2.2
      have := h.hv.no.2
      omega
  have := cLo_b h.hv (hd := fun s => tkS V q s (npk V)) hh hc (nst V) (Nat.le_refl _)
  rw [e1, e2] at this
  omega
theorem tkS_bd {V : VV} (h : HV V) {q : Nat} {s : Nat} : -1 ≤ tkS V q s (npk V) ∧ tkS V q s (npk V) ≤ 100000 := by
  rcases tkS_sp (W := V) (q := q) (s := s) (npk V) with ⟨a1, -⟩ | ⟨p, a1, -, -, a4, -⟩
  · omega
  · have := (h.pk a1).2.2.2
    have := h.no.2
    omega
theorem meas_L {V : VV} (hV : VI V) {q : Nat} (hq : q < nqk V) : ∀ (n v : Nat) (g : Hp), TT g V → HF g (lo V q) (hi V q) → gI g (1, 0) 3 = iI (lwF V q v) → gI g (1, 0) 4 = iI (hgF V q v) → v ≤ 144 → 144 - v < n → ∃ g2, f_X0_measure_15_L z (some (1, 0)) (some (8, 0)) (nI (cS V (sP V (fP V q)))) (nI (sg V (fP V q))) n (nI v) g = some (144, g2) ∧ Ch [1] g g2 ∧ gI g2 (1, 0) 3 = iI (lwF V q 144) ∧ gI g2 (1, 0) 4 = iI (hgF V q 144) ∧ gI g2 (1, 0) 2 = gI g (1, 0) 2
  | 0, v, _, _, _, _, _, _, h2 => absurd h2 (Nat.not_lt_zero _)
  | n + 1, v, g, ht, hF, h3, h4, h1, h2 => by
    show ∃ g2, f_X0_measure_15_b z (some (1, 0)) (some (8, 0)) (nI (cS V (sP V (fP V q)))) (nI (sg V (fP V q))) (f_X0_measure_15_L z (some (1, 0)) (some (8, 0)) (nI (cS V (sP V (fP V q)))) (nI (sg V (fP V q))) n) (nI v) g = _ ∧ _
    unfold f_X0_measure_15_b
    rw [show (144 : Int32) = nI 144 from rfl]
    by_cases he : 144 ≤ v
    · have e : v = 144 := by omega
      rw [if_pos ((nI_leI (by omega) (by omega)).mpr he)]
      subst e
      exact ⟨g, rfl, Ch.rf _ _, h3, h4, rfl⟩
    · have hv : v < 144 := by omega
      obtain ⟨p1, p2, p3⟩ := hV.fp hq
      obtain ⟨a1, a2, -⟩ := hV.hv.pk p1
      have hcs := (hV.hv.st a2).2.1
      obtain ⟨s1, s2, s3⟩ := szF_b hV hq hv
      obtain ⟨l1, l2, l3, -, l5, l6, l7⟩ := lwF_b hV hq v (by omega)
      rw [if_neg (fun w => he ((nI_leI (by omega) (by omega)).mp w)), ick_X, hs8 ht.1 hF (bd_lo hV hq) hv]
      simp only [Option.bind_some]
      by_cases hh : lo V q v ≤ hi V q v
      · rw [if_pos hh, if_neg (by decide), ick_X, between8 ht hv hcs]
        simp only [Option.bind_some, nI_1, pk_mul]
        rw [bits8 s3]
        have ez : bl (sg V (fP V q) * (tv (slo V) v (cS V (sP V (fP V q))) + 1)) = szF V q v := rfl
        simp only [Option.bind_some, ez, gI_X, pI_X, h3]
        have e1 : lwF V q (v + 1) = if lwF V q v < 0 ∨ (szF V q v : Int) < lwF V q v then (szF V q v : Int) else lwF V q v := by conv => lhs; unfold lwF; rw [if_pos hh]
        have e2 : hgF V q (v + 1) = if hgF V q v < 0 ∨ hgF V q v < (szF V q v : Int) then (szF V q v : Int) else hgF V q v := by conv => lhs; unfold hgF; rw [if_pos hh]
        have hstep : ∃ ga, (if iI (lwF V q v) = -9 then some (setI g (1, 0) 3 (nI (szF V q v))) else if iI (lwF V q v) ≤ nI (szF V q v) then some g else some (setI g (1, 0) 3 (nI (szF V q v)))) = some ga ∧ Ch [1] g ga ∧ gI ga (1, 0) 3 = iI (lwF V q (v + 1)) ∧ gI ga (1, 0) 4 = iI (hgF V q v) ∧ gI ga (1, 0) 2 = gI g (1, 0) 2 := by
          have hset : Ch [1] g (setI g (1, 0) 3 (nI (szF V q v))) ∧ gI (setI g (1, 0) 3 (nI (szF V q v))) (1, 0) 3 = iI (szF V q v) ∧ gI (setI g (1, 0) 3 (nI (szF V q v))) (1, 0) 4 = iI (hgF V q v) ∧ gI (setI g (1, 0) 3 (nI (szF V q v))) (1, 0) 2 = gI g (1, 0) 2 := ⟨Ch.set (by decide), by rw [gI_set, if_pos ⟨rfl, rfl⟩, nI_iI], by rw [gI_set, if_neg (by simp)]; exact h4, by rw [gI_set, if_neg (by simp)]⟩
          by_cases c1 : lwF V q v < 0
          · rw [l3 c1, if_pos (by decide), e1, if_pos (Or.inl c1)]
            exact ⟨_, rfl, hset⟩
          · rw [if_neg (fun w => by have := (iI_eq (y := -9) (by omega) (by omega) (by omega) (by omega)).mp (w.trans (by decide)); omega)]
            by_cases c2 : (szF V q v : Int) < lwF V q v
            · rw [if_neg (fun w => by rw [nI_iI] at w; have := (iI_le (by omega) (by omega) (by omega) (by omega)).mp w; omega), e1, if_pos (Or.inr c2)]
              exact ⟨_, rfl, hset⟩
            · rw [if_pos (by rw [nI_iI]; exact (iI_le (by omega) (by omega) (by omega) (by omega)).mpr (by omega)), e1, if_neg (by omega)]
              exact ⟨_, rfl, Ch.rf _ _, h3, h4, rfl⟩
        obtain ⟨ga, b1, b2, b3, b4, b5⟩ := hstep
        rw [b1]
        simp only [Option.bind_some, gI_X, pI_X, b4]
        have hta : TT ga V := ⟨b2.b1 ht.1, ht.2.1, fun k hk => by rw [b2.i (by decide)]; exact ht.2.2 k hk⟩
        have hFa : HF ga (lo V q) (hi V q) := fun c hc => by rw [b2.i (by decide), b2.i (by decide)]; exact hF c hc
        by_cases c3 : (szF V q v : Int) ≤ hgF V q v
        · rw [if_pos (by rw [nI_iI]; exact (iI_le (by omega) (by omega) (by omega) (by omega)).mpr c3)]
          obtain ⟨g2, k1, k2, k3, k4, k5⟩ := meas_L hV hq n (v + 1) ga hta hFa b3 (by rw [b4, e2, if_neg (by omega)]) (by omega) (by omega)
          exact ⟨g2, k1, b2.tr k2, k3, k4, k5.trans b5⟩
        · rw [if_neg (fun w => by rw [nI_iI] at w; have := (iI_le (by omega) (by omega) (by omega) (by omega)).mp w; omega)]
          have hc2 : Ch [1] ga (setI ga (1, 0) 4 (nI (szF V q v))) := Ch.set (by decide)
          obtain ⟨g2, k1, k2, k3, k4, k5⟩ := meas_L hV hq n (v + 1) (setI ga (1, 0) 4 (nI (szF V q v))) ⟨hc2.b1 hta.1, ht.2.1, fun k hk => by rw [hc2.i (by decide)]; exact hta.2.2 k hk⟩ (fun c hc => by rw [hc2.i (by decide), hc2.i (by decide)]; exact hFa c hc) (by rw [gI_set, if_neg (by simp)]; exact b3) (by rw [gI_set, if_pos ⟨rfl, rfl⟩, e2, if_pos (by omega), nI_iI]) (by omega) (by omega)
          exact ⟨g2, k1, b2.tr (hc2.tr k2), k3, k4, by rw [k5, gI_set, if_neg (by simp), b5]⟩
      · rw [if_neg hh, if_pos rfl, nI_1]
        have e1 : lwF V q (v + 1) = lwF V q v := by conv => lhs; unfold lwF; rw [if_neg hh]
        have e2 : hgF V q (v + 1) = hgF V q v := by conv => lhs; unfold hgF; rw [if_neg hh]
        exact meas_L hV hq n (v + 1) g ht hF (by rw [h3, e1]) (by rw [h4, e2]) (by omega) (by omega)
theorem ccF_e {A B A2 B2 : Nat → Int} : ∀ n, (∀ c, c < n → A c = A2 c ∧ B c = B2 c) → ccF A B n = ccF A2 B2 n
  | 0, _ => rfl
  | n + 1, h => by unfold ccF; rw [ccF_e n (fun c hc => h c (by omega)), (h n (by omega)).1, (h n (by omega)).2]
theorem ccF_ncl {V : VV} {q : Nat} : ∀ n, ccF (lo V q) (hi V q) n = ncl V q n
  | 0 => rfl
  | n + 1 => by unfold ccF ncl; rw [ccF_ncl n]
theorem heapOf8 (hz : 2000 ≤ z) {g : Hp} {V : VV} (h : IN g V) {q : Nat} (hq : q < nqk V) : ∃ g2, f_X8_heapOf z (some (9, 0)) (nI q) g = some (some (1, 0), g2) ∧ Ch [1, 21, 22] g g2 ∧ IN g2 V ∧ HG g2 V q := by
  have hq5 := h.v.qk.2
  unfold f_X8_heapOf
  simp only [gr_C h.b1, cRef, Option.bind_some, gI_X]
  by_cases hc : gI g (1, 0) 5 = nI q
  · rw [if_pos hc]
    refine ⟨g, rfl, Ch.rf _ _, h, ?_⟩
    rcases h.h with w | ⟨q2, b1, b2, b3, b4, b5, b6⟩
    · rw [w] at hc; exact absurd hc.symm (nI_ne9 (by omega))
    · have : q2 = q := nI_inj2 (b2.symm.trans hc) (by omega) (by omega)
      subst this
      exact ⟨b3, b4, b5, b6⟩
  · rw [if_neg hc]
    have hst : ∀ s, s < nst V → -1 ≤ tkS V q s (npk V) ∧ tkS V q s (npk V) ≤ 100000 ∧ (if nI s = -9 then (-1 : Int32) else gI g (26, q) s) = iI (tkS V q s (npk V)) := fun s hs => by
      have ns := h.v.hv.ns.2
      refine ⟨(tkS_bd h.v.hv).1, (tkS_bd h.v.hv).2, ?_⟩
      rw [if_neg (nI_ne9 (by omega))]
      exact h.qt hq (by omega)
    obtain ⟨g1, a1, a2, a3, a4, a5⟩ := fill8 hz h (m := -9) (t := -1) (hd := fun s => tkS V q s (npk V)) hq hst
    have h1 := h.scr a2 a3
    have hfe := fun c (hc : c < 144) => fold_eq h.v.hv hc (h.v.uq (q := q) (by omega)) ⟨fP V q, (h.v.fp hq).1, (h.v.fp hq).2.2⟩
    have hF1 : HF g1 (lo V q) (hi V q) := fun c hc => by
      have := a4 c hc
      rw [← (hfe c hc).1, ← (hfe c hc).2]; exact this
    have hn1 : gI g1 (1, 0) 2 = nI (ncl V q 144) := by
      rw [a5, ← ccF_ncl, ccF_e 144 (fun c hc => hfe c hc)]
    obtain ⟨p1, p2, p3⟩ := h.v.fp hq
    obtain ⟨w1, w2, w3, w4⟩ := h.v.hv.pk p1
    simp only [ick_X, getQ h hq, ckc_X, Option.bind_some, a1, gr_C h1.b1, cRef, gI_X, h1.q0 hq, h1.q1 hq, getS h1 w2, h1.s0 w2, (h.v.hv.st w2).1, f_X0_measure, pI_X]
    have hcA : Ch [1] g1 (setI (setI g1 (1, 0) 3 (-9)) (1, 0) 4 (-9)) := (Ch.set (by decide)).tr (Ch.set (by decide))
    obtain ⟨g2, m1, m2, m3, m4, m5⟩ := meas_L (z := z) h.v hq z 0 (setI (setI g1 (1, 0) 3 (-9)) (1, 0) 4 (-9)) ⟨hcA.b1 h1.b1, h.v.hv.sl.2, fun k hk => by rw [hcA.i (by decide)]; exact h1.tr hk⟩ (fun c hc => by rw [hcA.i (by decide), hcA.i (by decide)]; exact hF1 c hc) (by rw [gI_set, if_neg (by simp), gI_set, if_pos ⟨rfl, rfl⟩]; exact (by decide : (-9 : Int32) = iI (-9))) (by rw [gI_set, if_pos ⟨rfl, rfl⟩]; exact (by decide : (-9 : Int32) = iI (-9))) (by omega) (by omega)
    rw [show (0 : Int32) = nI 0 from rfl, m1]
    have hcB : Ch [1] g1 g2 := hcA.tr m2
    have hcC : Ch [1] g1 (setI g2 (1, 0) 5 (nI q)) := hcB.tr (Ch.set (by decide))
    simp only [Option.bind_some, gr_C (hcB.b1 h1.b1), gr_C (hcC.b1 h1.b1), cRef]
    have hcD : Ch [1, 21, 22] g (setI g2 (1, 0) 5 (nI q)) := a2.tr (hcC.sub (by decide))
    have hG : HG (setI g2 (1, 0) 5 (nI q)) V q := by
      refine ⟨fun c hc => ?_, ?_, ?_, ?_⟩
      · rw [hcC.i (by decide), hcC.i (by decide)]; exact hF1 c hc
      · rw [gI_set, if_neg (by simp), m5, gI_set, if_neg (by simp), gI_set, if_neg (by simp)]; exact hn1
      · rw [gI_set, if_neg (by simp)]; exact m3
      · rw [gI_set, if_neg (by simp)]; exact m4
    refine ⟨setI g2 (1, 0) 5 (nI q), ?_, hcD, ?_, hG⟩
    · rw [pI_X]
      simp only [Option.bind_some]
      rw [gr_C (hcC.b1 h1.b1)]
      rfl
    have := h.upd (C := [1, 21, 22]) (D := []) (E := []) (V2 := V) hcD (Ev.rf _ _ _) (by decide) (by decide) h.v (fun n k v _ hn hk => by
      have := cI_cls hk
      simp only [List.mem_cons, List.not_mem_nil, or_false] at hn
      rcases hn with e | e | e <;> rw [e] at this <;> exact absurd this (by decide)) (Or.inr ⟨q, hq, by rw [gI_set, if_pos ⟨rfl, rfl⟩], hG.1, hG.2.1, hG.2.2.1, hG.2.2.2⟩) h.vf
    exact this.unw
end HOF
