/-! pick: tables that agree on the picks there are -/
theorem hrd_w {V V2 : VV} {q s : Nat} : ∀ n, (∀ p, p < n → V2 47 p = V 47 p ∧ V2 50 p = V 50 p) → hrd V2 q s n = hrd V q s n
  | 0, _ => rfl
  | n + 1, h => by unfold hrd; rw [hrd_w n (fun p hp => h p (by omega)), (h n (by omega)).1, (h n (by omega)).2]
theorem tkS_w {V V2 : VV} {q s : Nat} : ∀ n, (∀ p, p < n → V2 47 p = V 47 p ∧ V2 48 p = V 48 p ∧ V2 50 p = V 50 p) → tkS V2 q s n = tkS V q s n
  | 0, _ => rfl
  | n + 1, h => by
    obtain ⟨h1, h2, h3⟩ := h n (by omega)
    unfold tkS tk
    rw [tkS_w n (fun p hp => h p (by omega)), h1, h2, h3]
theorem cntF_w {V V2 : VV} {q : Nat} : ∀ n, (∀ p, p < n → V2 50 p = V 50 p) → cntF V2 q n = cntF V q n
  | 0, _ => rfl
  | n + 1, h => by unfold cntF; rw [cntF_w n (fun p hp => h p (by omega)), h n (by omega)]
theorem loP_w {V V2 : VV} {q c : Nat} (he : err V2 = err V) : ∀ n, (∀ p, p < n → V2 50 p = V 50 p ∧ pkT V2 p c = pkT V p c) → loP V2 q c n = loP V q c n ∧ hiP V2 q c n = hiP V q c n
  | 0, _ => ⟨rfl, rfl⟩
  | n + 1, h => by
    obtain ⟨h1, h2⟩ := h n (by omega)
    obtain ⟨i1, i2⟩ := loP_w (q := q) he n (fun p hp => h p (by omega))
    unfold loP hiP
    rw [i1, i2, h1, h2, he]
    exact ⟨rfl, rfl⟩
theorem cLo_w {V V2 : VV} {hd : Nat → Int} {c : Nat} (e60 : V2 60 = V 60) (e41 : V2 41 = V 41) (en : nw V2 = nw V) (ee : err V2 = err V) (es : slo V2 = slo V) : ∀ n, cLo V2 hd c n = cLo V hd c n ∧ cHi V2 hd c n = cHi V hd c n
  | 0 => ⟨rfl, rfl⟩
  | n + 1 => by
    obtain ⟨i1, i2⟩ := cLo_w (hd := hd) (c := c) e60 e41 en ee es n
    unfold cLo cHi TV cS
    rw [i1, i2, e60, e41, en, ee, es]
    exact ⟨rfl, rfl⟩
def EqW (V V2 : VV) : Prop := (∀ c, c ∈ [41, 60] → V2 c = V c) ∧ (∀ k, k ∈ [3, 4, 5, 6, 15] → V2 10 k = V 10 k) ∧ ∀ p, p < npk V → V2 47 p = V 47 p ∧ V2 48 p = V 48 p ∧ V2 50 p = V 50 p
section EQW
variable {V V2 : VV}
theorem EqW.ns (h : EqW V V2) : nst V2 = nst V := nst_e (h.2.1 6 (by decide))
theorem EqW.np (h : EqW V V2) : npk V2 = npk V := npk_e (h.2.1 15 (by decide))
theorem EqW.sl (h : EqW V V2) : slo V2 = slo V := by unfold slo; rw [h.2.1 3 (by decide)]
theorem EqW.er (h : EqW V V2) : err V2 = err V := by unfold err; rw [h.2.1 4 (by decide)]
theorem EqW.no (h : EqW V V2) : nw V2 = nw V := by unfold nw; rw [h.2.1 5 (by decide)]
theorem EqW.cS_ (h : EqW V V2) {s : Nat} : cS V2 s = cS V s := by unfold cS; rw [h.1 41 (by decide)]
theorem EqW.TV_ (h : EqW V V2) {c d : Nat} : TV V2 c d = TV V c d := by unfold TV; rw [h.sl]
theorem EqW.pkT_ (h : EqW V V2) {p c : Nat} (hp : p < npk V) : pkT V2 p c = pkT V p c := by
  obtain ⟨h1, h2, h3⟩ := h.2.2 p hp
  unfold pkT tk sP
  rw [h.TV_, h.cS_, h1, h2]
theorem EqW.hrd_ (h : EqW V V2) {q s : Nat} : hrd V2 q s (npk V) = hrd V q s (npk V) := hrd_w _ (fun p hp => ⟨(h.2.2 p hp).1, (h.2.2 p hp).2.2⟩)
theorem EqW.loP_ (h : EqW V V2) {q c : Nat} : loP V2 q c (npk V) = loP V q c (npk V) ∧ hiP V2 q c (npk V) = hiP V q c (npk V) := loP_w h.er _ (fun p hp => ⟨(h.2.2 p hp).2.2, h.pkT_ hp⟩)
theorem EqW.loS_ (h : EqW V V2) {q c : Nat} : ∀ s, loS V2 q c s = loS V q c s
  | 0 => by unfold loS; rw [h.np, h.loP_.1]
  | s + 1 => by unfold loS; rw [EqW.loS_ h s, h.1 60 (by decide), h.np, h.hrd_, h.no, h.TV_, h.cS_, h.er]
theorem EqW.lo_ (h : EqW V V2) {q c : Nat} : lo V2 q c = lo V q c := by unfold lo; rw [h.ns, h.loS_]
theorem EqW.hi_ (h : EqW V V2) {q c : Nat} : hi V2 q c = hi V q c := by unfold hi; rw [h.np, h.loP_.2]
theorem EqW.ncl_ (h : EqW V V2) {q : Nat} : ∀ c, ncl V2 q c = ncl V q c
  | 0 => rfl
  | c + 1 => by unfold ncl; rw [EqW.ncl_ h c, h.lo_, h.hi_]
theorem lwF_w {q : Nat} (hl : ∀ c, lo V2 q c = lo V q c ∧ hi V2 q c = hi V q c) (hs : ∀ c, szF V2 q c = szF V q c) : ∀ n, lwF V2 q n = lwF V q n ∧ hgF V2 q n = hgF V q n
  | 0 => ⟨rfl, rfl⟩
  | n + 1 => by
    obtain ⟨i1, i2⟩ := lwF_w hl hs n
    unfold lwF hgF
    rw [i1, i2, (hl n).1, (hl n).2, hs n]
    exact ⟨rfl, rfl⟩
theorem EqW.hv (h : EqW V V2) (hv : HV V) : HV V2 := by
  refine ⟨?_, ?_, ?_, ?_, ?_, fun s hs => ?_, fun p hp => ?_⟩
  · rw [h.ns, h.2.1 6 (by decide)]; exact hv.ns
  · rw [h.np, h.2.1 15 (by decide)]; exact hv.np
  · rw [h.sl, h.2.1 3 (by decide)]; exact hv.sl
  · rw [h.er, h.2.1 4 (by decide)]; exact hv.er
  · rw [h.no, h.2.1 5 (by decide)]; exact hv.no
  · rw [h.ns] at hs
    rw [h.cS_, h.1 41 (by decide), h.1 60 (by decide)]; exact hv.st hs
  · rw [h.np] at hp
    obtain ⟨h1, h2, h3⟩ := h.2.2 p hp
    have e1 : sP V2 p = sP V p := by unfold sP; rw [h1]
    have e2 : tk V2 p = tk V p := by unfold tk; rw [h2]
    rw [e1, e2, h1, h2, h.ns, h.no]; exact hv.pk hp
end EQW
/-- a pick more -/
def apV (V : VV) (s t : Nat) (c qv : Int32) : VV := vs (vs (vs (vs (vs V 47 (npk V) (nI s)) 48 (npk V) (nI t)) 49 (npk V) c) 50 (npk V) qv) 10 15 (nI (npk V + 1))
section APV
variable {V : VV} {s t : Nat} {c qv : Int32}
theorem ap_ev : Ev [47, 48, 49, 50] [15] V (apV V s t c qv) := (((((Ev.rf _ _ V).s (by decide) (by decide)).s (by decide) (by decide)).s (by decide) (by decide)).s (by decide) (by decide)).t (by decide)
theorem ap_15 : apV V s t c qv 10 15 = nI (npk V + 1) := vs_eq
theorem ap_np (hp : npk V < 60) : npk (apV V s t c qv) = npk V + 1 := by
  show (apV V s t c qv 10 15).toNatClampNeg = _
  rw [ap_15]; exact nI_cl (by omega)
theorem ap_ns : nst (apV V s t c qv) = nst V := nst_e (ap_ev.2 6 (by decide))
theorem ap_nt : ntw (apV V s t c qv) = ntw V := ntw_e (ap_ev.2 9 (by decide))
theorem ap_nq : nqk (apV V s t c qv) = nqk V := nqk_e (ap_ev.2 20 (by decide))
theorem ap_nm : nms (apV V s t c qv) = nms V := nms_e (ap_ev.2 24 (by decide))
theorem ap_sl : slo (apV V s t c qv) = slo V := by unfold slo; rw [ap_ev.2 3 (by decide)]
theorem ap_er : err (apV V s t c qv) = err V := by unfold err; rw [ap_ev.2 4 (by decide)]
theorem ap_no : nw (apV V s t c qv) = nw V := by unfold nw; rw [ap_ev.2 5 (by decide)]
theorem ap_lt {p : Nat} (hp : p ≠ npk V) : apV V s t c qv 47 p = V 47 p ∧ apV V s t c qv 48 p = V 48 p ∧ apV V s t c qv 49 p = V 49 p ∧ apV V s t c qv 50 p = V 50 p := by
  simp [apV, vs, hp]
theorem ap_at : apV V s t c qv 47 (npk V) = nI s ∧ apV V s t c qv 48 (npk V) = nI t ∧ apV V s t c qv 49 (npk V) = c ∧ apV V s t c qv 50 (npk V) = qv := by
  simp [apV, vs]
theorem ap_TV {a b : Nat} : TV (apV V s t c qv) a b = TV V a b := by unfold TV; rw [ap_sl]
theorem ap_cS {i : Nat} : cS (apV V s t c qv) i = cS V i := by unfold cS; rw [ap_ev.1 41 (by decide) (by decide)]
theorem ap_pkT {p k : Nat} (hp : p ≠ npk V) : pkT (apV V s t c qv) p k = pkT V p k := by
  obtain ⟨h1, h2, h3, h4⟩ := ap_lt (V := V) (s := s) (t := t) (c := c) (qv := qv) hp
  unfold pkT tk sP
  rw [ap_TV, ap_cS, h1, h2]
theorem ap_sP {p : Nat} (hp : p ≠ npk V) : sP (apV V s t c qv) p = sP V p := by unfold sP; rw [(ap_lt hp).1]
theorem ap_tk {p : Nat} (hp : p ≠ npk V) : tk (apV V s t c qv) p = tk V p := by unfold tk; rw [(ap_lt hp).2.1]
theorem ap_sg {p : Nat} (hp : p ≠ npk V) : sg (apV V s t c qv) p = sg V p := by unfold sg; rw [(ap_lt hp).2.2.1]
theorem ap_sPa (hs : s < 100) : sP (apV V s t c qv) (npk V) = s := by unfold sP; rw [ap_at.1]; exact nI_cl (by omega)
theorem ap_tka (ht : t ≤ 100000) : tk (apV V s t c qv) (npk V) = t := by unfold tk; rw [ap_at.2.1]; exact nI_cl (by omega)
theorem ap_hv (h : HV V) (hs : s < nst V) (ht : t ≤ nw V) (hp : npk V < 60) : HV (apV V s t c qv) := by
  have h10 := h.ns.2
  have hno := h.no.2
  refine ⟨?_, ?_, ?_, ?_, ?_, fun i hi => ?_, fun p hq => ?_⟩
  · rw [ap_ns, ap_ev.2 6 (by decide)]; exact h.ns
  · rw [ap_np hp, ap_15]; exact ⟨rfl, by omega⟩
  · rw [ap_sl, ap_ev.2 3 (by decide)]; exact h.sl
  · rw [ap_er, ap_ev.2 4 (by decide)]; exact h.er
  · rw [ap_no, ap_ev.2 5 (by decide)]; exact h.no
  · rw [ap_ns] at hi
    rw [ap_cS, ap_ev.1 41 (by decide) (by decide), ap_ev.1 60 (by decide) (by decide)]; exact h.st hi
  · rw [ap_np hp] at hq
    rw [ap_ns, ap_no]
    by_cases e : p = npk V
    · subst e
      rw [ap_sPa (by omega), ap_tka (by omega), ap_at.1, ap_at.2.1]
      exact ⟨rfl, hs, rfl, ht⟩
    · rw [ap_sP e, ap_tk e, (ap_lt e).1, (ap_lt e).2.1]
      exact h.pk (by omega)
/-- a quake that the pick isn't of keeps its heap -/
theorem ap_hrd {q i : Nat} (hq : qv ≠ nI q) : hrd (apV V s t c qv) q i (npk V + 1) = hrd V q i (npk V) := by
  have e : hrd (apV V s t c qv) q i (npk V) = hrd V q i (npk V) := hrd_w _ (fun p hp => ⟨(ap_lt (by omega)).1, (ap_lt (by omega)).2.2.2⟩)
  show (hrd (apV V s t c qv) q i (npk V) || _) = _
  rw [e, ap_at.2.2.2]
  simp [hq]
theorem ap_tkS {q i : Nat} (hq : qv ≠ nI q ∨ nI s ≠ nI i) : tkS (apV V s t c qv) q i (npk V + 1) = tkS V q i (npk V) := by
  have e : tkS (apV V s t c qv) q i (npk V) = tkS V q i (npk V) := tkS_w _ (fun p hp => ⟨(ap_lt (by omega)).1, (ap_lt (by omega)).2.1, (ap_lt (by omega)).2.2.2⟩)
  conv => lhs; unfold tkS
  rw [ap_at.1, ap_at.2.2.2, if_neg (fun w => hq.elim (fun a => a w.1) (fun a => a w.2)), e]
theorem ap_tkSa {q : Nat} (ht : t ≤ 100000) (hq : qv = nI q) : tkS (apV V s t c qv) q s (npk V + 1) = t := by
  unfold tkS
  rw [ap_at.1, ap_at.2.2.2, if_pos ⟨hq, rfl⟩, ap_tka ht]
theorem ap_cnt {q : Nat} (hq : qv ≠ nI q) : cntF (apV V s t c qv) q (npk V + 1) = cntF V q (npk V) := by
  have e : cntF (apV V s t c qv) q (npk V) = cntF V q (npk V) := cntF_w _ (fun p hp => (ap_lt (by omega)).2.2.2)
  conv => lhs; unfold cntF
  rw [ap_at.2.2.2, if_neg hq, e]
theorem ap_cnta {q : Nat} (hq : qv = nI q) : cntF (apV V s t c qv) q (npk V + 1) = cntF V q (npk V) + 1 := by
  have e : cntF (apV V s t c qv) q (npk V) = cntF V q (npk V) := cntF_w _ (fun p hp => (ap_lt (by omega)).2.2.2)
  conv => lhs; unfold cntF
  rw [ap_at.2.2.2, if_pos hq, e]
theorem ap_loP {q k : Nat} (hq : qv ≠ nI q) : loP (apV V s t c qv) q k (npk V + 1) = loP V q k (npk V) ∧ hiP (apV V s t c qv) q k (npk V + 1) = hiP V q k (npk V) := by
  obtain ⟨e1, e2⟩ := loP_w (V := V) (V2 := apV V s t c qv) (q := q) (c := k) ap_er (npk V) (fun p hp => ⟨(ap_lt (by omega)).2.2.2, ap_pkT (by omega)⟩)
  constructor
  · conv => lhs; unfold loP
    rw [ap_at.2.2.2, if_neg hq, e1]
  · conv => lhs; unfold hiP
    rw [ap_at.2.2.2, if_neg hq, e2]
theorem ap_loS (hp : npk V < 60) {q k : Nat} (hq : qv ≠ nI q) : ∀ n, loS (apV V s t c qv) q k n = loS V q k n
  | 0 => by unfold loS; rw [ap_np hp, (ap_loP hq).1]
  | n + 1 => by unfold loS; rw [ap_loS hp hq n, ap_ev.1 60 (by decide) (by decide), ap_np hp, ap_hrd hq, ap_no, ap_TV, ap_cS, ap_er]
theorem ap_lo (hp : npk V < 60) {q k : Nat} (hq : qv ≠ nI q) : lo (apV V s t c qv) q k = lo V q k ∧ hi (apV V s t c qv) q k = hi V q k := by
  unfold lo hi
  rw [ap_ns, ap_loS hp hq, ap_np hp, (ap_loP hq).2]
  exact ⟨rfl, rfl⟩
theorem ap_ncl (hp : npk V < 60) {q : Nat} (hq : qv ≠ nI q) : ∀ n, ncl (apV V s t c qv) q n = ncl V q n
  | 0 => rfl
  | n + 1 => by unfold ncl; rw [ap_ncl hp hq n, (ap_lo hp hq).1, (ap_lo hp hq).2]
theorem ap_fP {q : Nat} : fP (apV V s t c qv) q = fP V q := by unfold fP; rw [ap_ev.1 51 (by decide) (by decide)]
theorem ap_szF {q k : Nat} (hf : fP V q < npk V) : szF (apV V s t c qv) q k = szF V q k := by
  unfold szF
  rw [ap_fP, ap_sl, ap_cS, ap_sg (by omega), ap_sP (by omega)]
theorem ap_lwF (hp : npk V < 60) {q : Nat} (hq : qv ≠ nI q) (hf : fP V q < npk V) (n : Nat) : lwF (apV V s t c qv) q n = lwF V q n ∧ hgF (apV V s t c qv) q n = hgF V q n := lwF_w (fun _ => ap_lo hp hq) (fun _ => ap_szF hf) n
end APV
/-- a quake more -/
def opV (V : VV) : VV := vs (vs V 51 (nqk V) (nI (npk V))) 10 20 (nI (nqk V + 1))
section OPV
variable {V : VV}
theorem op_ev : Ev [51] [20] V (opV V) := ((Ev.rf _ _ V).s (by decide) (by decide)).t (by decide)
theorem op_w : EqW V (opV V) := ⟨fun c hc => op_ev.1 c (by simp at hc; omega) (by simp at hc ⊢; omega), fun k hk => op_ev.2 k (by simp at hk ⊢; omega), fun p _ => ⟨by rw [op_ev.1 47 (by decide) (by decide)], by rw [op_ev.1 48 (by decide) (by decide)], by rw [op_ev.1 50 (by decide) (by decide)]⟩⟩
theorem op_20 : opV V 10 20 = nI (nqk V + 1) := vs_eq
theorem op_nq (h : nqk V < 1000) : nqk (opV V) = nqk V + 1 := by
  show (opV V 10 20).toNatClampNeg = _
  rw [op_20]; exact nI_cl (by omega)
theorem op_51 {q : Nat} (h : q ≠ nqk V) : opV V 51 q = V 51 q := by simp [opV, vs, h]
theorem op_51a : opV V 51 (nqk V) = nI (npk V) := by simp [opV, vs]
theorem op_fP {q : Nat} (h : q ≠ nqk V) : fP (opV V) q = fP V q := by unfold fP; rw [op_51 h]
theorem op_szF {q c : Nat} (h : q ≠ nqk V) : szF (opV V) q c = szF V q c := by
  unfold szF sg sP
  rw [op_fP h, op_w.sl, op_w.cS_, op_ev.1 49 (by decide) (by decide), op_ev.1 47 (by decide) (by decide)]
theorem op_lwF {q : Nat} (h : q ≠ nqk V) (n : Nat) : lwF (opV V) q n = lwF V q n ∧ hgF (opV V) q n = hgF V q n := lwF_w (fun _ => ⟨op_w.lo_, op_w.hi_⟩) (fun _ => op_szF h) n
end OPV
