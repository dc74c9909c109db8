/-! what a change of the table leaves -/
def Ev (D E : List Nat) (V V2 : VV) : Prop := (∀ c, c ≠ 10 → c ∉ D → V2 c = V c) ∧ ∀ k, k ∉ E → V2 10 k = V 10 k
theorem Ev.rf (D E : List Nat) (V : VV) : Ev D E V V := ⟨fun _ _ _ => rfl, fun _ _ => rfl⟩
theorem Ev.tr {D E : List Nat} {a b d : VV} (h : Ev D E a b) (h2 : Ev D E b d) : Ev D E a d := ⟨fun c h3 h4 => (h2.1 c h3 h4).trans (h.1 c h3 h4), fun k h3 => (h2.2 k h3).trans (h.2 k h3)⟩
theorem Ev.s {D E : List Nat} {a b : VV} (h : Ev D E a b) {c k : Nat} {v : Int32} (hc : c ∈ D) (h0 : c ≠ 10) : Ev D E a (vs b c k v) := h.tr ⟨fun c2 _ h2 => vs_ne (fun e => h2 (e ▸ hc)), fun k2 _ => by rw [vs_ne (fun e => h0 e.symm)]⟩
theorem Ev.t {D E : List Nat} {a b : VV} (h : Ev D E a b) {k : Nat} {v : Int32} (hc : k ∈ E) : Ev D E a (vs b 10 k v) := h.tr ⟨fun c2 h1 _ => vs_ne h1, fun k2 h2 => vs_nk (fun e => h2 (e ▸ hc))⟩
theorem Ev.q {a b : VV} (h : EqR a b) : Ev [52, 53] [] a b := ⟨fun c _ h2 => h c (fun e => h2 (by simp [e])) (fun e => h2 (by simp [e])), fun k _ => by rw [h 10 (by decide) (by decide)]⟩
theorem Ev.sub {D E D2 E2 : List Nat} {a b : VV} (h : Ev D E a b) (h1 : ∀ x, x ∈ D → x ∈ D2) (h2 : ∀ x, x ∈ E → x ∈ E2) : Ev D2 E2 a b := ⟨fun c h3 h4 => h.1 c h3 (fun q => h4 (h1 c q)), fun k h3 => h.2 k (fun q => h3 (h2 k q))⟩
def nR : Nat → List Nat
  | 2 => [54]
  | 3 => [47, 48, 49, 50, 51]
  | 4 => [47, 49, 50, 51]
  | 5 => [43]
  | 6 => [41, 60]
  | 7 => [42]
  | 23 => [45]
  | 24 => [40]
  | 25 => [44]
  | 26 => [47, 48, 50]
  | 27 => [55]
  | 28 => [55]
  | _ => []
def nE : Nat → List Nat
  | 0 => [6, 9, 15, 20, 24]
  | 2 => [24]
  | 3 => [15]
  | 4 => [20, 15]
  | 5 => [6]
  | 6 => [6]
  | 7 => [9]
  | 9 => [0, 5, 4, 24, 2]
  | 20 => [3]
  | 25 => [6]
  | 26 => [20, 15]
  | 27 => [20]
  | 28 => [20]
  | _ => []
def dj (A B : List Nat) : Bool := A.all (fun x => !B.contains x)
theorem dj_x {A B : List Nat} (h : dj A B = true) {x : Nat} (hx : x ∈ A) : x ∉ B := by
  have := List.all_eq_true.mp h x hx
  simpa using this
def depOk (C D E : List Nat) : Bool := [0, 2, 3, 4, 5, 6, 7, 9, 20, 23, 24, 25, 26, 27, 28].all (fun c => C.contains c || (dj (nR c) D && dj (nE c) E))
theorem depOk_x {C D E : List Nat} (h : depOk C D E = true) {c : Nat} (hc : c ∈ [0, 2, 3, 4, 5, 6, 7, 9, 20, 23, 24, 25, 26, 27, 28]) (hn : c ∉ C) : dj (nR c) D = true ∧ dj (nE c) E = true := by
  have := List.all_eq_true.mp h c hc
  simp [hn] at this
  exact this
theorem nst_e {V V2 : VV} (h : V2 10 6 = V 10 6) : nst V2 = nst V := by unfold nst; rw [h]
theorem ntw_e {V V2 : VV} (h : V2 10 9 = V 10 9) : ntw V2 = ntw V := by unfold ntw; rw [h]
theorem npk_e {V V2 : VV} (h : V2 10 15 = V 10 15) : npk V2 = npk V := by unfold npk; rw [h]
theorem nqk_e {V V2 : VV} (h : V2 10 20 = V 10 20) : nqk V2 = nqk V := by unfold nqk; rw [h]
theorem nms_e {V V2 : VV} (h : V2 10 24 = V 10 24) : nms V2 = nms V := by unfold nms; rw [h]
theorem kp_e {V V2 : VV} (h : V2 10 24 = V 10 24) : kp V2 = kp V := by unfold kp; rw [nms_e h]
theorem tkS_e {V V2 : VV} {q s : Nat} (h1 : V2 50 = V 50) (h2 : V2 47 = V 47) (h3 : V2 48 = V 48) : ∀ p, tkS V2 q s p = tkS V q s p
  | 0 => rfl
  | p + 1 => by unfold tkS tk; rw [h1, h2, h3, tkS_e h1 h2 h3 p]
theorem cntF_e {V V2 : VV} {q : Nat} (h1 : V2 50 = V 50) : ∀ p, cntF V2 q p = cntF V q p
  | 0 => rfl
  | p + 1 => by unfold cntF; rw [h1, cntF_e h1 p]
theorem cI_ev {C D E : List Nat} {V V2 : VV} (h : Ev D E V V2) (hd : depOk C D E = true) {n : Nm} (hn : n.1 ∉ C) (k : Nat) : cI V2 n k = cI V n k := by
  have hr : ∀ c r, n.1 = c → c ∈ [0, 2, 3, 4, 5, 6, 7, 9, 20, 23, 24, 25, 26, 27, 28] → r ∈ nR c → r ≠ 10 → V2 r = V r := fun c r e hc h1 h2 => h.1 r h2 (dj_x (depOk_x hd hc (e ▸ hn)).1 h1)
  have he : ∀ c k, n.1 = c → c ∈ [0, 2, 3, 4, 5, 6, 7, 9, 20, 23, 24, 25, 26, 27, 28] → k ∈ nE c → V2 10 k = V 10 k := fun c k e hc h1 => h.2 k (dj_x (depOk_x hd hc (e ▸ hn)).2 h1)
  unfold cI
  by_cases c0 : n.1 = 0
  · simp only [if_pos c0]
    rw [nst_e (he 0 6 c0 (by decide) (by decide)), ntw_e (he 0 9 c0 (by decide) (by decide)), npk_e (he 0 15 c0 (by decide) (by decide)), nqk_e (he 0 20 c0 (by decide) (by decide)), kp_e (he 0 24 c0 (by decide) (by decide))]
  simp only [if_neg c0]
  by_cases c2 : n.1 = 2
  · simp only [if_pos c2]
    rw [kp_e (he 2 24 c2 (by decide) (by decide)), hr 2 54 c2 (by decide) (by decide) (by decide)]
  simp only [if_neg c2]
  by_cases c3 : n.1 = 3
  · simp only [if_pos c3]
    unfold kdF
    rw [npk_e (he 3 15 c3 (by decide) (by decide)), hr 3 47 c3 (by decide) (by decide) (by decide), hr 3 48 c3 (by decide) (by decide) (by decide), hr 3 49 c3 (by decide) (by decide) (by decide), hr 3 50 c3 (by decide) (by decide) (by decide), hr 3 51 c3 (by decide) (by decide) (by decide)]
  simp only [if_neg c3]
  by_cases c4 : n.1 = 4
  · simp only [if_pos c4]
    unfold sP sg fP
    rw [npk_e (he 4 15 c4 (by decide) (by decide)), nqk_e (he 4 20 c4 (by decide) (by decide)), hr 4 47 c4 (by decide) (by decide) (by decide), hr 4 49 c4 (by decide) (by decide) (by decide), hr 4 51 c4 (by decide) (by decide) (by decide), cntF_e (hr 4 50 c4 (by decide) (by decide) (by decide))]
  simp only [if_neg c4]
  by_cases c5 : n.1 = 5
  · simp only [if_pos c5]
    rw [nst_e (he 5 6 c5 (by decide) (by decide)), hr 5 43 c5 (by decide) (by decide) (by decide)]
  simp only [if_neg c5]
  by_cases c6 : n.1 = 6
  · simp only [if_pos c6]
    rw [nst_e (he 6 6 c6 (by decide) (by decide)), hr 6 41 c6 (by decide) (by decide) (by decide), hr 6 60 c6 (by decide) (by decide) (by decide)]
  simp only [if_neg c6]
  by_cases c7 : n.1 = 7
  · simp only [if_pos c7]
    rw [ntw_e (he 7 9 c7 (by decide) (by decide)), hr 7 42 c7 (by decide) (by decide) (by decide)]
  simp only [if_neg c7]
  by_cases c9 : n.1 = 9
  · simp only [if_pos c9]
    rw [he 9 0 c9 (by decide) (by decide), he 9 5 c9 (by decide) (by decide), he 9 4 c9 (by decide) (by decide), he 9 24 c9 (by decide) (by decide), he 9 2 c9 (by decide) (by decide)]
  simp only [if_neg c9]
  by_cases c20 : n.1 = 20
  · simp only [if_pos c20]
    unfold slo
    rw [he 20 3 c20 (by decide) (by decide)]
  simp only [if_neg c20]
  by_cases c23 : n.1 = 23
  · simp only [if_pos c23]
    rw [hr 23 45 c23 (by decide) (by decide) (by decide)]
  simp only [if_neg c23]
  by_cases c24 : n.1 = 24
  · simp only [if_pos c24]
    rw [hr 24 40 c24 (by decide) (by decide) (by decide)]
  simp only [if_neg c24]
  by_cases c25 : n.1 = 25
  · simp only [if_pos c25]
    rw [nst_e (he 25 6 c25 (by decide) (by decide)), hr 25 44 c25 (by decide) (by decide) (by decide)]
  simp only [if_neg c25]
  by_cases c26 : n.1 = 26
  · simp only [if_pos c26]
    rw [nqk_e (he 26 20 c26 (by decide) (by decide)), npk_e (he 26 15 c26 (by decide) (by decide)), tkS_e (hr 26 50 c26 (by decide) (by decide) (by decide)) (hr 26 47 c26 (by decide) (by decide) (by decide)) (hr 26 48 c26 (by decide) (by decide) (by decide))]
  simp only [if_neg c26]
  by_cases c27 : n.1 = 27
  · simp only [if_pos c27]
    have e : toldF V2 n.2 k = toldF V n.2 k := by unfold toldF; rw [hr 27 55 c27 (by decide) (by decide) (by decide)]
    rw [nqk_e (he 27 20 c27 (by decide) (by decide)), e]
  simp only [if_neg c27]
  by_cases c28 : n.1 = 28
  · simp only [if_pos c28]
    have e : backF V2 n.2 k = backF V n.2 k := by unfold backF; rw [hr 28 55 c28 (by decide) (by decide) (by decide)]
    rw [nqk_e (he 28 20 c28 (by decide) (by decide)), e]
  simp only [if_neg c28]
theorem cI_cls {V : VV} {n : Nm} {k : Nat} {v : Int32} (h : cI V n k = some v) : n.1 ∈ [0, 2, 3, 4, 5, 6, 7, 9, 20, 23, 24, 25, 26, 27, 28] := by
  by_cases hm : n.1 ∈ [0, 2, 3, 4, 5, 6, 7, 9, 20, 23, 24, 25, 26, 27, 28]
  · exact hm
  · exfalso
    simp only [List.mem_cons, List.not_mem_nil, or_false, not_or] at hm
    obtain ⟨a0, a2, a3, a4, a5, a6, a7, a9, a20, a23, a24, a25, a26, a27, a28⟩ := hm
    simp only [cI, if_neg a0, if_neg a2, if_neg a3, if_neg a4, if_neg a5, if_neg a6, if_neg a7, if_neg a9, if_neg a20, if_neg a23, if_neg a24, if_neg a25, if_neg a26, if_neg a27, if_neg a28] at h
    exact nomatch h
/-! heaps -/
def hpR : List Nat := [41, 60, 47, 48, 49, 50, 51]
def hpE : List Nat := [3, 4, 5, 6, 15, 20]
def EqH (V V2 : VV) : Prop := (∀ c, c ∈ hpR → V2 c = V c) ∧ ∀ k, k ∈ hpE → V2 10 k = V 10 k
theorem Ev.h {D E : List Nat} {V V2 : VV} (h : Ev D E V V2) (h1 : dj hpR D = true) (h2 : dj hpE E = true) : EqH V V2 := ⟨fun c hc => h.1 c (by revert hc; unfold hpR; intro hc e; subst e; revert hc; decide) (dj_x h1 hc), fun k hk => h.2 k (dj_x h2 hk)⟩
section HEQ
variable {V V2 : VV} (h : EqH V V2)
theorem EqH.ns (h : EqH V V2) : nst V2 = nst V := nst_e (h.2 6 (by decide))
theorem EqH.np (h : EqH V V2) : npk V2 = npk V := npk_e (h.2 15 (by decide))
theorem EqH.nq (h : EqH V V2) : nqk V2 = nqk V := nqk_e (h.2 20 (by decide))
theorem EqH.sl (h : EqH V V2) : slo V2 = slo V := by unfold slo; rw [h.2 3 (by decide)]
theorem EqH.er (h : EqH V V2) : err V2 = err V := by unfold err; rw [h.2 4 (by decide)]
theorem EqH.no (h : EqH V V2) : nw V2 = nw V := by unfold nw; rw [h.2 5 (by decide)]
theorem EqH.cS_ (h : EqH V V2) {s : Nat} : cS V2 s = cS V s := by unfold cS; rw [h.1 41 (by decide)]
theorem EqH.sP_ (h : EqH V V2) {p : Nat} : sP V2 p = sP V p := by unfold sP; rw [h.1 47 (by decide)]
theorem EqH.tk_ (h : EqH V V2) {p : Nat} : tk V2 p = tk V p := by unfold tk; rw [h.1 48 (by decide)]
theorem EqH.sg_ (h : EqH V V2) {p : Nat} : sg V2 p = sg V p := by unfold sg; rw [h.1 49 (by decide)]
theorem EqH.fP_ (h : EqH V V2) {q : Nat} : fP V2 q = fP V q := by unfold fP; rw [h.1 51 (by decide)]
theorem EqH.TV_ (h : EqH V V2) {c d : Nat} : TV V2 c d = TV V c d := by unfold TV; rw [h.sl]
theorem EqH.pkT_ (h : EqH V V2) {p c : Nat} : pkT V2 p c = pkT V p c := by unfold pkT; rw [h.tk_, h.TV_, h.sP_, h.cS_]
theorem EqH.hrd_ (h : EqH V V2) {q s : Nat} : ∀ p, hrd V2 q s p = hrd V q s p
  | 0 => rfl
  | p + 1 => by unfold hrd; rw [EqH.hrd_ h p, h.1 50 (by decide), h.1 47 (by decide)]
theorem EqH.loP_ (h : EqH V V2) {q c : Nat} : ∀ p, loP V2 q c p = loP V q c p
  | 0 => rfl
  | p + 1 => by unfold loP; rw [EqH.loP_ h p, h.1 50 (by decide), h.pkT_, h.er]
theorem EqH.hiP_ (h : EqH V V2) {q c : Nat} : ∀ p, hiP V2 q c p = hiP V q c p
  | 0 => rfl
  | p + 1 => by unfold hiP; rw [EqH.hiP_ h p, h.1 50 (by decide), h.pkT_, h.er]
theorem EqH.loS_ (h : EqH V V2) {q c : Nat} : ∀ s, loS V2 q c s = loS V q c s
  | 0 => by unfold loS; rw [h.np, h.loP_]
  | s + 1 => by unfold loS; rw [EqH.loS_ h s, h.1 60 (by decide), h.np, h.hrd_, h.no, h.TV_, h.cS_, h.er]
theorem EqH.lo_ (h : EqH V V2) {q c : Nat} : lo V2 q c = lo V q c := by unfold lo; rw [h.ns, h.loS_]
theorem EqH.hi_ (h : EqH V V2) {q c : Nat} : hi V2 q c = hi V q c := by unfold hi; rw [h.np, h.hiP_]
theorem EqH.ncl_ (h : EqH V V2) {q : Nat} : ∀ c, ncl V2 q c = ncl V q c
  | 0 => rfl
  | c + 1 => by unfold ncl; rw [EqH.ncl_ h c, h.lo_, h.hi_]
theorem EqH.szF_ (h : EqH V V2) {q c : Nat} : szF V2 q c = szF V q c := by unfold szF; rw [h.fP_, h.sg_, h.sl, h.sP_, h.cS_]
theorem EqH.lwF_ (h : EqH V V2) {q : Nat} : ∀ c, lwF V2 q c = lwF V q c
  | 0 => rfl
  | c + 1 => by unfold lwF; rw [EqH.lwF_ h c, h.lo_, h.hi_, h.szF_]
theorem EqH.hgF_ (h : EqH V V2) {q : Nat} : ∀ c, hgF V2 q c = hgF V q c
  | 0 => rfl
  | c + 1 => by unfold hgF; rw [EqH.hgF_ h c, h.lo_, h.hi_, h.szF_]
theorem HC.cg {g g1 : Hp} (hh : HC g V) (h : EqH V V2) (e1 : ∀ k, gI g1 (1, 0) k = gI g (1, 0) k) (e2 : ∀ k, gI g1 (21, 0) k = gI g (21, 0) k) (e3 : ∀ k, gI g1 (22, 0) k = gI g (22, 0) k) : HC g1 V2 := by
  rcases hh with h1 | ⟨q, h1, h2, h3, h4, h5, h6⟩
  · exact Or.inl (by rw [e1]; exact h1)
  · refine Or.inr ⟨q, by rw [h.nq]; exact h1, by rw [e1]; exact h2, fun c hc => ?_, by rw [e1, h.ncl_]; exact h4, by rw [e1, h.lwF_]; exact h5, by rw [e1, h.hgF_]; exact h6⟩
    rw [e2, e3, h.lo_, h.hi_]; exact h3 c hc
end HEQ
def viR : List Nat := [41, 60, 47, 48, 49, 50, 51, 43, 42, 55]
def viE : List Nat := [3, 4, 5, 6, 9, 15, 20]
theorem VI.cg {D E : List Nat} {V V2 : VV} (hv : VI V) (h : Ev D E V V2) (h1 : dj viR D = true) (h2 : dj viE E = true) (h24 : V2 10 24 = nI (nms V2)) : VI V2 := by
  have hr : ∀ r, r ∈ viR → r ≠ 10 → V2 r = V r := fun r hr h0 => h.1 r h0 (dj_x h1 hr)
  have he : ∀ k, k ∈ viE → V2 10 k = V 10 k := fun k hk => h.2 k (dj_x h2 hk)
  have e6 := he 6 (by decide)
  have e15 := he 15 (by decide)
  have e3 := he 3 (by decide)
  have e4 := he 4 (by decide)
  have e5 := he 5 (by decide)
  have e9 := he 9 (by decide)
  have e20 := he 20 (by decide)
  have r41 := hr 41 (by decide) (by decide)
  have r60 := hr 60 (by decide) (by decide)
  have r47 := hr 47 (by decide) (by decide)
  have r48 := hr 48 (by decide) (by decide)
  have r49 := hr 49 (by decide) (by decide)
  have r50 := hr 50 (by decide) (by decide)
  have r51 := hr 51 (by decide) (by decide)
  have r43 := hr 43 (by decide) (by decide)
  have r42 := hr 42 (by decide) (by decide)
  have r55 := hr 55 (by decide) (by decide)
  unfold VI HV at hv ⊢
  unfold nst npk slo err nw ntw nqk cS cT sP tk sg at hv ⊢
  rw [e6, e15, e3, e4, e5, e9, e20, r41, r60, r47, r48, r49, r50, r51, r43, r42, r55]
  exact ⟨hv.1, hv.2.1, hv.2.2.1, h24, hv.2.2.2.2⟩
theorem wM_C {g : Hp} {V : VV} {n : Nm} (h : n.1 ∈ [0, 2, 3, 4, 5, 6, 7, 9, 20, 23, 24, 25, 26, 27, 28]) : gI (wM g V) n = gI g n := by
  refine wM_X (fun e => ?_) ?_
  · rw [e] at h; exact absurd h (by decide)
  · simp at h; omega
theorem HC.w {g : Hp} {V V2 : VV} (h : HC g V) : HC (wM g V2) V := h
theorem VF.cg {D E : List Nat} {V V2 : VV} (h : VF V) (hev : Ev D E V V2) (h1 : dj [43, 44, 55, 60] D = true) (h2 : dj [6, 20] E = true) : VF V2 := by
  have hr : ∀ r, r ∈ [43, 44, 55, 60] → r ≠ 10 → V2 r = V r := fun r hr h0 => hev.1 r h0 (dj_x h1 hr)
  unfold VF
  rw [nst_e (hev.2 6 (dj_x h2 (by decide))), nqk_e (hev.2 20 (dj_x h2 (by decide))), hr 43 (by decide) (by decide), hr 44 (by decide) (by decide), hr 55 (by decide) (by decide), hr 60 (by decide) (by decide)]
  exact h
theorem VF.st {D E : List Nat} {V V2 : VV} (h : VF V) (hev : Ev D E V V2) (h1 : dj [55] D = true) (h2 : dj [6, 20] E = true) (hs : ∀ s, nst V ≤ s → s < 10 → V2 60 s = V 60 s ∧ V2 43 s = V 43 s ∧ ∀ k, k < 30 → V2 44 (30 * s + k) = V 44 (30 * s + k)) : VF V2 := by
  unfold VF
  rw [nst_e (hev.2 6 (dj_x h2 (by decide))), nqk_e (hev.2 20 (dj_x h2 (by decide))), hev.1 55 (by decide) (dj_x h1 (by decide))]
  refine ⟨fun s h3 h4 => ?_, h.2⟩
  obtain ⟨a1, a2, a3⟩ := h.1 s h3 h4
  obtain ⟨b1, b2, b3⟩ := hs s h3 h4
  exact ⟨b1.trans a1, b2.trans a2, fun k hk => (b3 k hk).trans (a3 k hk)⟩
/-- an answer that changes ints of the class's codes C and the model's rows D, cells E -/
theorem IN.upd {C D E : List Nat} {g g1 : Hp} {V V2 : VV} (h : IN g V) (hch : Ch C g g1) (hev : Ev D E V V2) (hd : depOk C D E = true) (hE : dj [6, 9, 15, 20, 24] E = true) (hv : VI V2) (hI : ∀ n k v, Z0 n → n.1 ∈ C → cI V2 n k = some v → gI g1 n k = v) (hH : HC g1 V2) (hvf : VF V2) : IN (wM g1 V2) V2 := by
  obtain ⟨h1, h2, h3, h4, h5, h6, h7, -⟩ := h
  have he : ∀ k, k ∈ [6, 9, 15, 20, 24] → V2 10 k = V 10 k := fun k hk => hev.2 k (dj_x hE hk)
  have e1 := nst_e (he 6 (by decide))
  have e2 := ntw_e (he 9 (by decide))
  have e3 := npk_e (he 15 (by decide))
  have e4 := nqk_e (he 20 (by decide))
  have e5 := kp_e (he 24 (by decide))
  refine ⟨trivial, ?_, hv, ?_, ?_, hH.w, ?_, hvf⟩
  · trivial
  · show RC g1.1 V2
    rw [hch.1]; unfold RC; rw [e1, e2, e3, e4, e5]; exact h4
  · intro n k v hz hk
    rw [wM_C (cI_cls hk)]
    by_cases hn : n.1 ∈ C
    · exact hI n k v hz hn hk
    · rw [hch.i hn]
      rw [cI_ev hev hd hn] at hk
      exact h5 n k v hz hk
  · unfold CB cnt
    rw [e1, e2, e3, e4, e5]
    have : gc (wM g1 V2) = gc g ∧ gs (wM g1 V2) = gs g := by
      show g1.2.2.1 = g.2.2.1 ∧ g1.2.2.2 = g.2.2.2
      rw [hch.2.1]; exact ⟨rfl, rfl⟩
    rw [this.1, this.2]
    exact h7
theorem IN.sm1 {C : List Nat} {g g1 : Hp} {V : VV} (_ : IN g V) (_ : Ch C g g1) : SM g1 := trivial
theorem IN.unw {g : Hp} {U V : VV} (h : IN (wM g U) V) : IN g V := h