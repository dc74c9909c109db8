/-! what a change of the table leaves -/
def Ev (D E : List Nat) (V V2 : VV) : Prop := (∀ c, c ≠ 10 → c ∉ D → V2 c = V c) ∧ ∀ k, k ∉ E → V2 10 k = V 10 k
theorem Ev.rf (D E : List Nat) (V : VV) : Ev D E V V := ⟨fun _ _ _ => rfl, fun _ _ => rfl⟩
theorem Ev.tr {D E : List Nat} {a b d : VV} (h : Ev D E a b) (h2 : Ev D E b d) : Ev D E a d := ⟨fun c h3 h4 => (h2.1 c h3 h4).trans (h.1 c h3 h4), fun k h3 => (h2.2 k h3).trans (h.2 k h3)⟩
theorem Ev.s {D E : List Nat} {a b : VV} (h : Ev D E a b) {c k : Nat} {v : Int32} (hc : c ∈ D) (h0 : c ≠ 10) : Ev D E a (vs b c k v) := h.tr ⟨fun c2 _ h2 => vs_ne (fun e => h2 (e ▸ hc)), fun k2 _ => by rw [vs_ne (fun e => h0 e.symm)]⟩
theorem Ev.t {D E : List Nat} {a b : VV} (h : Ev D E a b) {k : Nat} {v : Int32} (hc : k ∈ E) : Ev D E a (vs b 10 k v) := h.tr ⟨fun c2 h1 _ => vs_ne h1, fun k2 h2 => vs_nk (fun e => h2 (e ▸ hc))⟩
theorem Ev.q {a b : VV} (h : EqR a b) : Ev [52, 53] [] a b := ⟨fun c _ h2 => h c (fun e => h2 (by simp [e])) (fun e => h2 (by simp [e])), fun k _ => by rw [h 10 (by decide) (by decide)]⟩
theorem Ev.sub {D E D2 E2 : List Nat} {a b : VV} (h : Ev D E a b) (h1 : ∀ x, x ∈ D → x ∈ D2) (h2 : ∀ x, x ∈ E → x ∈ E2) : Ev D2 E2 a b := ⟨fun c h3 h4 => h.1 c h3 (fun q => h4 (h1 c q)), fun k h3 => h.2 k (fun q => h3 (h2 k q))⟩
def nR : Nat → List Nat
  | 2 => [54]
  | 3 => [47, 48, 49, 50, 51]
  | 4 => [47, 49, 50, 51]
  | 5 => [43]
  | 6 => [41, 60]
  | 7 => [42]
  | 23 => [45]
  | 24 => [40]
  | 25 => [44]
  | 26 => [47, 48, 50]
  | 27 => [55]
  | 28 => [55]
  | _ => []
def nE : Nat → List Nat
  | 0 => [6, 9, 15, 20, 24]
  | 2 => [24]
  | 3 => [15]
  | 4 => [20, 15]
  | 5 => [6]
  | 6 => [6]
  | 7 => [9]
  | 9 => [0, 5, 4, 24, 2]
  | 20 => [3]
  | 25 => [6]
  | 26 => [20, 15]
  | 27 => [20]
  | 28 => [20]
  | _ => []
def dj (A B : List Nat) : Bool := A.all (fun x => !B.contains x)
theorem dj_x {A B : List Nat} (h : dj A B = true) {x : Nat} (hx : x ∈ A) : x ∉ B := by
  have := List.all_eq_true.mp h x hx
  simpa using this
def depOk (C D E : List Nat) : Bool := [0, 2, 3, 4, 5, 6, 7, 9, 20, 23, 24, 25, 26, 27, 28].all (fun c => C.contains c || (dj (nR c) D && dj (nE c) E))
theorem depOk_x {C D E : List Nat} (h : depOk C D E = true) {c : Nat} (hc : c ∈ [0, 2, 3, 4, 5, 6, 7, 9, 20, 23, 24, 25, 26, 27, 28]) (hn : c ∉ C) : dj (nR c) D = true ∧ dj (nE c) E = true := by
  have := List.all_eq_true.mp h c hc
  simp [hn] at this
  exact this
theorem nst_e {V V2 : VV} (h : V2 10 6 = V 10 6) : nst V2 = nst V := by unfold nst; rw [h]
theorem ntw_e {V V2 : VV} (h : V2 10 9 = V 10 9) : ntw V2 = ntw V := by unfold ntw; rw [h]
theorem npk_e {V V2 : VV} (h : V2 10 15 = V 10 15) : npk V2 = npk V := by unfold npk; rw [h]
theorem nqk_e {V V2 : VV} (h : V2 10 20 = V 10 20) : nqk V2 = nqk V := by unfold nqk; rw [h]
theorem nms_e {V V2 : VV} (h : V2 10 24 = V 10 24) : nms V2 = nms V := by unfold nms; rw [h]
theorem kp_e {V V2 : VV} (h : V2 10 24 = V 10 24) : kp V2 = kp V := by unfold kp; rw [nms_e h]
theorem tkS_e {V V2 : VV} {q s : Nat} (h1 : V2 50 = V 50) (h2 : V2 47 = V 47) (h3 : V2 48 = V 48) : ∀ p, tkS V2 q s p = tkS V q s p
  | 0 => rfl
  | p + 1 => by unfold tkS tk; rw [h1, h2, h3, tkS_e h1 h2 h3 p]
theorem cntF_e {V V2 : VV} {q : Nat} (h1 : V2 50 = V 50) : ∀ p, cntF V2 q p = cntF V q p
  | 0 => rfl
  | p + 1 => by unfold cntF; rw [h1, cntF_e h1 p]
theorem cI_ev {C D E : List Nat} {V V2 : VV} (h : Ev D E V V2) (hd : depOk C D E = true) {n : Nm} (hn : n.1 ∉ C) (k : Nat) : cI V2 n k = cI V n k := by
  have hr : ∀ c r, n.1 = c → c ∈ [0, 2, 3, 4, 5, 6, 7, 9, 20, 23, 24, 25, 26, 27, 28] → r ∈ nR c → r ≠ 10 → V2 r = V r := fun c r e hc h1 h2 => h.1 r h2 (dj_x (depOk_x hd hc (e ▸ hn)).1 h1)
  have he : ∀ c k, n.1 = c → c ∈ [0, 2, 3, 4, 5, 6, 7, 9, 20, 23, 24, 25, 26, 27, 28] → k ∈ nE c → V2 10 k = V 10 k := fun c k e hc h1 => h.2 k (dj_x (depOk_x hd hc (e ▸ hn)).2 h1)
  unfold cI
  by_cases c0 : n.1 = 0
  · simp only [if_pos c0]
    rw [nst_e (he 0 6 c0 (by decide) (by decide)), ntw_e (he 0 9 c0 (by decide) (by decide)), npk_e (he 0 15 c0 (by decide) (by decide)), nqk_e (he 0 20 c0 (by decide) (by decide)), kp_e (he 0 24 c0 (by decide) (by decide))]
  simp only [if_neg c0]
  by_cases c2 : n.1 = 2
  · simp only [if_pos c2]
    rw [kp_e (he 2 24 c2 (by decide) (by decide)), hr 2 54 c2 (by decide) (by decide) (by decide)]
  simp only [if_neg c2]
  by_cases c3 : n.1 = 3
  · simp only [if_pos c3]
    unfold kdF
    rw [npk_e (he 3 15 c3 (by decide) (by decide)), hr 3 47 c3 (by decide) (by decide) (by decide), hr 3 48 c3 (by decide) (by decide) (by decide), hr 3 49 c3 (by decide) (by decide) (by decide), hr 3 50 c3 (by decide) (by decide) (by decide), hr 3 51 c3 (by decide) (by decide) (by decide)]
  simp only [if_neg c3]
  by_cases c4 : n.1 = 4
  · simp only [if_pos c4]
    unfold sP sg fP
    rw [npk_e (he 4 15 c4 (by decide) (by decide)), nqk_e (he 4 20 c4 (by decide) (by decide)), hr 4 47 c4 (by decide) (by decide) (by decide), hr 4 49 c4 (by decide) (by decide) (by decide), hr 4 51 c4 (by decide) (by decide) (by decide), cntF_e (hr 4 50 c4 (by decide) (by decide) (by decide))]
  simp only [if_neg c4]
  by_cases c5 : n.1 = 5
  · simp only [if_pos c5]
    rw [nst_e (he 5 6 c5 (by decide) (by decide)), hr 5 43 c5 (by decide) (by decide) (by decide)]
  simp only [if_neg c5]
  by_cases c6 : n.1 = 6
  · simp only [if_pos c6]
    rw [nst_e (he 6 6 c6 (by decide) (by decide)), hr 6 41 c6 (by decide) (by decide) (by decide), hr 6 60 c6 (by decide) (by decide) (by decide)]
  simp only [if_neg c6]
  by_cases c7 : n.1 = 7
  · simp only [if_pos c7]
    rw [ntw_e (he 7 9 c7 (by decide) (by decide)), hr 7 42 c7 (by decide) (by decide) (by decide)]
  simp only [if_neg c7]
  by_cases c9 : n.1 = 9
  · simp only [if_pos c9]
    rw [he 9 0 c9 (by decide) (by decide), he 9 5 c9 (by decide) (by decide), he 9 4 c9 (by decide) (by decide), he 9 24 c9 (by decide) (by decide), he 9 2 c9 (by decide) (by decide)]
  simp only [if_neg c9]
  by_cases c20 : n.1 = 20
  · simp only [if_pos c20]
    unfold slo
    rw [he 20 3 c20 (by decide) (by decide)]
  simp only [if_neg c20]
  by_cases c23 : n.1 = 23
  · simp only [if_pos c23]
    rw [hr 23 45 c23 (by decide) (by decide) (by decide)]
  simp only [if_neg c23]
  by_cases c24 : n.1 = 24
  · simp only [if_pos c24]
    rw [hr 24 40 c24 (by decide) (by decide) (by decide)]
  simp only [if_neg c24]
  by_cases c25 : n.1 = 25
  · simp only [if_pos c25]
    rw [nst_e (he 25 6 c25 (by decide) (by decide)), hr 25 44 c25 (by decide) (by decide) (by decide)]
  simp only [if_neg c25]
  by_cases c26 : n.1 = 26
  · simp only [if_pos c26]
    rw [nqk_e (he 26 20 c26 (by decide) (by decide)), npk_e (he 26 15 c26 (by decide) (by decide)), tkS_e (hr 26 50 c26 (by decide) (by decide) (by decide)) (hr 26 47 c26 (by decide) (by decide) (by decide)) (hr 26 48 c26 (by decide) (by decide) (by decide))]
  simp only [if_neg c26]
  by_cases c27 : n.1 = 27
  · simp only [if_pos c27]
    have e : toldF V2 n.2 k = toldF V n.2 k := by unfold toldF; rw [hr 27 55 c27 (by decide) (by decide) (by decide)]
    rw [nqk_e (he 27 20 c27 (by decide) (by decide)), e]
  simp only [if_neg c27]
  by_cases c28 : n.1 = 28
  · simp only [if_pos c28]
    have e : backF V2 n.2 k = backF V n.2 k := by unfold backF; rw [hr 28 55 c28 (by decide) (by decide) (by decide)]
    rw [nqk_e (he 28 20 c28 (by decide) (by decide)), e]
  simp only [if_neg c28]
theorem cI_cls {V : VV} {n : Nm} {k : Nat} {v : Int32} (h : cI V n k = some v) : n.1 ∈ [0, 2, 3, 4, 5, 6, 7, 9, 20, 23, 24, 25, 26, 27, 28] := by
  by_cases hm : n.1 ∈ [0, 2, 3, 4, 5, 6, 7, 9, 20, 23, 24, 25, 26, 27, 28]
  · exact hm
  · exfalso
    simp only [List.mem_cons, List.not_mem_nil, or_false, not_or] at hm
    obtain ⟨a0, a2, a3, a4, a5, a6, a7, a9, a20, a23, a24, a25, a26, a27, a28⟩ := hm
    simp only [cI, if_neg a0, if_neg a2, if_neg a3, if_neg a4, if_neg a5, if_neg a6, if_neg a7, if_neg a9, if_neg a20, if_neg a23, if_neg a24, if_neg a25, if_neg a26, if_neg a27, if_neg a28] at h
    exact nomatch h
/-! heaps -/
def hpR : List Nat := [41, 60, 47, 48, 49, 50, 51]
def hpE : List Nat := [3, 4, 5, 6, 15, 20]
def EqH (V V2 : VV) : Prop := (∀ c, c ∈ hpR → V2 c = V c) ∧ ∀ k, k ∈ hpE → V2 10 k = V 10 k
theorem Ev.h {D E : List Nat} {V V2 : VV} (h : Ev D E V V2) (h1 : dj hpR D = true) (h2 : dj hpE E = true) : EqH V V2 := ⟨fun c hc => h.1 c (by revert hc; unfold hpR; intro hc e; subst e; revert hc; decide) (dj_x h1 hc), fun k hk => h.2 k (dj_x h2 hk)⟩
section HEQ
variable {V V2 : VV} (h : EqH V V2)
theorem EqH.ns (h : EqH V V2) : nst V2 = nst V := nst_e (h.2 6 (by decide))
theorem EqH.np (h : EqH V V2) : npk V2 = npk V := npk_e (h.2 15 (by decide))
theorem EqH.nq (h : EqH V V2) : nqk V2 = nqk V := nqk_e (h.2 20 (by decide))
theorem EqH.sl (h : EqH V V2) : slo V2 = slo V := by unfold slo; rw [h.2 3 (by decide)]
theorem EqH.er (h : EqH V V2) : err V2 = err V := by unfold err; rw [h.2 4 (by decide)]
theorem EqH.no (h : EqH V V2) : nw V2 = nw V := by unfold nw; rw [h.2 5 (by decide)]
end HEQ
