/-! the empty row of the lists, kinds, casts, switches, Math -/
def gclas (r : Option Nm) : Option (Option Nm) := match r with
  | some n => if 12 ≤ n.1 ∧ n.1 < 17 then some (some (19, 0)) else none
  | none => none
def nnl {α : Type} (r : Option Nm) (pr : Option α) : Option α := match r with
  | some _ => pr
  | none => none
def imax (x z : Int32) : Int32 := if x < z then z else x
def imin (x z : Int32) : Int32 := if z < x then z else x
def iabs (x : Int32) : Int32 := if 0 ≤ x then x else 0 - x
def tsw {α : Type} (x : Int32) : List Int32 → List (Option α) → Option α → Option α
  | k :: ks, a :: as, d => if x = k then a else tsw x ks as d
  | _, _, d => d
def FLM (own : String) (ix : Nat) (nm : MethodName) (cd : ByteArray) (n : Nat) : Prop := (Cond.methodLink own ix nm ∈ lw_tbl ∧ okW (Cond.methodLink own ix nm) = true) ∧ (Cond.static nm ∈ lw_tbl ∧ okW (Cond.static nm) = true) ∧ (Cond.initialized "java/lang/Math" ∈ lw_tbl ∧ okW (Cond.initialized "java/lang/Math") = true) ∧ (Cond.code nm cd n (some .int) ∈ lw_tbl ∧ okW (Cond.code nm cd n (some .int)) = true)
def FLI (own : String) (ix : Nat) : Prop := (Cond.methodLink own ix objectInit ∈ lw_tbl ∧ okW (Cond.methodLink own ix objectInit) = true) ∧ (Cond.instanceMethod objectInit ∈ lw_tbl ∧ okW (Cond.instanceMethod objectInit) = true) ∧ (Cond.code objectInit ⟨#[0xb1]⟩ 1 none ∈ lw_tbl ∧ okW (Cond.code objectInit ⟨#[0xb1]⟩ 1 none) = true)
def gcN : MethodName := ⟨"java/lang/Object", "getClass", "()Ljava/lang/Class;"⟩
def FLG (own : String) (ix : Nat) : Prop := (Cond.methodLink own ix gcN ∈ lw_tbl ∧ okW (Cond.methodLink own ix gcN) = true) ∧ (Cond.selects "[Ljava/lang/Object;" gcN gcN ∈ lw_tbl ∧ okW (Cond.selects "[Ljava/lang/Object;" gcN gcN) = true) ∧ (Cond.instanceMethod gcN ∈ lw_tbl ∧ okW (Cond.instanceMethod gcN) = true) ∧ (Cond.native gcN ∈ lw_tbl ∧ okW (Cond.native gcN) = true)
section XRU
variable {ρ : Type} {y : MethodName} {cc : ByteArray} {nL : Nat} {rt : Option FieldType} {rf rl : Nat} {X : Xt ρ} {g : Hp} {pc : Nat} {lv lv' : List (Nat × SV)} {st : List SV} {pr pr2 : Option (ρ × Hp)}
def allJ {ρ : Type} (y : MethodName) (cc : ByteArray) (nL : Nat) (rt : Option FieldType) (rf rl : Nat) (X : Xt ρ) (g : Hp) (lv : List (Nat × SV)) (st : List SV) : List Nat → List (Option (ρ × Hp)) → Prop
  | t :: ts, a :: as => J y cc nL rt rf rl X g t lv st a ∧ allJ y cc nL rt rf rl X g lv st ts as
  | [], [] => True
  | _, _ => False
theorem allJ_at : ∀ (ts : List Nat) (as : List (Option (ρ × Hp))) (ks : List Int32) (D : Option (ρ × Hp)) (x : Int32), allJ y cc nL rt rf rl X g lv st ts as → ks.length = ts.length → (∃ j : Nat, ks[j]? = some x ∧ (∀ i : Nat, i < j → ks[i]? ≠ some x) ∧ ∃ t, ts[j]? = some t ∧ J y cc nL rt rf rl X g t lv st (tsw x ks as D)) ∨ ((∀ k ∈ ks, x ≠ k) ∧ tsw x ks as D = D)
  | [], [], ks, D, x, _, hl => by
    have : ks = [] := List.length_eq_zero_iff.mp hl
    subst this
    exact Or.inr ⟨fun _ h => absurd h List.not_mem_nil, rfl⟩
  | [], _ :: _, _, _, _, h, _ => h.elim
  | _ :: _, [], _, _, _, h, _ => h.elim
  | t :: ts, a :: as, ks, D, x, h, hl => by
    cases ks with
    | nil => simp at hl
    | cons k ks =>
      by_cases hx : x = k
      · refine Or.inl ⟨0, by simp [hx], fun i hi => absurd hi (Nat.not_lt_zero i), t, rfl, ?_⟩
        have e : tsw x (k :: ks) (a :: as) D = a := by simp [tsw, hx]
        rw [e]
        exact h.1
      · have e : tsw x (k :: ks) (a :: as) D = tsw x ks as D := by simp [tsw, hx]
        rw [e]
        rcases allJ_at ts as ks D x h.2 (by simpa using hl) with ⟨j, h1, h2, t', h3, h4⟩ | ⟨h1, h2⟩
        · refine Or.inl ⟨j + 1, by simpa using h1, fun i hi => ?_, t', by simpa using h3, h4⟩
          cases i with
          | zero => simpa using fun q : k = x => hx q.symm
          | succ i => simpa using h2 i (by omega)
        · exact Or.inr ⟨fun k' hk => (List.mem_cons.mp hk).elim (fun q => q ▸ hx) (h1 k'), h2⟩
theorem j_tsw {dflt lo hi : Int} {offs : Array Int} {len td : Nat} {x : Int32} {ks : List Int32} {ts : List Nat} {as : List (Option (ρ × Hp))} {D : Option (ρ × Hp)} (hd : decode cc pc = .ok (.tableswitch dflt lo hi offs, len)) (h1 : ks.map (fun k => k.toInt) = (List.range ks.length).map (fun j : Nat => lo + (j : Int))) (h2 : hi = lo + (ks.length : Int) - 1) (h3 : offs.toList.map (fun o => (pc : Int) + o) = ts.map (fun t : Nat => (t : Int))) (h4 : ks.length = ts.length) (h5 : (pc : Int) + dflt = (td : Int)) (hp : pr = tsw x ks as D) (kD : J y cc nL rt rf rl X g td lv st D) (kk : allJ y cc nL rt rf rl X g lv st ts as) : J y cc nL rt rf rl X g pc lv (sI x :: st) pr := by
  subst hp
  have hkey : ∀ j, j < ks.length → ∀ k, ks[j]? = some k → k.toInt = lo + (j : Int) := by
    intro j hj k hk
    have e := congrArg (fun l : List Int => l[j]?) h1
    have hk2 := (List.getElem?_eq_some_iff.mp hk).2
    simpa [List.getElem?_map, hk2, hj] using e
  rcases allJ_at ts as ks D x kk h4 with ⟨j, a1, a2, t, a3, a4⟩ | ⟨a1, a2⟩
  · refine J.s (pc' := t) (st' := st) (fun _ _ _ _ _ _ _ _ _ _ _ _ _ _ _ ad ls hx hb hw htb hl K0 => ?_) (fun _ h => h.tail) a4
    have hj : j < ks.length := (List.getElem?_eq_some_iff.mp a1).1
    have hv := hkey j hj x a1
    have ho : offs[j]? = some ((t : Int) - pc) := by
      have e := congrArg (fun l : List Int => l[j]?) h3
      simp only [List.getElem?_map, a3, Option.map_some, Array.getElem?_toList] at e
      cases hq : offs[j]? with
      | none => rw [hq] at e; cases e
      | some o => rw [hq] at e; simp at e; congr 1; omega
    exact lv_tableIn (off := (t : Int) - pc) (tgt := t) hx hb hd (by omega) (by omega) (by rw [hv]; have : (lo + (j : Int) - lo).toNat = j := by omega
                                                                                           rw [this]; exact ho) (by omega) K0
  · rw [a2]
    refine J.s (pc' := td) (st' := st) (fun _ _ _ _ _ _ _ _ _ _ _ _ _ _ _ ad ls hx hb hw htb hl K0 => ?_) (fun _ h => h.tail) kD
    refine lv_tableOut hx hb hd ?_ h5 K0
    by_cases q1 : x.toInt < lo
    · exact Or.inl q1
    · right
      by_cases q2 : hi < x.toInt
      · exact q2
      · exfalso
        have hj : (x.toInt - lo).toNat < ks.length := by omega
        have hk := List.getElem?_eq_getElem hj
        have hv := hkey _ hj _ hk
        have : x = ks[(x.toInt - lo).toNat] := Int32.toInt_inj.mp (by rw [hv]; omega)
        exact a1 _ (List.getElem_mem hj) this
theorem j_gdef {own : String} {ix : Nat} (hd : decode cc pc = .ok (.getstatic ix, 3)) (ho : own = y.cls) (hw0 : Cond.fieldLink own ix "java/util/ArrayList" "DEFAULTCAPACITY_EMPTY_ELEMENTDATA" "[Ljava/lang/Object;" ∈ lw_tbl) (k : J y cc nL rt rf rl X g (pc + 3) lv (sR (some (17, 0)) :: st) pr) : J y cc nL rt rf rl X g pc lv st pr :=
  J.r (fun p l e s m args below meth c0 R H locs cells slots Q D cs A ad ls hx hb hz hml hw htb hK hE hR hC hP hD hS hol hos K0 => va_gets (own := own) hx hb hE.1 hS (by rw [ho]; exact hw) (htb _ hw0 rfl args) (fun _ h => h) hd K0) (fun _ h => h.cons (v := sR (some (17, 0))) (fun n hn => by cases hn; exact Or.inr (Or.inl rfl))) k
theorem j_ldcC {own : String} {ix : Nat} (hd : decode cc pc = .ok (.ldc ix, 2)) (ho : own = y.cls) (hw0 : Cond.classLink own ix "[Ljava/lang/Object;" ∈ lw_tbl) (k : J y cc nL rt rf rl X g (pc + 2) lv (sR (some (19, 0)) :: st) pr) : J y cc nL rt rf rl X g pc lv st pr :=
  J.r (fun p l e s m args below meth c0 R H locs cells slots Q D cs A ad ls hx hb hz hml hw htb hK hE hR hC hP hD hS hol hos K0 => va_ldcM (own := own) hx hb (by rw [ho]; exact hw) (htb _ hw0 rfl args) hE.2.2.1 hd K0) (fun _ h => h.cons (v := sR (some (19, 0))) (fun n hn => by cases hn; exact Or.inr (Or.inr (Or.inr rfl)))) k
theorem j_gclas {own : String} {ix : Nat} {r : Option Nm} {F : Option Nm → Option (ρ × Hp)} (hd : decode cc pc = .ok (.invokevirtual ix, 3)) (hF : FLG own ix) (ho : own = y.cls) (hr : 1 ≤ rf ∧ (st.map sc).sum + 14 ≤ rl) (hp : pr = (gclas r).bind F) (kk : ∀ x, J y cc nL rt rf rl X g (pc + 3) lv (sR x :: st) (F x)) : J y cc nL rt rf rl X g pc lv (sR r :: st) pr := by
  subst hp
  cases r with
  | none => exact J.none
  | some n =>
    by_cases hn : 12 ≤ n.1 ∧ n.1 < 17
    · have e : (gclas (some n)).bind F = F (some (19, 0)) := by simp [gclas, hn]
      refine J.eq e (J.r (fun p l e s m args below meth c0 R H locs cells slots Q D cs A ad ls hx hb hz hml hw htb hK hE hR hC hP hD hS hol hos K0 => ?_) (fun _ h => h.tail.cons (v := sR (some (19, 0))) (fun n hn => by cases hn; exact Or.inr (Or.inr (Or.inr rfl)))) (kk _))
      obtain ⟨q, hq, he⟩ := wat (cs := cs) (ad := ad) (okr_in hos.head (Or.inl hn.2))
      rw [ent_r hn.1 hn.2] at he
      obtain ⟨_, _, _, _, _, e1⟩ : va_RA s cs.2.2 (.object "java/lang/Object") := (hK.2 2 _ rfl).2
      refine va_getC (own := own) (C := "[Ljava/lang/Object;") hx hb (hml.trans hz.symm) (by rw [ho]; exact hw) (htb _ hF.1.1 hF.1.2 args) (va_Dc.use hE.2.2.2.2) (htb _ hF.2.1.1 hF.2.1.2 args) (htb _ hF.2.2.1.1 hF.2.2.1.2 args) (htb _ hF.2.2.2.1 hF.2.2.2.2 args) hE.2.2.1 ⟨_, hP q _ he, rfl, ?_⟩ (by rw [hR.1]; exact hr.1) (by rw [hR.2]; have := hr.2; rw [← stm_cat ad st] at this; exact this) hd K0
      exact e1
    · have e : (gclas (some n)).bind F = none := by simp [gclas, hn]
      exact J.eq e J.none
theorem j_cst {own : String} {ix c : Nat} {r : Option Nm} {P : Option (ρ × Hp)} (hd : decode cc pc = .ok (.checkcast ix, 3)) (ho : own = y.cls) (hc : c < 11) (hw0 : Cond.classLink own ix (oC c) ∈ lw_tbl) (hp : pr = cst r c P) (kk : J y cc nL rt rf rl X g (pc + 3) lv (sR r :: st) P) : J y cc nL rt rf rl X g pc lv (sR r :: st) pr := by
  subst hp
  cases r with
  | none => exact J.s (fun _ _ _ _ _ _ _ _ _ _ _ _ _ _ _ ad ls hx hb hw htb hl K0 => lv_castN hx hb hd K0) (fun _ h => h) kk
  | some n =>
    by_cases hn : n.1 = c
    · have e : cst (some n) c P = P := by simp [cst, hn]
      refine J.eq e (J.r (fun p l e s m args below meth c0 R H locs cells slots Q D cs A ad ls hx hb hz hml hw htb hK hE hR hC hP hD hS hol hos K0 => ?_) (fun _ h => h) kk)
      obtain ⟨w, a1, a2⟩ := vwCl_at c hc
      obtain ⟨q, hq, he⟩ := wat (cs := cs) (ad := ad) (okr_in hos.head (Or.inl (by omega)))
      rw [ent_o (by omega), hn] at he
      have h3 := va_recv hK hP a1 he
      rw [a2] at h3
      have h4 := (hK.1 c w a1).2
      rw [a2] at h4
      exact va_castS (own := own) hx hb (by rw [ho]; exact hw) (htb _ hw0 rfl args) h4 h3 hd K0
    · have e : cst (some n) c P = none := by simp [cst, hn]
      exact J.eq e J.none
theorem j_csA {own : String} {ix : Nat} {r : Option Nm} {P : Option (ρ × Hp)} (hd : decode cc pc = .ok (.checkcast ix, 3)) (ho : own = y.cls) (hw0 : Cond.classLink own ix "[Ljava/lang/Object;" ∈ lw_tbl) (hp : pr = csA r P) (kk : J y cc nL rt rf rl X g (pc + 3) lv (sR r :: st) P) : J y cc nL rt rf rl X g pc lv (sR r :: st) pr := by
  subst hp
  cases r with
  | none => exact J.none
  | some n =>
    by_cases hn : 12 ≤ n.1 ∧ n.1 < 17
    · have e : csA (some n) P = P := by simp [csA, hn]
      refine J.eq e (J.r (fun p l e s m args below meth c0 R H locs cells slots Q D cs A ad ls hx hb hz hml hw htb hK hE hR hC hP hD hS hol hos K0 => ?_) (fun _ h => h) kk)
      obtain ⟨q, hq, he⟩ := wat (cs := cs) (ad := ad) (okr_in hos.head (Or.inl hn.2))
      rw [ent_r hn.1 hn.2] at he
      obtain ⟨_, _, _, _, _, e1⟩ : va_RA s cs.2.2 (.object "java/lang/Object") := (hK.2 2 _ rfl).2
      exact va_castA (own := own) (nm := "[Ljava/lang/Object;") hx hb (by rw [ho]; exact hw) (htb _ hw0 rfl args) hP q he e1 hd K0
    · have e : csA (some n) P = none := by simp [csA, hn]
      exact J.eq e J.none
theorem acm_ne {cs : ClassId × ClassId × ClassId} {ad : Nm → Nat} {A : Nat → Prop} {s : State} (hD : va_D A (wld cs ad g)) (hE : EX ad A s s.heap) {r q : Option Nm} (h : r ≠ q) (hr : ∀ n, r = some n → n ∈ gL g ∨ n = (17, 0)) (hq : ∀ n, q = some n → n ∈ gL g ∨ n = (17, 0)) : r.map ad ≠ q.map ad := by
  have hnA : ¬ A (ad (17, 0)) := by
    obtain ⟨f, cell, _, _, _, _, _, _, h7⟩ := hE.2.1
    exact h7
  have hin : ∀ n, n ∈ gL g → A (ad n) := fun n hn => by
    obtain ⟨k, _, he⟩ := wat (cs := cs) (ad := ad) hn
    exact hD.2 k _ he
  cases r with
  | none => cases q with
    | none => exact absurd rfl h
    | some m => exact fun e => by cases e
  | some n => cases q with
    | none => exact fun e => by cases e
    | some m =>
      intro e
      have e2 : ad n = ad m := by simpa using e
      rcases hr n rfl with h1 | h1 <;> rcases hq m rfl with h2 | h2
      · exact h (by rw [winj hD h1 h2 e2])
      · exact hnA (by rw [← h2, ← e2]; exact hin n h1)
      · exact hnA (by rw [← h1, e2]; exact hin m h2)
      · exact h (by rw [h1, h2])
theorem j_acmp_ne {r q : Option Nm} {off : Int} {tgt : Nat} {a b : Option (ρ × Hp)} (hd : decode cc pc = .ok (.if_acmp .ne off, 3)) (ht : (pc : Int) + off = (tgt : Int)) (hp : pr = acm r q g b a) (kt : J y cc nL rt rf rl X g tgt lv st a) (kf : J y cc nL rt rf rl X g (pc + 3) lv st b) : J y cc nL rt rf rl X g pc lv (sR q :: sR r :: st) pr := by
  subst hp
  by_cases h1 : r = q
  · have e : acm r q g b a = b := by simp only [acm, if_pos h1]
    refine J.eq e (J.s (fun _ _ _ _ _ _ _ _ _ _ _ _ _ _ _ ad ls hx hb hw htb hl K0 => ?_) (fun _ h => h.tail.tail) kf)
    exact lv_acmp_ne hx hb hd ht (fun z => absurd (by rw [h1]) z) (fun _ => K0)
  · by_cases h2 : (∀ n, r = some n → n ∈ gL g ∨ n = (17, 0)) ∧ (∀ n, q = some n → n ∈ gL g ∨ n = (17, 0))
    · have e : acm r q g b a = a := by simp only [acm, if_neg h1, if_pos h2]
      refine J.eq e (J.r (fun p l e s m args below meth c0 R H locs cells slots Q D cs A ad ls hx hb hz hml hw htb hK hE hR hC hP hD hS hol hos K0 => ?_) (fun _ h => h.tail.tail) kt)
      exact lv_acmp_ne hx hb hd ht (fun _ => K0) (fun z => absurd z (acm_ne hD hE h1 h2.1 h2.2))
    · have e : acm r q g b a = none := by simp only [acm, if_neg h1, if_neg h2]
      exact J.eq e J.none
theorem j_oinit {own : String} {ix : Nat} {r : Option Nm} {P : Option (ρ × Hp)} (hd : decode cc pc = .ok (.invokespecial ix, 3)) (hF : FLI own ix) (ho : own = y.cls) (hr : 1 ≤ rf ∧ (st.map sc).sum + 12 ≤ rl) (hp : pr = nnl r P) (kk : J y cc nL rt rf rl X g (pc + 3) lv st P) : J y cc nL rt rf rl X g pc lv (sR r :: st) pr := by
  subst hp
  cases r with
  | none => exact J.none
  | some n =>
    refine J.r (fun p l e s m args below meth c0 R H locs cells slots Q D cs A ad ls hx hb hz hml hw htb hK hE hR hC hP hD hS hol hos K0 => ?_) (fun _ h => h.tail) kk
    refine W.objInit (own := own) hx hb (by rw [ho]; exact hw) (htb _ hF.1.1 hF.1.2 args) (htb _ hF.2.1.1 hF.2.1.2 args) (htb _ hF.2.2.1 hF.2.2.2 args) rfl (hz.trans hml.symm) (a := ad n) (rest := stm ad st) rfl hd (by rw [hR.1]; exact hr.1) ?_ K0
    rw [hR.2]
    have := hr.2
    rw [← stm_cat ad st] at this
    have e : (F0 m pc ls (Value.ref (ad n) :: stm ad st)).monitorRoom = 0 := rfl
    show 2 * (F0 m pc ls (Value.ref (ad n) :: stm ad st)).monitorRoom + _ + 12 ≤ rl
    rw [e]
    omega
theorem j_max {own : String} {ix : Nat} {x z : Int32} (hd : decode cc pc = .ok (.invokestatic ix, 3)) (hF : FLM own ix Lib.Math.max.name Lib.Math.max.code 2) (ho : own = y.cls) (hr : 1 ≤ rf ∧ (st.map sc).sum + 13 ≤ rl) (kk : J y cc nL rt rf rl X g (pc + 3) lv (sI (imax x z) :: st) pr) : J y cc nL rt rf rl X g pc lv (sI z :: sI x :: st) pr :=
  J.r (fun p l e s m args below meth c0 R H locs cells slots Q D cs A ad ls hx hb hz hml hw htb hK hE hR hC hP hD hS hol hos K0 => va_mmax (own := own) hx hb (hml.trans hz.symm) (by rw [ho]; exact hw) (htb _ hF.1.1 hF.1.2 args) (htb _ hF.2.1.1 hF.2.1.2 args) (htb _ hF.2.2.1.1 hF.2.2.1.2 args) (htb _ hF.2.2.2.1 hF.2.2.2.2 args) (by rw [hR.1]; exact hr.1) (by rw [hR.2]; have := hr.2; rw [← stm_cat ad st] at this; exact this) hC.1 hC.2 hd K0) (fun _ h => h.tail.tail.ci) kk
theorem j_min {own : String} {ix : Nat} {x z : Int32} (hd : decode cc pc = .ok (.invokestatic ix, 3)) (hF : FLM own ix Lib.Math.min.name Lib.Math.min.code 2) (ho : own = y.cls) (hr : 1 ≤ rf ∧ (st.map sc).sum + 13 ≤ rl) (kk : J y cc nL rt rf rl X g (pc + 3) lv (sI (imin x z) :: st) pr) : J y cc nL rt rf rl X g pc lv (sI z :: sI x :: st) pr :=
  J.r (fun p l e s m args below meth c0 R H locs cells slots Q D cs A ad ls hx hb hz hml hw htb hK hE hR hC hP hD hS hol hos K0 => va_mmin (own := own) hx hb (hml.trans hz.symm) (by rw [ho]; exact hw) (htb _ hF.1.1 hF.1.2 args) (htb _ hF.2.1.1 hF.2.1.2 args) (htb _ hF.2.2.1.1 hF.2.2.1.2 args) (htb _ hF.2.2.2.1 hF.2.2.2.2 args) (by rw [hR.1]; exact hr.1) (by rw [hR.2]; have := hr.2; rw [← stm_cat ad st] at this; exact this) hC.1 hC.2 hd K0) (fun _ h => h.tail.tail.ci) kk
theorem j_abs {own : String} {ix : Nat} {x : Int32} (hd : decode cc pc = .ok (.invokestatic ix, 3)) (hF : FLM own ix Lib.Math.abs.name Lib.Math.abs.code 1) (ho : own = y.cls) (hr : 1 ≤ rf ∧ (st.map sc).sum + 13 ≤ rl) (kk : J y cc nL rt rf rl X g (pc + 3) lv (sI (iabs x) :: st) pr) : J y cc nL rt rf rl X g pc lv (sI x :: st) pr :=
  J.r (fun p l e s m args below meth c0 R H locs cells slots Q D cs A ad ls hx hb hz hml hw htb hK hE hR hC hP hD hS hol hos K0 => va_mabs (own := own) hx hb (hml.trans hz.symm) (by rw [ho]; exact hw) (htb _ hF.1.1 hF.1.2 args) (htb _ hF.2.1.1 hF.2.1.2 args) (htb _ hF.2.2.1.1 hF.2.2.1.2 args) (htb _ hF.2.2.2.1 hF.2.2.2.2 args) (by rw [hR.1]; exact hr.1) (by rw [hR.2]; have := hr.2; rw [← stm_cat ad st] at this; exact this) hC.1 hC.2 hd K0) (fun _ h => h.tail.ci) kk
end XRU
