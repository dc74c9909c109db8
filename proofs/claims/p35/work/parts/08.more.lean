/-! stores of references, copies, tests of kinds, what the machine's own library does -/
def oC : Nat → String
  | 0 => "java/util/ArrayList"
  | 1 => "FirstSeconds$Heap"
  | 2 => "FirstSeconds$Pick"
  | 3 => "FirstSeconds$Pick"
  | 4 => "FirstSeconds$Quake"
  | 5 => "FirstSeconds$Row"
  | 6 => "FirstSeconds$Station"
  | 7 => "FirstSeconds$Town"
  | 8 => "FirstSeconds$Travels"
  | 9 => "FirstSeconds"
  | _ => "FirstSeconds"
theorem vwCl_at : ∀ c, c < 11 → ∃ q : vw_C, vwCl[c]? = some q ∧ q.1 = oC c := by
  intro c hc
  rcases (show c = 0 ∨ c = 1 ∨ c = 2 ∨ c = 3 ∨ c = 4 ∨ c = 5 ∨ c = 6 ∨ c = 7 ∨ c = 8 ∨ c = 9 ∨ c = 10 by omega) with e | e | e | e | e | e | e | e | e | e | e <;> subst e <;> exact ⟨_, rfl, by decide +kernel⟩
theorem castO : ∀ c, c < 11 → Cond.castable (oC c) "java/lang/Object" ∈ lw_tbl := by
  intro c hc
  rcases (show c = 0 ∨ c = 1 ∨ c = 2 ∨ c = 3 ∨ c = 4 ∨ c = 5 ∨ c = 6 ∨ c = 7 ∨ c = 8 ∨ c = 9 ∨ c = 10 by omega) with e | e | e | e | e | e | e | e | e | e | e <;> subst e <;> decide +kernel
theorem anyO {cs : ClassId × ClassId × ClassId} {ad : Nm → Nat} {g : Hp} {s : State} {H : Heap} {D : va_G} {n : Nm} (htb : TB s) (hK : va_K D vwCl (tyl cs) s) (hP : va_P D vwCl (wld cs ad g) H) (hn : n ∈ gL g) (hc : n.1 < 11) : va_Any "java/lang/Object" s H (ad n) := by
  obtain ⟨q, hq, he⟩ := wat (cs := cs) (ad := ad) hn
  rw [ent_o hc] at he
  obtain ⟨w, h1, h2⟩ := vwCl_at n.1 hc
  have hcast := htb _ (castO n.1 hc) rfl #[]
  rw [← h2] at hcast
  obtain ⟨a, b, c1, c2, c3⟩ := Cond.castable_spec hcast
  refine va_rAny hK hP he h1 (fun comp c0 e1 e2 => ?_)
  cases e1.symm.trans c2
  cases e2.symm.trans c1
  exact c3
theorem ent_cpI {cs : ClassId × ClassId × ClassId} {ad : Nm → Nat} {g : Hp} {a b m : Nm} {sp dp n : Nat} (h : m ≠ b) : ent cs ad (cpI g a sp b dp n) m = ent cs ad g m := by
  have e1 : gI (cpI g a sp b dp n) m = gI g m := by funext j; simp [cpI, gI, h]
  have e2 : gR (cpI g a sp b dp n) = gR g := rfl
  have e3 : gN (cpI g a sp b dp n) = gN g := rfl
  have e4 : fv ad (cpI g a sp b dp n) m = fv ad g m := by funext j b; simp only [fv, e1, e2]
  simp only [ent, e1, e2, e3, e4]
theorem ent_cpR {cs : ClassId × ClassId × ClassId} {ad : Nm → Nat} {g : Hp} {a b m : Nm} {sp dp n : Nat} (h : m ≠ b) : ent cs ad (cpR g a sp b dp n) m = ent cs ad g m := by
  have e1 : gI (cpR g a sp b dp n) = gI g := rfl
  have e2 : gR (cpR g a sp b dp n) m = gR g m := by funext j; simp [cpR, gR, h]
  have e3 : gN (cpR g a sp b dp n) = gN g := rfl
  have e4 : fv ad (cpR g a sp b dp n) m = fv ad g m := by funext j b; simp only [fv, e1, e2]
  simp only [ent, e1, e2, e3, e4]
theorem cpy_map {α β : Type} (h : α → β) (f g : Nat → α) (sp dp n : Nat) : (fun j => h (va_cpy f g sp dp n j)) = va_cpy (fun j => h (f j)) (fun j => h (g j)) sp dp n := by
  funext j
  simp only [va_cpy]
  split <;> rfl
theorem Cl.cpR {g : Hp} {a b : Nm} {sp dp n : Nat} (h : Cl g) (ha : a ∈ gL g) : Cl (cpR g a sp b dp n) := by
  intro m hm j
  show okr g (if m = b then va_cpy (gR g a) (gR g b) sp dp n j else gR g m j)
  split
  · rename_i e
    subst e
    simp only [va_cpy]
    split
    · exact h a ha _
    · exact h m hm j
  · exact h m hm j
section ORU
variable {ρ : Type} {y : MethodName} {cc : ByteArray} {nL : Nat} {rt : Option FieldType} {rf rl : Nat} {X : Xt ρ} {g : Hp} {pc : Nat} {lv lv' : List (Nat × SV)} {st : List SV} {pr pr2 : Option (ρ × Hp)}
theorem j_astR {r v : Option Nm} {i : Int32} {F : Hp → Option (ρ × Hp)} (hd : decode cc pc = .ok (.aastore, 1)) (hp : pr = (astR r i v g).bind F) (kk : ∀ g1, J y cc nL rt rf rl X g1 (pc + 1) lv st (F g1)) : J y cc nL rt rf rl X g pc lv (sR v :: sI i :: sR r :: st) pr := by
  subst hp
  cases r with
  | none => exact J.none
  | some n =>
    cases v with
    | none => exact J.none
    | some w =>
      by_cases hn : (12 ≤ n.1 ∧ n.1 < 17) ∧ vp_in i (gN g n) ∧ w.1 < 11
      · have e : (astR (some n) i (some w) g).bind F = F (setR g n i.toNatClampNeg (some w)) := by simp only [astR, if_pos hn, Option.bind_some]
        refine J.eq e (J.w (g1 := setR g n i.toNatClampNeg (some w)) (fun p l e s m args below meth c0 R H locs cells slots Q D cs A ad ls hx hb hz hml hw hnm htb hK hE hR hC hP hD hS hol hos K0 => ?_) rfl ⟨rfl, rfl⟩ (fun h0 h => Cl.setR h0 h.head) (fun h => h.tail.tail.tail) (kk _))
        have hwin := okr_in hos.head (Or.inl (by omega))
        obtain ⟨q, hq, he⟩ := wat (cs := cs) (ad := ad) (okr_in hos.tail.tail.head (Or.inl hn.1.2))
        have hset := wset (cs := cs) (ad := ad) (g1 := setR g n i.toNatClampNeg (some w)) hD hq rfl (ent_r hn.1.1 hn.1.2) (fun m hm => ent_setR hm)
        rw [ent_r hn.1.1 hn.1.2] at he
        have e9 : (fun j => (gR (setR g n i.toNatClampNeg (some w)) n j).map ad) = va_up (fun j => (gR g n j).map ad) i.toNatClampNeg (some (ad w)) := by
          funext j
          simp only [setR, gR, va_up]
          by_cases hj : j = i.toNatClampNeg <;> simp [hj]
        have e8 : gN (setR g n i.toNatClampNeg (some w)) n = gN g n := rfl
        rw [e9, e8] at hset
        exact va_astqM hx hb hK hP hD hS q 2 he rfl (anyO htb hK hP hwin hn.2.2) hn.2.1 hd (by rw [← hset] at K0; exact K0)
      · have e : (astR (some n) i (some w) g).bind F = none := by simp only [astR, if_neg hn, Option.bind_none]
        exact J.eq e J.none
def FLA (own : String) (ix : Nat) : Prop := (Cond.methodLink own ix arraycopyName ∈ lw_tbl ∧ okW (Cond.methodLink own ix arraycopyName) = true) ∧ (Cond.native arraycopyName ∈ lw_tbl ∧ okW (Cond.native arraycopyName) = true) ∧ (Cond.static arraycopyName ∈ lw_tbl ∧ okW (Cond.static arraycopyName) = true) ∧ (Cond.initialized "java/lang/System" ∈ lw_tbl ∧ okW (Cond.initialized "java/lang/System") = true)
theorem stm_cat (ad : Nm → Nat) (st : List SV) : ((stm ad st).map fun v => v.category) = st.map sc := by
  simp only [stm, List.map_map]
  exact List.map_congr_left fun v _ => cv_cat ad v
theorem j_cpyI {own : String} {ix : Nat} {a b : Option Nm} {sp dp n : Int32} {F : Hp → Option (ρ × Hp)} (hd : decode cc pc = .ok (.invokestatic ix, 3)) (hF : FLA own ix) (ho : own = y.cls) (hr : 1 ≤ rf ∧ (st.map sc).sum + (nativeFrameWords "java/lang/System" "arraycopy" 5 + 11) ≤ rl) (hp : pr = (cpyI a sp b dp n g).bind F) (kk : ∀ g1, J y cc nL rt rf rl X g1 (pc + 3) lv st (F g1)) : J y cc nL rt rf rl X g pc lv (sI n :: sI dp :: sR b :: sI sp :: sR a :: st) pr := by
  subst hp
  cases a with
  | none => exact J.none
  | some u =>
    cases b with
    | none => exact J.none
    | some v =>
      by_cases hn : ((20 ≤ u.1 ∧ u.1 < 60) ∧ (20 ≤ v.1 ∧ v.1 < 60)) ∧ (¬ sp < 0 ∧ ¬ dp < 0 ∧ ¬ n < 0) ∧ sp.toNatClampNeg + n.toNatClampNeg ≤ gN g u ∧ dp.toNatClampNeg + n.toNatClampNeg ≤ gN g v
      · have e : (cpyI (some u) sp (some v) dp n g).bind F = F (cpI g u sp.toNatClampNeg v dp.toNatClampNeg n.toNatClampNeg) := by simp only [cpyI, if_pos hn, Option.bind_some]
        refine J.eq e (J.w (g1 := cpI g u sp.toNatClampNeg v dp.toNatClampNeg n.toNatClampNeg) (fun p l e s m args below meth c0 R H locs cells slots Q D cs A ad ls hx hb hz hml hw hnm htb hK hE hR hC hP hD hS hol hos K0 => ?_) rfl ⟨rfl, rfl⟩ (fun h0 h => h0) (fun h => h.tail.tail.tail.tail.tail) (kk _))
        have hu := okr_in hos.tail.tail.tail.tail.head (Or.inr hn.1.1.1)
        have hv := okr_in hos.tail.tail.head (Or.inr hn.1.2.1)
        obtain ⟨q, hq, he⟩ := wat (cs := cs) (ad := ad) hv
        obtain ⟨q0, hq0, he0⟩ := wat (cs := cs) (ad := ad) hu
        have hset := wset (cs := cs) (ad := ad) (g1 := cpI g u sp.toNatClampNeg v dp.toNatClampNeg n.toNatClampNeg) hD hq rfl (ent_i hn.1.2.1 hn.1.2.2) (fun m hm => ent_cpI hm)
        rw [ent_i hn.1.2.1 hn.1.2.2] at he
        rw [ent_i hn.1.1.1 hn.1.1.2] at he0
        have e9 : gI (cpI g u sp.toNatClampNeg v dp.toNatClampNeg n.toNatClampNeg) v = va_cpy (gI g u) (gI g v) sp.toNatClampNeg dp.toNatClampNeg n.toNatClampNeg := by
          funext j; simp [cpI, gI]
        have e8 : gN (cpI g u sp.toNatClampNeg v dp.toNatClampNeg n.toNatClampNeg) v = gN g v := rfl
        rw [e9, e8] at hset
        exact va_copyi (own := own) (ty := .int) hx hb (hml.trans hz.symm) (by rw [ho]; exact hw) (htb _ hF.1.1 hF.1.2 args) (htb _ hF.2.1.1 hF.2.1.2 args) (htb _ hF.2.2.1.1 hF.2.2.1.2 args) (htb _ hF.2.2.2.1 hF.2.2.2.2 args) hK hP hD hS q0 q 0 0 he0 he rfl rfl rfl hn.2.1.1 hn.2.1.2.1 hn.2.1.2.2 hn.2.2.1 hn.2.2.2 (fun _ _ => rfl) (by rw [hR.1]; exact hr.1) (by rw [hR.2]; have := hr.2; rw [← stm_cat ad st] at this; exact this) hd (by rw [← hset] at K0; exact K0)
      · have e : (cpyI (some u) sp (some v) dp n g).bind F = none := by simp only [cpyI, if_neg hn, Option.bind_none]
        exact J.eq e J.none
theorem j_cpyR {own : String} {ix : Nat} {a b : Option Nm} {sp dp n : Int32} {F : Hp → Option (ρ × Hp)} (hd : decode cc pc = .ok (.invokestatic ix, 3)) (hF : FLA own ix) (ho : own = y.cls) (hr : 1 ≤ rf ∧ (st.map sc).sum + (nativeFrameWords "java/lang/System" "arraycopy" 5 + 11) ≤ rl) (hp : pr = (cpyR a sp b dp n g).bind F) (kk : ∀ g1, J y cc nL rt rf rl X g1 (pc + 3) lv st (F g1)) : J y cc nL rt rf rl X g pc lv (sI n :: sI dp :: sR b :: sI sp :: sR a :: st) pr := by
  subst hp
  cases a with
  | none => exact J.none
  | some u =>
    cases b with
    | none => exact J.none
    | some v =>
      by_cases hn : ((12 ≤ u.1 ∧ u.1 < 17) ∧ (12 ≤ v.1 ∧ v.1 < 17)) ∧ (¬ sp < 0 ∧ ¬ dp < 0 ∧ ¬ n < 0) ∧ sp.toNatClampNeg + n.toNatClampNeg ≤ gN g u ∧ dp.toNatClampNeg + n.toNatClampNeg ≤ gN g v ∧ (∀ i, i < n.toNatClampNeg → ∀ w, gR g u (sp.toNatClampNeg + i) = some w → w.1 < 11)
      · have e : (cpyR (some u) sp (some v) dp n g).bind F = F (cpR g u sp.toNatClampNeg v dp.toNatClampNeg n.toNatClampNeg) := by simp only [cpyR, if_pos hn, Option.bind_some]
        refine J.eq e (J.wc (g1 := cpR g u sp.toNatClampNeg v dp.toNatClampNeg n.toNatClampNeg) (fun p l e s m args below meth c0 R H locs cells slots Q D cs A ad ls hx hb hz hml hw hnm htb hK hE hR hC hP hD hS hol hos h0 K0 => ?_) rfl ⟨rfl, rfl⟩ (fun h0 h => Cl.cpR h0 (okr_in h.tail.tail.tail.tail.head (Or.inl hn.1.1.2))) (fun h => h.tail.tail.tail.tail.tail) (kk _))
        have hu := okr_in hos.tail.tail.tail.tail.head (Or.inl hn.1.1.2)
        have hv := okr_in hos.tail.tail.head (Or.inl hn.1.2.2)
        obtain ⟨q, hq, he⟩ := wat (cs := cs) (ad := ad) hv
        obtain ⟨q0, hq0, he0⟩ := wat (cs := cs) (ad := ad) hu
        have hset := wset (cs := cs) (ad := ad) (g1 := cpR g u sp.toNatClampNeg v dp.toNatClampNeg n.toNatClampNeg) hD hq rfl (ent_r hn.1.2.1 hn.1.2.2) (fun m hm => ent_cpR hm)
        rw [ent_r hn.1.2.1 hn.1.2.2] at he
        rw [ent_r hn.1.1.1 hn.1.1.2] at he0
        have e9 : (fun j => (gR (cpR g u sp.toNatClampNeg v dp.toNatClampNeg n.toNatClampNeg) v j).map ad) = va_cpy (fun j => (gR g u j).map ad) (fun j => (gR g v j).map ad) sp.toNatClampNeg dp.toNatClampNeg n.toNatClampNeg := by
          rw [← cpy_map (fun r : Option Nm => r.map ad)]
          funext j; simp [cpR, gR]
        have e8 : gN (cpR g u sp.toNatClampNeg v dp.toNatClampNeg n.toNatClampNeg) v = gN g v := rfl
        rw [e9, e8] at hset
        refine va_copyM (own := own) (E1 := "java/lang/Object") hx hb (hml.trans hz.symm) (by rw [ho]; exact hw) (htb _ hF.1.1 hF.1.2 args) (htb _ hF.2.1.1 hF.2.1.2 args) (htb _ hF.2.2.1.1 hF.2.2.1.2 args) (htb _ hF.2.2.2.1 hF.2.2.2.2 args) hK hP hD hS q0 q 2 2 he0 he rfl rfl hn.2.1.1 hn.2.1.2.1 hn.2.1.2.2 hn.2.2.1 hn.2.2.2.1 (fun i hi z hz2 => ?_) (by rw [hR.1]; exact hr.1) (by rw [hR.2]; have := hr.2; rw [← stm_cat ad st] at this; exact this) hd (by rw [← hset] at K0; exact K0)
        cases hw2 : gR g u (sp.toNatClampNeg + i) with
        | none => rw [hw2] at hz2; cases hz2
        | some w =>
          rw [hw2] at hz2
          cases hz2
          have hc := hn.2.2.2.2 i hi w hw2
          exact anyO htb hK hP ((h0 u hu _ w hw2).elim (fun z => z) (fun z => absurd z (notX_lt (by omega)))) hc
      · have e : (cpyR (some u) sp (some v) dp n g).bind F = none := by simp only [cpyR, if_neg hn, Option.bind_none]
        exact J.eq e J.none
end ORU
