/-! making cells -/
def upn (f : Nm → Nat) (n : Nm) (q : Nat) : Nm → Nat := fun m => if m = n then q else f m
theorem wnew {cs : ClassId × ClassId × ClassId} {ad : Nm → Nat} {g : Hp} {n : Nm} {len sz q : Nat} (h0 : Cl g) (hn : n ∉ gL g) (hx : ¬ isX n) : wld cs (upn ad n q) (newN g n len sz) = wld cs ad g ++ [(q, ent cs (upn ad n q) (newN g n len sz) n)] := by
  have e1 : gL (newN g n len sz) = gL g ++ [n] := rfl
  unfold wld
  rw [e1, List.map_append]
  congr 1
  · apply List.map_congr_left
    intro m hm
    have hmn : m ≠ n := fun e => hn (e ▸ hm)
    have a1 : upn ad n q m = ad m := by simp [upn, hmn]
    have a2 : gI (newN g n len sz) m = gI g m := by funext j; simp [newN, gI, hmn]
    have a3 : ∀ j, gR (newN g n len sz) m j = gR g m j := fun j => by simp [newN, gR, hmn]
    have a4 : gN (newN g n len sz) m = gN g m := by simp [newN, gN, hmn]
    have a5 : ∀ j, (gR (newN g n len sz) m j).map (upn ad n q) = (gR g m j).map ad := fun j => by
      rw [a3 j]
      cases hr : gR g m j with
      | none => rfl
      | some w =>
        have hw : w ≠ n := by
          intro e
          rcases h0 m hm j w hr with h | h
          · exact hn (e ▸ h)
          · exact hx (e ▸ h)
        simp [upn, hw]
    have a6 : fv (upn ad n q) (newN g n len sz) m = fv ad g m := by funext j b; simp only [fv, a2, a5]
    rw [a1]
    simp only [ent, a2, a4, a5, a6]
  · simp [upn]
theorem Cl.newN {g : Hp} {n : Nm} {len sz : Nat} (h : Cl g) : Cl (newN g n len sz) := by
  intro m hm j w hw
  have e : gR (_root_.Jvm.Pilot.CFirstSecondsLaw_law_r5573_9f0cfd.newN g n len sz) m j = if m = n then none else gR g m j := rfl
  rw [e] at hw
  split at hw
  · cases hw
  · rename_i hmn
    have hm2 : m ∈ gL g ++ [n] := hm
    rcases List.mem_append.mp hm2 with h2 | h2
    · rcases h m h2 j w hw with h3 | h3
      · exact Or.inl (List.mem_append_left _ h3)
      · exact Or.inr h3
    · exact absurd (List.mem_singleton.mp h2) hmn
def FLN (own : String) (ix c : Nat) : Prop := ∃ (C : String) (T : u_T) (N : Nat) (ty : Nat → FieldType), (vwCl[c]? = some (C, T, N) ∧ c < 11 ∧ N = (flds c).length) ∧ (∀ k, k < N → parseFieldDescriptor (T k).2.2.1 = some (ty k)) ∧ (∀ j, j < N → ∀ b, (flds c)[j]? = some b → defaultValue (ty j) = if b = true then .null else .int 0) ∧ (∀ w ∈ u_ws C T N, w ∈ lw_tbl ∧ okW w = true) ∧
  (Cond.classLink own ix C ∈ lw_tbl ∧ okW (Cond.classLink own ix C) = true) ∧ (Cond.instantiable C N ∈ lw_tbl ∧ okW (Cond.instantiable C N) = true) ∧ (Cond.initialized C ∈ lw_tbl ∧ okW (Cond.initialized C) = true)
section MRU
variable {ρ : Type} {y : MethodName} {cc : ByteArray} {nL : Nat} {rt : Option FieldType} {rf rl : Nat} {X : Xt ρ} {g : Hp} {pc : Nat} {lv lv' : List (Nat × SV)} {st : List SV} {pr pr2 : Option (ρ × Hp)}
theorem J.n {pc' : Nat} {st' : List SV} {n : Nm} {len sz : Nat} (hn : n ∉ gL g) (hnx : ¬ isX n) (hW : ∀ (p : Program) (l : Launch) (e : Env) (s : State) (m : MethodId) (args : Array Value) (below : List Frame) (meth : Method) (c : Code) (R : Room) (H : Heap) (locs : List Loc) (cells slots : Nat) (Q : State → Prop) (D : va_G) (cs : ClassId × ClassId × ClassId) (A : Nat → Prop) (ad : Nm → Nat) (ls : Array Slot),
      p.tables.exec = Jvm.exec → c.code = cc → s.vm.findClass y.cls = some m.cls → TB s → va_K D vwCl (tyl cs) s → EX ad A s s.heap → (∀ q : Nat, s.heap.size ≤ q → A q) → cells + 1 ≤ R.cells ∧ slots + sz ≤ R.slots → va_P D vwCl (wld cs ad g) H → va_D A (wld cs ad g) → va_S A s.heap H locs →
      (∀ q H1, va_P D vwCl (wld cs ad g ++ [(q, ent cs (upn ad n q) (newN g n len sz) n)]) H1 → va_D A (wld cs ad g ++ [(q, ent cs (upn ad n q) (newN g n len sz) n)]) → va_S A s.heap H1 locs → W p l e R s m args below meth c H1 locs (cells + 1) (slots + sz) Q (F0 m pc' ls (.ref q :: stm ad st'))) → W p l e R s m args below meth c H locs cells slots Q (F0 m pc ls (stm ad st)))
    (hok : oks g st → oks g st') (k : J y cc nL rt rf rl X (newN g n len sz) pc' lv (sR (some n) :: st') pr) : J y cc nL rt rf rl X g pc lv st pr := by
  obtain ⟨⟨p, l, e, s, m, args, below, meth, c⟩, ⟨D, cs, A⟩, ad0, g0, RF, QF⟩ := X
  intro r g' h
  obtain ⟨a, b⟩ := k r g' h
  have hM1 : Mn g (newN g n len sz) := ⟨Nat.le_succ _, Nat.le_add_right _ _, fun w hw => List.mem_append_left _ hw⟩
  have a' := hM1.tr a
  refine ⟨a', fun hG hM hc ad H locs ls h1 h2 h3 h4 h5 h6 h7 h0 => ?_⟩
  obtain ⟨x1, x2, x3, x4, x5, x6, x7, x8, x9, x10, x11, x12⟩ := id hG
  have b1 : gc (newN g n len sz) = gc g + 1 := rfl
  have b2 : gs (newN g n len sz) = gs g + sz := rfl
  have hcc : gc g - gc g0 + 1 ≤ (RF g').cells ∧ gs g - gs g0 + sz ≤ (RF g').slots := by
    have c1 := a.1
    have c2 := a.2.1
    rw [b1] at c1
    rw [b2] at c2
    have c3 := hM.1
    have c4 := hM.2.1
    constructor
    · refine Nat.le_trans ?_ hc.1; omega
    · refine Nat.le_trans ?_ hc.2; omega
  refine hW p l e s m args below meth c _ H locs _ _ _ D cs A ad ls x1 x2 x4 x8 x9 (x11.ad (h1 _ (Or.inr (Or.inl rfl))) (h1 _ (Or.inr (Or.inr (Or.inr rfl))))) x10 hcc h2 h3 h4 (fun q H1 q2 q3 q4 => ?_)
  rw [← wnew h0 hn hnx] at q2 q3
  have hag : Ag g ad (upn ad n q) := fun w hw => by
    have : w ≠ n := fun e => hw.elim (fun z => hn (e ▸ z)) (fun z => hnx (e ▸ z))
    simp [upn, this]
  have hag0 : Ag g0 ad0 (upn ad n q) := fun w hw => by
    rw [hag w (hw.elim (fun z => Or.inl (hM.2.2 w z)) Or.inr)]
    exact h1 w hw
  have hk := b hG (hM.tr hM1) hc (upn ad n q) H1 locs ls hag0 q2 q3 q4 (by rw [lvm_ag hag h6]; exact h5) (h6.mn hM1) (((hok h7).mn hM1).cons (v := sR (some n)) (fun w hw => by cases hw; exact Or.inl (List.mem_append_right _ List.mem_cons_self))) h0.newN
  have e1 : stm (upn ad n q) (sR (some n) :: st') = .ref q :: stm ad st' := by
    show va_rf (some (upn ad n q n)) :: stm (upn ad n q) st' = _
    rw [stm_ag hag (hok h7)]
    simp [upn, va_rf]
  rw [e1, b1, b2] at hk
  have e2 : gc g + 1 - gc g0 = gc g - gc g0 + 1 := by have := hM.1; omega
  have e3 : gs g + sz - gs g0 = gs g - gs g0 + sz := by have := hM.2.1; omega
  rw [e2, e3] at hk
  exact hk
theorem notX_lt {n : Nm} (h : n.1 < 17) : ¬ isX n := by rintro (e | e | e) <;> subst e <;> exact absurd h (by decide)
theorem notX_ge {n : Nm} (h : 20 ≤ n.1) : ¬ isX n := by rintro (e | e | e) <;> subst e <;> exact absurd h (by decide)
theorem j_mkO {own : String} {ix c : Nat} {n : Nm} {F : Option Nm × Hp → Option (ρ × Hp)} (hd : decode cc pc = .ok (.new ix, 3)) (hF : FLN own ix c) (ho : own = y.cls) (hp : pr = (mkO n c g).bind F) (kk : ∀ r g1, J y cc nL rt rf rl X g1 (pc + 3) lv (sR r :: st) (F (r, g1))) : J y cc nL rt rf rl X g pc lv st pr := by
  subst hp
  obtain ⟨C, T, N, ty, ⟨a1, a2, a3⟩, a4, a5, a6, a7, a8, a9⟩ := hF
  by_cases hn : n.1 = c ∧ n ∉ gL g
  · have e : (mkO n c g).bind F = F (some n, newN g n 0 (flds c).length) := by simp [mkO, hn]
    refine J.eq e (J.n hn.2 (notX_lt (by omega)) (fun p l e s m args below meth c0 R H locs cells slots Q D cs A ad ls hx hb hw htb hK hE hA hC hP hD hS K0 => ?_) (fun h => h) (kk _ _))
    have hent : ∀ q, ent cs (upn ad n q) (newN g n 0 (flds c).length) n = .inr (c, (flds c).mapIdx (fun _ b => if b = true then .null else .int 0)) := by
      intro q
      rw [ent_o (by omega), hn.1]
      congr 2
      congr 1
      funext k b
      simp [fv, newN, gI, gR, va_rf]
    simp only [hent] at K0
    subst a3
    exact va_new (Ts := u_ws C T (flds c).length) hx hb (fun w hw2 => htb w (a6 w hw2).1 (a6 w hw2).2 args) (fun _ h => h) ty a4 (by rw [ho]; exact hw) (htb _ a7.1 a7.2 args) (htb _ a8.1 a8.2 args) (htb _ a9.1 a9.2 args) hK hP hD hS hA a1 (fun j hj => by
      have hb2 := List.getElem?_eq_getElem hj
      rw [a5 j hj _ hb2]
      simp [vp_V, List.getD_eq_getElem?_getD, List.getElem?_mapIdx, hb2]) hC.1 hC.2 hd K0
  · have e : (mkO n c g).bind F = none := by simp only [mkO, if_neg hn, Option.bind_none]
    exact J.eq e J.none
theorem j_mkI {n : Nm} {len : Int32} {F : Option Nm × Hp → Option (ρ × Hp)} (hd : decode cc pc = .ok (.newarray .int, 2)) (hw0 : Cond.arrayClass .int ∈ lw_tbl) (hp : pr = (mkI n len g).bind F) (kk : ∀ r g1, J y cc nL rt rf rl X g1 (pc + 2) lv (sR r :: st) (F (r, g1))) : J y cc nL rt rf rl X g pc lv (sI len :: st) pr := by
  subst hp
  by_cases hn : (20 ≤ n.1 ∧ n.1 < 60) ∧ n ∉ gL g ∧ ¬ len < 0 ∧ len.toNatClampNeg ≤ 100000
  · have e : (mkI n len g).bind F = F (some n, newN g n len.toNatClampNeg len.toNatClampNeg) := by simp only [mkI, if_pos hn, Option.bind_some]
    refine J.eq e (J.n hn.2.1 (notX_ge hn.1.1) (fun p l e s m args below meth c0 R H locs cells slots Q D cs A ad ls hx hb hw htb hK hE hA hC hP hD hS K0 => ?_) (fun h => h.tail) (kk _ _))
    have hent : ∀ q, ent cs (upn ad n q) (newN g n len.toNatClampNeg len.toNatClampNeg) n = .inl (cs.1, len.toNatClampNeg, .inl (fun _ => 0)) := by
      intro q
      rw [ent_i hn.1.1 hn.1.2]
      simp [newN, gI, gN]
    simp only [hent] at K0
    refine va_newa (atype := .int) (ty := .int) (a0 := (len.toNatClampNeg, .inl (fun _ => 0))) hx hb (htb _ hw0 rfl args) rfl hK hP hD hS hA (fun _ => rfl) hn.2.2.1 rfl (by have := hn.2.2.2; have e : componentBytes FieldType.int = 4 := rfl; rw [e]; omega) hC.1 hC.2 hd (fun q cA H1 k1 k2 k3 k4 => ?_)
    have e1 : va_RA s cs.1 .int := (hK.2 0 _ rfl).2
    have e2 : va_RA s cA .int := (k1.2 3 _ rfl).2
    have e3 : cA = cs.1 := Option.some.inj (e2.symm.trans e1)
    subst e3
    exact K0 q H1 k2 k3 k4
  · have e : (mkI n len g).bind F = none := by simp only [mkI, if_neg hn, Option.bind_none]
    exact J.eq e J.none
theorem j_mkR {own : String} {ix : Nat} {n : Nm} {len : Int32} {F : Option Nm × Hp → Option (ρ × Hp)} (hd : decode cc pc = .ok (.anewarray ix, 3)) (ho : own = y.cls) (hw0 : Cond.classLink own ix "java/lang/Object" ∈ lw_tbl) (hp : pr = (mkR n len g).bind F) (kk : ∀ r g1, J y cc nL rt rf rl X g1 (pc + 3) lv (sR r :: st) (F (r, g1))) : J y cc nL rt rf rl X g pc lv (sI len :: st) pr := by
  subst hp
  by_cases hn : (12 ≤ n.1 ∧ n.1 < 17) ∧ n ∉ gL g ∧ ¬ len < 0 ∧ len.toNatClampNeg ≤ 100000
  · have e : (mkR n len g).bind F = F (some n, newN g n len.toNatClampNeg len.toNatClampNeg) := by simp only [mkR, if_pos hn, Option.bind_some]
    refine J.eq e (J.n hn.2.1 (notX_lt hn.1.2) (fun p l e s m args below meth c0 R H locs cells slots Q D cs A ad ls hx hb hw htb hK hE hA hC hP hD hS K0 => ?_) (fun h => h.tail) (kk _ _))
    have hent : ∀ q, ent cs (upn ad n q) (newN g n len.toNatClampNeg len.toNatClampNeg) n = .inl (cs.2.2, len.toNatClampNeg, .inr (.inr (.inr (.inr (fun _ => none))))) := by
      intro q
      rw [ent_r hn.1.1 hn.1.2]
      simp [newN, gR, gN]
    simp only [hent] at K0
    refine va_newq (own := own) (C := "java/lang/Object") hx hb (by rw [ho]; exact hw) (htb _ hw0 rfl args) hE.2.2.2.1 hK hP hD hS hA hn.2.2.1 rfl (by have := hn.2.2.2; omega) hC.1 hC.2 hd (fun q cA H1 k1 k2 k3 k4 => ?_)
    obtain ⟨_, _, _, _, _, e1⟩ : va_RA s cs.2.2 (.object "java/lang/Object") := (hK.2 2 _ rfl).2
    obtain ⟨_, _, _, _, _, e2⟩ : va_RA s cA (.object "java/lang/Object") := (k1.2 3 _ rfl).2
    have e3 : cA = cs.2.2 := Option.some.inj (e2.symm.trans e1)
    subst e3
    exact K0 q H1 k2 k3 k4
  · have e : (mkR n len g).bind F = none := by simp only [mkR, if_neg hn, Option.bind_none]
    exact J.eq e J.none
end MRU
