/-! what the tables say of a field, by the place in the constant pool -/
def FLK (own : String) (ix c k : Nat) (b : Bool) : Prop := ∃ (C : String) (T : u_T) (N : Nat) (ref : String), (vwCl[c]? = some (C, T, N) ∧ k < N ∧ (flds c)[k]? = some b ∧ c < 11) ∧ (∀ w ∈ u_ws C T N, w ∈ lw_tbl ∧ okW w = true) ∧
  ((Cond.fieldLink own ix ref (T k).2.1 (T k).2.2.1 ∈ lw_tbl ∧ okW (Cond.fieldLink own ix ref (T k).2.1 (T k).2.2.1) = true) ∨ ∃ host, Cond.fieldLinkNest own ix ref (T k).2.1 (T k).2.2.1 host ∈ lw_tbl) ∧ (ref = (T k).1 ∨ (Cond.sameField ref (T k).1 (T k).2.1 (T k).2.2.1 ∈ lw_tbl ∧ okW (Cond.sameField ref (T k).1 (T k).2.1 (T k).2.2.1) = true))
def FLT (c k : Nat) (ty : FieldType) : Prop := ∃ (C : String) (T : u_T) (N : Nat) (t0 : Nat → FieldType), vwCl[c]? = some (C, T, N) ∧ parseFieldDescriptor (T k).2.2.1 = some ty ∧ (∀ k, k < N → parseFieldDescriptor (T k).2.2.1 = some (t0 k)) ∧ (∀ a, a < N → ∀ b, b < N → a ≠ b → (T a).2.1 ≠ (T b).2.1)
/-- a field that may be written: not final, or by its own constructor -/
def FLW (y : MethodName) (own : String) (ix c k : Nat) : Prop := ∃ (C : String) (T : u_T) (N : Nat), vwCl[c]? = some (C, T, N) ∧ ((T k).2.2.2 = false ∨ ((T k).2.2.2 = true ∧ y.name = "<init>" ∧ (T k).1 = y.cls ∧ Cond.fieldLink own ix (T k).1 (T k).2.1 (T k).2.2.1 ∈ lw_tbl ∧ okW (Cond.fieldLink own ix (T k).1 (T k).2.1 (T k).2.2.1) = true))
theorem okr_in {g : Hp} {n : Nm} (h : okv g (sR (some n))) (h1 : n.1 < 17 ∨ 20 ≤ n.1) : n ∈ gL g := by
  rcases h n rfl with h2 | h2
  · exact h2
  · rcases h2 with e | e | e <;> subst e <;> rcases h1 with h1 | h1 <;> exact absurd h1 (by decide)
theorem Cl.setR {g : Hp} {n : Nm} {k : Nat} {r : Option Nm} (h : Cl g) (hr : okv g (sR r)) : Cl (setR g n k r) := by
  intro m hm j
  show okr g (if m = n ∧ j = k then r else gR g m j)
  split
  · exact hr
  · exact h m hm j
section HRU
variable {ρ : Type} {y : MethodName} {cc : ByteArray} {nL : Nat} {rt : Option FieldType} {rf rl : Nat} {X : Xt ρ} {g : Hp} {pc : Nat} {lv lv' : List (Nat × SV)} {st : List SV} {pr pr2 : Option (ρ × Hp)}
/-- a step that reads the heap -/
theorem J.r {pc' : Nat} {st' : List SV} (hW : ∀ (p : Program) (l : Launch) (e : Env) (s : State) (m : MethodId) (args : Array Value) (below : List Frame) (meth : Method) (c : Code) (R : Room) (H : Heap) (locs : List Loc) (cells slots : Nat) (Q : State → Prop) (D : va_G) (cs : ClassId × ClassId × ClassId) (A : Nat → Prop) (ad : Nm → Nat) (ls : Array Slot),
      p.tables.exec = Jvm.exec → c.code = cc → ls.size = nL → c.maxLocals = nL → s.vm.findClass y.cls = some m.cls → TB s → va_K D vwCl (tyl cs) s → EX ad A s s.heap → R.frames = rf ∧ R.locals = rl → cells ≤ R.cells ∧ slots ≤ R.slots → va_P D vwCl (wld cs ad g) H → va_D A (wld cs ad g) → va_S A s.heap H locs → okl g lv → oks g st → W p l e R s m args below meth c H locs cells slots Q (F0 m pc' ls (stm ad st')) → W p l e R s m args below meth c H locs cells slots Q (F0 m pc ls (stm ad st)))
    (hok : Cl g → oks g st → oks g st') (k : J y cc nL rt rf rl X g pc' lv st' pr) : J y cc nL rt rf rl X g pc lv st pr := by
  obtain ⟨⟨p, l, e, s, m, args, below, meth, c⟩, ⟨D, cs, A⟩, ad0, g0, RF, QF⟩ := X
  intro r g' h
  obtain ⟨a, b⟩ := k r g' h
  refine ⟨a, fun hG hM hc ad H locs ls h1 h2 h3 h4 h5 h6 h7 h0 => ?_⟩
  obtain ⟨x1, x2, x3, x4, x5, x6, x7, x8, x9, x10, x11, x12⟩ := id hG
  have hcc : gc g - gc g0 ≤ (RF g').cells ∧ gs g - gs g0 ≤ (RF g').slots := ⟨Nat.le_trans (Nat.sub_le_sub_right a.1 _) hc.1, Nat.le_trans (Nat.sub_le_sub_right a.2.1 _) hc.2⟩
  exact hW p l e s m args below meth c _ H locs _ _ _ D cs A ad ls x1 x2 h5.1 x3 x4 x8 x9 (x11.ad (h1 _ (Or.inr (Or.inl rfl))) (h1 _ (Or.inr (Or.inr (Or.inr rfl))))) (x12 g') hcc h2 h3 h4 h6 h7 (b hG hM hc ad H locs ls h1 h2 h3 h4 h5 h6 (hok h0 h7) h0)
/-- a step that writes the heap: the world behind it is another one -/
theorem J.w {pc' : Nat} {st' : List SV} {g1 : Hp} (hW : ∀ (p : Program) (l : Launch) (e : Env) (s : State) (m : MethodId) (args : Array Value) (below : List Frame) (meth : Method) (c : Code) (R : Room) (H : Heap) (locs : List Loc) (cells slots : Nat) (Q : State → Prop) (D : va_G) (cs : ClassId × ClassId × ClassId) (A : Nat → Prop) (ad : Nm → Nat) (ls : Array Slot),
      p.tables.exec = Jvm.exec → c.code = cc → ls.size = nL → c.maxLocals = nL → s.vm.findClass y.cls = some m.cls → (y.name = "<init>" → meth.name = "<init>") → TB s → va_K D vwCl (tyl cs) s → EX ad A s s.heap → R.frames = rf ∧ R.locals = rl → cells ≤ R.cells ∧ slots ≤ R.slots → va_P D vwCl (wld cs ad g) H → va_D A (wld cs ad g) → va_S A s.heap H locs → okl g lv → oks g st →
      (∀ H1 locs1, va_P D vwCl (wld cs ad g1) H1 → va_D A (wld cs ad g1) → va_S A s.heap H1 locs1 → W p l e R s m args below meth c H1 locs1 cells slots Q (F0 m pc' ls (stm ad st'))) → W p l e R s m args below meth c H locs cells slots Q (F0 m pc ls (stm ad st)))
    (hL : gL g1 = gL g) (hcs : gc g1 = gc g ∧ gs g1 = gs g) (hcl : Cl g → oks g st → Cl g1) (hok : oks g st → oks g st') (k : J y cc nL rt rf rl X g1 pc' lv st' pr) : J y cc nL rt rf rl X g pc lv st pr := by
  obtain ⟨⟨p, l, e, s, m, args, below, meth, c⟩, ⟨D, cs, A⟩, ad0, g0, RF, QF⟩ := X
  intro r g' h
  obtain ⟨a, b⟩ := k r g' h
  have hM1 : Mn g g1 := ⟨Nat.le_of_eq hcs.1.symm, Nat.le_of_eq hcs.2.symm, fun n hn => by rw [hL]; exact hn⟩
  have a' := hM1.tr a
  refine ⟨a', fun hG hM hc ad H locs ls h1 h2 h3 h4 h5 h6 h7 h0 => ?_⟩
  obtain ⟨x1, x2, x3, x4, x5, x6, x7, x8, x9, x10, x11, x12⟩ := id hG
  have hcc : gc g - gc g0 ≤ (RF g').cells ∧ gs g - gs g0 ≤ (RF g').slots := ⟨Nat.le_trans (Nat.sub_le_sub_right a'.1 _) hc.1, Nat.le_trans (Nat.sub_le_sub_right a'.2.1 _) hc.2⟩
  have hk := b hG (hM.tr hM1) hc ad
  rw [hcs.1, hcs.2] at hk
  exact hW p l e s m args below meth c _ H locs _ _ _ D cs A ad ls x1 x2 h5.1 x3 x4 x7 x8 x9 (x11.ad (h1 _ (Or.inr (Or.inl rfl))) (h1 _ (Or.inr (Or.inr (Or.inr rfl))))) (x12 g') hcc h2 h3 h4 h6 h7 (fun H1 locs1 q2 q3 q4 => hk H1 locs1 ls h1 q2 q3 q4 h5 (h6.mn hM1) ((hok h7).mn hM1) (hcl h0 h7))
/-- the same, where the step needs that the heap is closed -/
theorem J.wc {pc' : Nat} {st' : List SV} {g1 : Hp} (hW : ∀ (p : Program) (l : Launch) (e : Env) (s : State) (m : MethodId) (args : Array Value) (below : List Frame) (meth : Method) (c : Code) (R : Room) (H : Heap) (locs : List Loc) (cells slots : Nat) (Q : State → Prop) (D : va_G) (cs : ClassId × ClassId × ClassId) (A : Nat → Prop) (ad : Nm → Nat) (ls : Array Slot),
      p.tables.exec = Jvm.exec → c.code = cc → ls.size = nL → c.maxLocals = nL → s.vm.findClass y.cls = some m.cls → (y.name = "<init>" → meth.name = "<init>") → TB s → va_K D vwCl (tyl cs) s → EX ad A s s.heap → R.frames = rf ∧ R.locals = rl → cells ≤ R.cells ∧ slots ≤ R.slots → va_P D vwCl (wld cs ad g) H → va_D A (wld cs ad g) → va_S A s.heap H locs → okl g lv → oks g st → Cl g →
      (∀ H1 locs1, va_P D vwCl (wld cs ad g1) H1 → va_D A (wld cs ad g1) → va_S A s.heap H1 locs1 → W p l e R s m args below meth c H1 locs1 cells slots Q (F0 m pc' ls (stm ad st'))) → W p l e R s m args below meth c H locs cells slots Q (F0 m pc ls (stm ad st)))
    (hL : gL g1 = gL g) (hcs : gc g1 = gc g ∧ gs g1 = gs g) (hcl : Cl g → oks g st → Cl g1) (hok : oks g st → oks g st') (k : J y cc nL rt rf rl X g1 pc' lv st' pr) : J y cc nL rt rf rl X g pc lv st pr := by
  obtain ⟨⟨p, l, e, s, m, args, below, meth, c⟩, ⟨D, cs, A⟩, ad0, g0, RF, QF⟩ := X
  intro r g' h
  obtain ⟨a, b⟩ := k r g' h
  have hM1 : Mn g g1 := ⟨Nat.le_of_eq hcs.1.symm, Nat.le_of_eq hcs.2.symm, fun n hn => by rw [hL]; exact hn⟩
  have a' := hM1.tr a
  refine ⟨a', fun hG hM hc ad H locs ls h1 h2 h3 h4 h5 h6 h7 h0 => ?_⟩
  obtain ⟨x1, x2, x3, x4, x5, x6, x7, x8, x9, x10, x11, x12⟩ := id hG
  have hcc : gc g - gc g0 ≤ (RF g').cells ∧ gs g - gs g0 ≤ (RF g').slots := ⟨Nat.le_trans (Nat.sub_le_sub_right a'.1 _) hc.1, Nat.le_trans (Nat.sub_le_sub_right a'.2.1 _) hc.2⟩
  have hk := b hG (hM.tr hM1) hc ad
  rw [hcs.1, hcs.2] at hk
  exact hW p l e s m args below meth c _ H locs _ _ _ D cs A ad ls x1 x2 h5.1 x3 x4 x7 x8 x9 (x11.ad (h1 _ (Or.inr (Or.inl rfl))) (h1 _ (Or.inr (Or.inr (Or.inr rfl))))) (x12 g') hcc h2 h3 h4 h6 h7 h0 (fun H1 locs1 q2 q3 q4 => hk H1 locs1 ls h1 q2 q3 q4 h5 (h6.mn hM1) ((hok h7).mn hM1) (hcl h0 h7))
theorem va_getL {p : Program} {l : Launch} {e : Env} {s : State} {m : MethodId} {args : Array Value} {below : List Frame} {meth : Method} {c : Code} {R : Room} {H : Heap} {locs : List Loc} {cells slots : Nat} {Q : State → Prop} {D : va_G} {cs : ClassId × ClassId × ClassId} {ad : Nm → Nat} {ls : Array Slot} {rest : List Value} {own : String} {ix cd k : Nat} {b : Bool} {n : Nm}
    (hF : FLK own ix cd k b) (ho : own = y.cls) (hx : p.tables.exec = Jvm.exec) (hb : c.code = cc) (hw : s.vm.findClass y.cls = some m.cls) (htb : TB s) (hK : va_K D vwCl (tyl cs) s) (hP : va_P D vwCl (wld cs ad g) H) (hn : n.1 = cd) (hin : n ∈ gL g) (hd : decode cc pc = .ok (.getfield ix, 3))
    (kk : W p l e R s m args below meth c H locs cells slots Q (F0 m (pc + 3) ls (fv ad g n k b :: rest))) : W p l e R s m args below meth c H locs cells slots Q (F0 m pc ls (.ref (ad n) :: rest)) := by
  obtain ⟨C, T, N, ref, ⟨h1, h2, h3, h4⟩, h5, h6, h7⟩ := hF
  subst hn
  obtain ⟨q, hq, he⟩ := wat (cs := cs) (ad := ad) hin
  rw [ent_o h4] at he
  have hsame : ∀ x, s.fieldFound? (T k).1 (T k).2.1 (T k).2.2.1 = some x → s.fieldFound? ref (T k).2.1 (T k).2.2.1 = some x := by
    rcases h7 with e | ⟨e, eo⟩
    · rw [e]; exact fun _ h => h
    · exact fun x h => u_same (htb _ e eo args) x h
  rcases h6 with ⟨h6, h6o⟩ | ⟨host, h6⟩
  · exact va_get (Ts := u_ws C T N) hx hb (fun w hw2 => htb w (h5 w hw2).1 (h5 w hw2).2 args) (fun _ h => h) (by rw [ho]; exact hw) hK hP q he h1 k h2 (htb _ h6 h6o args) hsame (fv_get h3) hd kk
  · exact va_getN (Ts := u_ws C T N) hx hb (fun w hw2 => htb w (h5 w hw2).1 (h5 w hw2).2 args) (fun _ h => h) (by rw [ho]; exact hw) hK hP q he h1 k h2 (htb _ h6 (by simp [okW, isNw]) args) hsame (fv_get h3) hd kk
theorem j_getI {own : String} {ix c k : Nat} {r : Option Nm} {F : Int32 → Option (ρ × Hp)} (hd : decode cc pc = .ok (.getfield ix, 3)) (hF : FLK own ix c k false) (ho : own = y.cls) (hp : pr = (getI r c k g).bind F) (kk : ∀ x, J y cc nL rt rf rl X g (pc + 3) lv (sI x :: st) (F x)) : J y cc nL rt rf rl X g pc lv (sR r :: st) pr := by
  subst hp
  cases r with
  | none => exact J.none
  | some n =>
    by_cases hn : n.1 = c
    · have e : (getI (some n) c k g).bind F = F (gI g n k) := by simp [getI, hn]
      refine J.eq e (J.r (fun p l e s m args below meth c0 R H locs cells slots Q D cs A ad ls hx hb hz hml hw htb hK hE hR hC hP hD hS hol hos K0 => ?_) (fun _ h => h.tail.ci) (kk (gI g n k)))
      have hc : c < 11 := by obtain ⟨C, T, N, ref, ⟨_, _, _, h4⟩, _⟩ := hF; exact h4
      exact va_getL hF ho hx hb hw htb hK hP hn (okr_in hos.head (Or.inl (by omega))) hd K0
    · have e : (getI (some n) c k g).bind F = none := by simp [getI, hn]
      exact J.eq e J.none
theorem j_getR {own : String} {ix c k : Nat} {r : Option Nm} {F : Option Nm → Option (ρ × Hp)} (hd : decode cc pc = .ok (.getfield ix, 3)) (hF : FLK own ix c k true) (ho : own = y.cls) (hp : pr = (getR r c k g).bind F) (kk : ∀ x, J y cc nL rt rf rl X g (pc + 3) lv (sR x :: st) (F x)) : J y cc nL rt rf rl X g pc lv (sR r :: st) pr := by
  subst hp
  cases r with
  | none => exact J.none
  | some n =>
    by_cases hn : n.1 = c
    · have hc : c < 11 := by obtain ⟨C, T, N, ref, ⟨_, _, _, h4⟩, _⟩ := hF; exact h4
      have e : (getR (some n) c k g).bind F = F (gR g n k) := by simp [getR, hn]
      refine J.eq e (J.r (fun p l e s m args below meth c0 R H locs cells slots Q D cs A ad ls hx hb hz hml hw htb hK hE hR hC hP hD hS hol hos K0 => ?_) (fun h0 h => h.tail.cons (v := sR (gR g n k)) (h0 n (okr_in h.head (Or.inl (by omega))) k)) (kk (gR g n k)))
      exact va_getL hF ho hx hb hw htb hK hP hn (okr_in hos.head (Or.inl (by omega))) hd K0
    · have e : (getR (some n) c k g).bind F = none := by simp [getR, hn]
      exact J.eq e J.none
theorem ent_setI {cs : ClassId × ClassId × ClassId} {ad : Nm → Nat} {g : Hp} {n m : Nm} {k : Nat} {v : Int32} (h : m ≠ n) : ent cs ad (setI g n k v) m = ent cs ad g m := by
  have e1 : gI (setI g n k v) m = gI g m := by funext j; simp [setI, gI, h]
  have e2 : gR (setI g n k v) = gR g := rfl
  have e3 : gN (setI g n k v) = gN g := rfl
  have e4 : fv ad (setI g n k v) m = fv ad g m := by funext j b; simp only [fv, e1, e2]
  simp only [ent, e1, e2, e3, e4]
theorem ent_setR {cs : ClassId × ClassId × ClassId} {ad : Nm → Nat} {g : Hp} {n m : Nm} {k : Nat} {v : Option Nm} (h : m ≠ n) : ent cs ad (setR g n k v) m = ent cs ad g m := by
  have e1 : gI (setR g n k v) = gI g := rfl
  have e2 : gR (setR g n k v) m = gR g m := by funext j; simp [setR, gR, h]
  have e3 : gN (setR g n k v) = gN g := rfl
  have e4 : fv ad (setR g n k v) m = fv ad g m := by funext j b; simp only [fv, e1, e2]
  simp only [ent, e1, e2, e3, e4]
theorem fs_setI {ad : Nm → Nat} {g : Hp} {n : Nm} {k : Nat} {v : Int32} (h : (flds n.1)[k]? = some false) : ((flds n.1).mapIdx (fv ad g n)).set k (.int v) = (flds n.1).mapIdx (fv ad (setI g n k v) n) := by
  apply List.ext_getElem?
  intro j
  have hk := (List.getElem?_eq_some_iff.mp h).1
  rw [List.getElem?_set]
  by_cases hj : k = j
  · subst hj
    simp only [List.length_mapIdx, hk, if_true, List.getElem?_mapIdx, h, Option.map_some]
    simp [fv, setI, gI]
  · rw [if_neg hj, List.getElem?_mapIdx, List.getElem?_mapIdx]
    congr 1
    funext b
    have : ¬ j = k := fun q => hj q.symm
    simp [fv, setI, gI, gR, this]
theorem fs_setR {ad : Nm → Nat} {g : Hp} {n : Nm} {k : Nat} {v : Option Nm} (h : (flds n.1)[k]? = some true) : ((flds n.1).mapIdx (fv ad g n)).set k (va_rf (v.map ad)) = (flds n.1).mapIdx (fv ad (setR g n k v) n) := by
  apply List.ext_getElem?
  intro j
  have hk := (List.getElem?_eq_some_iff.mp h).1
  rw [List.getElem?_set]
  by_cases hj : k = j
  · subst hj
    simp only [List.length_mapIdx, hk, if_true, List.getElem?_mapIdx, h, Option.map_some]
    simp [fv, setR, gR]
  · rw [if_neg hj, List.getElem?_mapIdx, List.getElem?_mapIdx]
    congr 1
    funext b
    have : ¬ j = k := fun q => hj q.symm
    simp [fv, setR, gI, gR, this]
theorem va_putL {p : Program} {l : Launch} {e : Env} {s : State} {m : MethodId} {args : Array Value} {below : List Frame} {meth : Method} {c : Code} {R : Room} {H : Heap} {locs : List Loc} {cells slots : Nat} {Q : State → Prop} {D : va_G} {cs : ClassId × ClassId × ClassId} {A : Nat → Prop} {ad : Nm → Nat} {ls : Array Slot} {rest : List Value} {own : String} {ix cd k : Nat} {b : Bool} {ty : FieldType} {n : Nm} {v : Value} {g1 : Hp}
    (hF : FLK own ix cd k b) (hT : FLT cd k ty) (hV : FLW y own ix cd k) (ho : own = y.cls) (hx : p.tables.exec = Jvm.exec) (hb : c.code = cc) (hw : s.vm.findClass y.cls = some m.cls) (hnm : y.name = "<init>" → meth.name = "<init>") (htb : TB s) (hK : va_K D vwCl (tyl cs) s) (hP : va_P D vwCl (wld cs ad g) H) (hD : va_D A (wld cs ad g)) (hS : va_S A s.heap H locs) (hn : n.1 = cd) (hin : n ∈ gL g)
    (hnv : narrow ty v = v) (hfit : fits ty v = true) (hL : gL g1 = gL g) (hself : ((flds n.1).mapIdx (fv ad g n)).set k v = (flds n.1).mapIdx (fv ad g1 n)) (hoth : ∀ m, m ≠ n → ent cs ad g1 m = ent cs ad g m) (hd : decode cc pc = .ok (.putfield ix, 3))
    (kk : ∀ H1 locs1, va_P D vwCl (wld cs ad g1) H1 → va_D A (wld cs ad g1) → va_S A s.heap H1 locs1 → W p l e R s m args below meth c H1 locs1 cells slots Q (F0 m (pc + 3) ls rest)) : W p l e R s m args below meth c H locs cells slots Q (F0 m pc ls (v :: .ref (ad n) :: rest)) := by
  obtain ⟨C, T, N, ref, ⟨h1, h2, h3, h4⟩, h5, h6, h7⟩ := hF
  obtain ⟨C', T', N', t0, a1, a2, a3, a4⟩ := hT
  cases (h1.symm.trans a1)
  obtain ⟨C', T', N', b1, b2⟩ := hV
  cases (h1.symm.trans b1)
  subst hn
  obtain ⟨q, hq, he⟩ := wat (cs := cs) (ad := ad) hin
  have hset := wset (cs := cs) (ad := ad) hD hq hL (e := .inr (n.1, (flds n.1).mapIdx (fv ad g1 n))) (ent_o h4) hoth
  rw [← hself] at hset
  rw [ent_o h4] at he
  have hlen : k < ((flds n.1).mapIdx (fv ad g n)).length := by rw [List.length_mapIdx]; exact (List.getElem?_eq_some_iff.mp h3).1
  have hsame : ∀ x, s.fieldFound? (T k).1 (T k).2.1 (T k).2.2.1 = some x → s.fieldFound? ref (T k).2.1 (T k).2.2.1 = some x := by
    rcases h7 with e | ⟨e, eo⟩
    · rw [e]; exact fun _ h => h
    · exact fun x h => u_same (htb _ e eo args) x h
  have kk2 : ∀ (H1 : Heap) (locs1 : List Loc), va_P D vwCl ((wld cs ad g).set q (ad n, .inr (n.1, ((flds n.1).mapIdx (fv ad g n)).set k v))) H1 → va_D A ((wld cs ad g).set q (ad n, .inr (n.1, ((flds n.1).mapIdx (fv ad g n)).set k v))) → va_S A s.heap H1 locs1 → W p l e R s m args below meth c H1 locs1 cells slots Q (F0 m (pc + 3) ls rest) := by
    rw [hset]
    exact kk
  rcases b2 with b2 | ⟨b2, b3, b4, b5, b6⟩
  · rcases h6 with ⟨h6, h6o⟩ | ⟨host, h6⟩
    · exact va_put (Ts := u_ws C T N) (own := own) hx hb (fun w hw2 => htb w (h5 w hw2).1 (h5 w hw2).2 args) (fun _ h => h) t0 a3 a4 (by rw [ho]; exact hw) hK hP hD hS q he h1 k h2 (htb _ h6 h6o args) hsame b2 a2 hnv hfit hlen hd kk2
    · exact va_putN (Ts := u_ws C T N) (own := own) hx hb (fun w hw2 => htb w (h5 w hw2).1 (h5 w hw2).2 args) (fun _ h => h) t0 a3 a4 (by rw [ho]; exact hw) hK hP hD hS q he h1 k h2 (htb _ h6 (by simp [okW, isNw]) args) hsame b2 a2 hnv hfit hlen hd kk2
  · exact va_putF (Ts := u_ws C T N) (own := own) hx hb (fun w hw2 => htb w (h5 w hw2).1 (h5 w hw2).2 args) (fun _ h => h) t0 a3 a4 (by rw [ho]; exact hw) hK hP hD hS q he h1 k h2 (htb _ b5 b6 args) (fun _ h => h) b2 (hnm b3) (b4.trans ho.symm) a2 hnv hfit hlen hd kk2
theorem j_putI {own : String} {ix c k : Nat} {r : Option Nm} {x : Int32} {F : Hp → Option (ρ × Hp)} (hd : decode cc pc = .ok (.putfield ix, 3)) (hF : FLK own ix c k false) (hT : FLT c k .int) (hV : FLW y own ix c k) (ho : own = y.cls) (hp : pr = (putI r c k x g).bind F) (kk : ∀ g1, J y cc nL rt rf rl X g1 (pc + 3) lv st (F g1)) : J y cc nL rt rf rl X g pc lv (sI x :: sR r :: st) pr := by
  subst hp
  cases r with
  | none => exact J.none
  | some n =>
    by_cases hn : n.1 = c
    · have e : (putI (some n) c k x g).bind F = F (setI g n k x) := by simp [putI, hn]
      refine J.eq e (J.w (g1 := setI g n k x) (fun p l e s m args below meth c0 R H locs cells slots Q D cs A ad ls hx hb hz hml hw hnm htb hK hE hR hC hP hD hS hol hos K0 => ?_) rfl ⟨rfl, rfl⟩ (fun h0 _ => h0) (fun h => h.tail.tail) (kk (setI g n k x)))
      have hc : c < 11 := by obtain ⟨C, T, N, ref, ⟨_, _, _, h4⟩, _⟩ := hF; exact h4
      have hf : (flds n.1)[k]? = some false := by obtain ⟨C, T, N, ref, ⟨_, _, h3, _⟩, _⟩ := hF; rw [hn]; exact h3
      exact va_putL (g1 := setI g n k x) hF hT hV ho hx hb hw hnm htb hK hP hD hS hn (okr_in hos.tail.head (Or.inl (by omega))) rfl rfl rfl (fs_setI hf) (fun m hm => ent_setI hm) hd K0
    · have e : (putI (some n) c k x g).bind F = none := by simp [putI, hn]
      exact J.eq e J.none
theorem j_putZ {own : String} {ix c k : Nat} {r : Option Nm} {x : Int32} {F : Hp → Option (ρ × Hp)} (hd : decode cc pc = .ok (.putfield ix, 3)) (hF : FLK own ix c k false) (hT : FLT c k .boolean) (hV : FLW y own ix c k) (ho : own = y.cls) (hp : pr = (putZ r c k x g).bind F) (kk : ∀ g1, J y cc nL rt rf rl X g1 (pc + 3) lv st (F g1)) : J y cc nL rt rf rl X g pc lv (sI x :: sR r :: st) pr := by
  subst hp
  cases r with
  | none => exact J.none
  | some n =>
    by_cases hn : n.1 = c ∧ (x = 0 ∨ x = 1)
    · have e : (putZ (some n) c k x g).bind F = F (setI g n k x) := by simp [putZ, hn]
      refine J.eq e (J.w (g1 := setI g n k x) (fun p l e s m args below meth c0 R H locs cells slots Q D cs A ad ls hx hb hz hml hw hnm htb hK hE hR hC hP hD hS hol hos K0 => ?_) rfl ⟨rfl, rfl⟩ (fun h0 _ => h0) (fun h => h.tail.tail) (kk (setI g n k x)))
      have hc : c < 11 := by obtain ⟨C, T, N, ref, ⟨_, _, _, h4⟩, _⟩ := hF; exact h4
      have hf : (flds n.1)[k]? = some false := by obtain ⟨C, T, N, ref, ⟨_, _, h3, _⟩, _⟩ := hF; rw [hn.1]; exact h3
      have h01 : narrow .boolean (.int x) = .int x ∧ fits .boolean (.int x) = true := by rcases hn.2 with e1 | e1 <;> subst e1 <;> decide
      exact va_putL (g1 := setI g n k x) hF hT hV ho hx hb hw hnm htb hK hP hD hS hn.1 (okr_in hos.tail.head (Or.inl (by omega))) h01.1 h01.2 rfl (fs_setI hf) (fun m hm => ent_setI hm) hd K0
    · have e : (putZ (some n) c k x g).bind F = none := by simp [putZ, hn]
      exact J.eq e J.none
theorem j_putR {own : String} {ix c k : Nat} {r x : Option Nm} {ty : FieldType} {F : Hp → Option (ρ × Hp)} (hd : decode cc pc = .ok (.putfield ix, 3)) (hF : FLK own ix c k true) (hT : FLT c k ty) (hty : refKind ty = true) (hV : FLW y own ix c k) (ho : own = y.cls) (hp : pr = (putR r c k x g).bind F) (kk : ∀ g1, J y cc nL rt rf rl X g1 (pc + 3) lv st (F g1)) : J y cc nL rt rf rl X g pc lv (sR x :: sR r :: st) pr := by
  subst hp
  cases r with
  | none => exact J.none
  | some n =>
    by_cases hn : n.1 = c
    · have e : (putR (some n) c k x g).bind F = F (setR g n k x) := by simp [putR, hn]
      refine J.eq e (J.w (g1 := setR g n k x) (fun p l e s m args below meth c0 R H locs cells slots Q D cs A ad ls hx hb hz hml hw hnm htb hK hE hR hC hP hD hS hol hos K0 => ?_) rfl ⟨rfl, rfl⟩ (fun h0 h => Cl.setR h0 h.head) (fun h => h.tail.tail) (kk (setR g n k x)))
      have hc : c < 11 := by obtain ⟨C, T, N, ref, ⟨_, _, _, h4⟩, _⟩ := hF; exact h4
      have hf : (flds n.1)[k]? = some true := by obtain ⟨C, T, N, ref, ⟨_, _, h3, _⟩, _⟩ := hF; rw [hn]; exact h3
      have h01 : narrow ty (va_rf (x.map ad)) = va_rf (x.map ad) ∧ fits ty (va_rf (x.map ad)) = true := by
        cases ty <;> first | (exact absurd hty (by decide)) | (cases x <;> exact ⟨rfl, rfl⟩)
      exact va_putL (g1 := setR g n k x) hF hT hV ho hx hb hw hnm htb hK hP hD hS hn (okr_in hos.tail.head (Or.inl (by omega))) h01.1 h01.2 rfl (fs_setR hf) (fun m hm => ent_setR hm) hd K0
    · have e : (putR (some n) c k x g).bind F = none := by simp [putR, hn]
      exact J.eq e J.none
/-! rows -/
theorem j_aldI {r : Option Nm} {i : Int32} {F : Int32 → Option (ρ × Hp)} (hd : decode cc pc = .ok (.iaload, 1)) (hp : pr = (aldI r i g).bind F) (kk : ∀ x, J y cc nL rt rf rl X g (pc + 1) lv (sI x :: st) (F x)) : J y cc nL rt rf rl X g pc lv (sI i :: sR r :: st) pr := by
  subst hp
  cases r with
  | none => exact J.none
  | some n =>
    by_cases hn : (20 ≤ n.1 ∧ n.1 < 60) ∧ vp_in i (gN g n)
    · have e : (aldI (some n) i g).bind F = F (gI g n i.toNatClampNeg) := by simp [aldI, hn]
      refine J.eq e (J.r (fun p l e s m args below meth c0 R H locs cells slots Q D cs A ad ls hx hb hz hml hw htb hK hE hR hC hP hD hS hol hos K0 => ?_) (fun _ h => h.tail.tail.ci) (kk _))
      obtain ⟨q, hq, he⟩ := wat (cs := cs) (ad := ad) (okr_in hos.tail.head (Or.inr hn.1.1))
      rw [ent_i hn.1.1 hn.1.2] at he
      exact va_iald hx hb hK hP q 0 he rfl hn.2 hd K0
    · have e : (aldI (some n) i g).bind F = none := by simp [aldI, hn]
      exact J.eq e J.none
theorem j_aldR {r : Option Nm} {i : Int32} {F : Option Nm → Option (ρ × Hp)} (hd : decode cc pc = .ok (.aaload, 1)) (hp : pr = (aldR r i g).bind F) (kk : ∀ x, J y cc nL rt rf rl X g (pc + 1) lv (sR x :: st) (F x)) : J y cc nL rt rf rl X g pc lv (sI i :: sR r :: st) pr := by
  subst hp
  cases r with
  | none => exact J.none
  | some n =>
    by_cases hn : (12 ≤ n.1 ∧ n.1 < 17) ∧ vp_in i (gN g n)
    · have e : (aldR (some n) i g).bind F = F (gR g n i.toNatClampNeg) := by simp [aldR, hn]
      refine J.eq e (J.r (fun p l e s m args below meth c0 R H locs cells slots Q D cs A ad ls hx hb hz hml hw htb hK hE hR hC hP hD hS hol hos K0 => ?_) (fun h0 h => h.tail.tail.cons (v := sR (gR g n i.toNatClampNeg)) (h0 n (okr_in h.tail.head (Or.inl hn.1.2)) _)) (kk _))
      obtain ⟨q, hq, he⟩ := wat (cs := cs) (ad := ad) (okr_in hos.tail.head (Or.inl hn.1.2))
      rw [ent_r hn.1.1 hn.1.2] at he
      exact va_aldq hx hb hK hP q 2 he rfl hn.2 hd K0
    · have e : (aldR (some n) i g).bind F = none := by simp [aldR, hn]
      exact J.eq e J.none
theorem j_alen {r : Option Nm} {F : Int32 → Option (ρ × Hp)} (hd : decode cc pc = .ok (.arraylength, 1)) (hp : pr = (alen r g).bind F) (kk : ∀ x, J y cc nL rt rf rl X g (pc + 1) lv (sI x :: st) (F x)) : J y cc nL rt rf rl X g pc lv (sR r :: st) pr := by
  subst hp
  cases r with
  | none => exact J.none
  | some n =>
    by_cases h17 : n = (17, 0)
    · have e : (alen (some n) g).bind F = F 0 := by simp [alen, h17]
      refine J.eq e (J.r (fun p l e s m args below meth c0 R H locs cells slots Q D cs A ad ls hx hb hz hml hw htb hK hE hR hC hP hD hS hol hos K0 => ?_) (fun _ h => h.tail.ci) (kk _))
      obtain ⟨f, hT⟩ := hE.2.1
      subst h17
      exact va_tlen (v := 0) hx hb hT hS rfl hd K0
    · by_cases hn : (12 ≤ n.1 ∧ n.1 < 17) ∨ 20 ≤ n.1
      · have e : (alen (some n) g).bind F = F (Int32.ofNat (gN g n)) := by simp [alen, h17, hn]
        refine J.eq e (J.r (fun p l e s m args below meth c0 R H locs cells slots Q D cs A ad ls hx hb hz hml hw htb hK hE hR hC hP hD hS hol hos K0 => ?_) (fun _ h => h.tail.ci) (kk _))
        obtain ⟨q, hq, he⟩ := wat (cs := cs) (ad := ad) (okr_in hos.head (by omega))
        by_cases h1 : n.1 < 17
        · rw [ent_r (by omega) h1] at he
          exact va_alen hx hb hK hP q 2 he rfl rfl hd K0
        · by_cases h2 : n.1 < 60
          · rw [ent_i (by omega) h2] at he
            exact va_alen hx hb hK hP q 0 he rfl rfl hd K0
          · rw [ent_z (by omega)] at he
            exact va_alen hx hb hK hP q 1 he rfl rfl hd K0
      · have e : (alen (some n) g).bind F = none := by simp [alen, h17, hn]
        exact J.eq e J.none
theorem gI_self (g : Hp) (n : Nm) (k : Nat) (v : Int32) : gI (setI g n k v) n = upd (gI g n) k v := by funext j; simp [setI, gI, upd]
theorem j_astI {r : Option Nm} {i x : Int32} {F : Hp → Option (ρ × Hp)} (hd : decode cc pc = .ok (.iastore, 1)) (hp : pr = (astI r i x g).bind F) (kk : ∀ g1, J y cc nL rt rf rl X g1 (pc + 1) lv st (F g1)) : J y cc nL rt rf rl X g pc lv (sI x :: sI i :: sR r :: st) pr := by
  subst hp
  cases r with
  | none => exact J.none
  | some n =>
    by_cases hn : (20 ≤ n.1 ∧ n.1 < 60) ∧ vp_in i (gN g n)
    · have e : (astI (some n) i x g).bind F = F (setI g n i.toNatClampNeg x) := by simp [astI, hn]
      refine J.eq e (J.w (g1 := setI g n i.toNatClampNeg x) (fun p l e s m args below meth c0 R H locs cells slots Q D cs A ad ls hx hb hz hml hw hnm htb hK hE hR hC hP hD hS hol hos K0 => ?_) rfl ⟨rfl, rfl⟩ (fun h0 _ => h0) (fun h => h.tail.tail.tail) (kk _))
      obtain ⟨q, hq, he⟩ := wat (cs := cs) (ad := ad) (okr_in hos.tail.tail.head (Or.inr hn.1.1))
      have hset := wset (cs := cs) (ad := ad) (g1 := setI g n i.toNatClampNeg x) hD hq rfl (ent_i hn.1.1 hn.1.2) (fun m hm => ent_setI hm)
      rw [ent_i hn.1.1 hn.1.2] at he
      rw [gI_self] at hset
      exact va_iast hx hb hK hP hD hS q 0 he rfl hn.2 hd (by rw [← hset] at K0; exact K0)
    · have e : (astI (some n) i x g).bind F = none := by simp [astI, hn]
      exact J.eq e J.none
end HRU
