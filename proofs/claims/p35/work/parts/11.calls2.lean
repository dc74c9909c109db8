/-! calls -/
def okC (y : MethodName) (np : Nat) : Prop := (y.cls ≠ "java/lang/invoke/MethodHandle" ∧ y.cls ≠ "java/lang/invoke/VarHandle") ∧ (parseMethodDescriptor y.desc).map (fun d => d.parameters.length) = some np
def FLC (own : String) (ix : Nat) (y : MethodName) (cc : ByteArray) (nL : Nat) (rt : Option FieldType) (np : Nat) : Prop := ((Cond.methodLink own ix y ∈ lw_tbl ∧ okW (Cond.methodLink own ix y) = true) ∨ ∃ host, Cond.methodLinkNest own ix y host ∈ lw_tbl) ∧ (Cond.code y cc nL rt ∈ lw_tbl ∧ okW (Cond.code y cc nL rt) = true) ∧ (Cond.initialized y.cls ∈ lw_tbl ∧ okW (Cond.initialized y.cls) = true) ∧ okC y np
def FLV (y : MethodName) (c : Nat) : Prop := c < 11 ∧ y.cls = oC c ∧ (Cond.instanceMethod y ∈ lw_tbl ∧ okW (Cond.instanceMethod y) = true) ∧ (Cond.selects (oC c) y y ∈ lw_tbl ∧ okW (Cond.selects (oC c) y y) = true)
def FLS (y : MethodName) : Prop := Cond.static y ∈ lw_tbl ∧ okW (Cond.static y) = true
def FLN0 (y : MethodName) : Prop := y.name = "<init>" ∧ Cond.instanceMethod y ∈ lw_tbl ∧ okW (Cond.instanceMethod y) = true
section CRU
variable {ρ : Type} {y : MethodName} {cc : ByteArray} {nL : Nat} {rt : Option FieldType} {rf rl : Nat} {X : Xt ρ} {g : Hp} {pc : Nat} {lv lv' : List (Nat × SV)} {st : List SV} {pr pr2 : Option (ρ × Hp)}
theorem J.call {σ : Type} {y2 : MethodName} {cc2 : ByteArray} {nL2 : Nat} {rt2 : Option FieldType} {rf2 rl2 : Nat} {ret2 : σ → Option SV} {as rest : List SV} {P : Option (σ × Hp)} {F : σ × Hp → Option (ρ × Hp)}
    (hM : FM y2 cc2 nL2 rt2 rf2 rl2 ret2 as g P)
    (hrun : ∀ (p : Program) (l : Launch) (e : Env) (s : State) (m : MethodId) (args : Array Value) (below : List Frame) (meth : Method) (c : Code) (R : Room) (H : Heap) (locs : List Loc) (cells slots : Nat) (D : va_G) (cs : ClassId × ClassId × ClassId) (ad : Nm → Nat) (ls : Array Slot) (Pc : Array Value → State → Prop) (Qc : Array Value → State → Outcome → State → Prop) (mc ms : Nat) (free : Addr → Prop) (rm : Room),
      p.tables.exec = Jvm.exec → c.code = cc → ls.size = nL → c.maxLocals = nL → s.vm.findClass y.cls = some m.cls → TB s → va_K D vwCl (tyl cs) s → va_P D vwCl (wld cs ad g) H → oks g st →
      Met l y2 [Cond.code y2 cc2 nL2 rt2] rm Pc Qc mc ms free → rm.cells = mc ∧ rm.slots = ms → rm.frames + 1 ≤ R.frames ∧ 8 + (nL2 + 11) + rm.locals ≤ R.locals → FrameBlind Pc → (∀ U : State, U.heap = H → s.WarmedH U.vm → Pc (stm ad as).toArray U) → cells + mc ≤ R.cells ∧ slots + ms ≤ R.slots →
      va_Run p l e R s m args below meth c H locs cells slots mc ms (F0 m pc ls (stm ad st)) (stm ad rest) (Qc (stm ad as).toArray) free)
    (hroom : rf2 + 1 ≤ rf ∧ 8 + (nL2 + 11) + rl2 ≤ rl) (hp : pr = P.bind F) (hst : oks g st → oks g as ∧ oks g rest)
    (kk : ∀ r g1, J y cc nL rt rf rl X g1 (pc + 3) lv ((ret2 r).toList ++ rest) (F (r, g1))) : J y cc nL rt rf rl X g pc lv st pr := by
  subst hp
  cases P with
  | none => exact J.none
  | some q =>
    obtain ⟨r2, g1⟩ := q
    refine J.eq (show (some (r2, g1)).bind F = F (r2, g1) from rfl) ?_
    have hk := kk r2 g1
    obtain ⟨hmn, hmet⟩ := hM r2 g1 rfl
    obtain ⟨⟨p, l, e, s, m, args, below, meth, c⟩, ⟨D, cs, A⟩, ad0, g0, RF, QF⟩ := X
    have hM1 := hmn (p, l, e, s, m, args, below, meth, c)
    intro r g' h
    obtain ⟨a, b⟩ := hk r g' h
    have a' := hM1.tr a
    refine ⟨a', fun hG hM hc ad H locs ls h1 h2 h3 h4 h5 h6 h7 h0 => ?_⟩
    obtain ⟨x1, x2, x3, x4, x5, x6, x7, x8, x9, x10, x11, x12⟩ := id hG
    have hs := hst h7
    have hE : EX ad A s s.heap := x11.ad (h1 _ (Or.inr (Or.inl rfl))) (h1 _ (Or.inr (Or.inr (Or.inr rfl))))
    have hfree := va_D.freeA (sz := H.size) h3 x10 h4.1
    have hmc : gc g - gc g0 + (gc g1 - gc g) ≤ (RF g').cells ∧ gs g - gs g0 + (gs g1 - gs g) ≤ (RF g').slots := by
      have c1 := hM.1; have c2 := hM.2.1; have c3 := hM1.1; have c4 := hM1.2.1; have c5 := a.1; have c6 := a.2.1; have c7 := hc.1; have c8 := hc.2
      constructor <;> omega
    have hrn := hrun p l e s m args below meth c (RF g') H locs (gc g - gc g0) (gs g - gs g0) D cs ad ls _ _ _ _ _ _ x1 x2 h5.1 x3 x4 x8 x9 h2 h7 (hmet l D cs ad H.size hs.1 h0) ⟨rfl, rfl⟩ (by rw [(x12 g').1, (x12 g').2]; exact hroom)
      (fun a2 U gg mk hq => by
        obtain ⟨q1, q2, q3, q4, q5, q6, q7⟩ := hq
        exact ⟨q1, q2, q3, q4, va_K.moved (u := U) (U := U.calling gg mk a2) (Vm.Alike.refl U.vm) q5, TB.warm (s := U) (U := U.calling gg mk a2) q6 (State.WarmedH.refl U), EX.moved (u := U) (U := U.calling gg mk a2) (Vm.Alike.refl U.vm) q7⟩)
      (fun U hU hW => ⟨rfl, by rw [hU], by rw [hU]; exact h2, h3.weaken (fun _ _ _ _ => trivial), va_K.moved hW.alike x9, x8.warm hW, by
        rw [hU]
        exact ((hE.kept (H1 := H) (fun q hq hn => h4.2.1 q hq hn)).narrow hfree).moved hW.alike⟩) hmc
    intro T hT X0
    obtain ⟨v, st₀, t, T', L, z0, X', hL, e1, e2, ⟨⟨ad1, hv, hok, hcl, hag, hP1, hD1⟩, hF⟩, stp⟩ := hrn T hT X0
    rw [← e1] at hP1
    have hmvm : s.vm.Alike T'.vm := X'.warmed.alike
    have hag0 : Ag g0 ad0 ad1 := fun w hw => by
      rw [hag w (hw.elim (fun z => Or.inl (hM.2.2 w z)) Or.inr)]
      exact h1 w hw
    have hS1 : va_S A s.heap T'.heap (locs ++ L) := by
      obtain ⟨f1, f2⟩ := hF
      rw [z0, ← e1] at f1
      refine ⟨Nat.le_trans h4.1 f1, fun q hq hn => ?_, fun q hq => ?_⟩
      · have f3 := f2 q (by rw [z0]; exact Nat.lt_of_lt_of_le hq h4.1) (fun z => hn (hfree q z))
        rw [z0, ← e1] at f3
        rw [f3]
        exact h4.2.1 q hq hn
      · rcases List.mem_append.mp hq with h8 | h8
        · exact h4.2.2 q h8
        · exact hfree _ (hL q h8)
    have hk2 := b hG (hM.tr hM1) hc ad1 T'.heap (locs ++ L) ls hag0 hP1 (hD1.weaken (fun _ q _ z => hfree q.1 z)) hS1 (by rw [lvm_ag hag h6]; exact h5) (h6.mn hM1) (by
      intro w hw
      rcases List.mem_append.mp hw with h8 | h8
      · exact hok w (Option.mem_toList.mp h8)
      · exact (hs.2.mn hM1) w h8) hcl
    have e3 : gc g1 - gc g0 = gc g - gc g0 + (gc g1 - gc g) := by have := hM.1; have := hM1.1; omega
    have e4 : gs g1 - gs g0 = gs g - gs g0 + (gs g1 - gs g) := by have := hM.2.1; have := hM1.2.1; omega
    rw [e3, e4] at hk2
    obtain ⟨t2, k1, k2⟩ := hk2 T' rfl X'
    refine ⟨t2, stp t2 ?_, k2⟩
    have e5 : stm ad1 ((ret2 r2).toList ++ rest) = v.toList ++ stm ad rest := by
      have hv2 : v = (ret2 r2).map (cv ad1) := by injection hv
      rw [hv2]
      show List.map (cv ad1) ((ret2 r2).toList ++ rest) = _
      rw [List.map_append]
      have e6 : List.map (cv ad1) rest = stm ad rest := stm_ag hag hs.2
      rw [e6]
      cases ret2 r2 <;> rfl
    rw [e5] at k1
    exact k1
theorem code_ok {s : State} {args : Array Value} {y2 : MethodName} {cc2 : ByteArray} {nL2 : Nat} {rt2 : Option FieldType} (htb : TB s) (h : Cond.code y2 cc2 nL2 rt2 ∈ lw_tbl ∧ okW (Cond.code y2 cc2 nL2 rt2) = true) : ∀ w ∈ [Cond.code y2 cc2 nL2 rt2], ∀ (a' : Array Value) (U : State), s.WarmedH U.vm → w.before a' U = true := by
  intro w hw a' U hW
  rw [List.mem_singleton.mp hw]
  exact (htb.warm hW) _ h.1 h.2 a'
theorem len_ok {y2 : MethodName} {np : Nat} (h : okC y2 np) : ∀ sig, parseMethodDescriptor y2.desc = some sig → np = sig.parameters.length := by
  intro sig hs
  have h2 := h.2
  rw [hs] at h2
  exact (Option.some.inj h2).symm
theorem stm_rev (ad : Nm → Nat) (as rest : List SV) : stm ad (as.reverse ++ rest) = (stm ad as).reverse ++ stm ad rest := by
  simp [stm, List.map_append, List.map_reverse]
theorem oks_rev {g : Hp} {as rest : List SV} (h : oks g (as.reverse ++ rest)) : oks g as ∧ oks g rest := ⟨fun v hv => h v (List.mem_append_left _ (List.mem_reverse.mpr hv)), fun v hv => h v (List.mem_append_right _ hv)⟩
/-- a method of an object -/
theorem j_callV {σ : Type} {y2 : MethodName} {cc2 : ByteArray} {nL2 : Nat} {rt2 : Option FieldType} {rf2 rl2 : Nat} {ret2 : σ → Option SV} {own : String} {ix c : Nat} (as rest : List SV) {r : Option Nm} {P : Option (σ × Hp)} {F : σ × Hp → Option (ρ × Hp)}
    (hd : decode cc pc = .ok (.invokevirtual ix, 3)) (hC : FLC own ix y2 cc2 nL2 rt2 as.length) (hV : FLV y2 c) (ho : own = y.cls) (hM : FM y2 cc2 nL2 rt2 rf2 rl2 ret2 (sR r :: as) g P) (hroom : (rf2 + 1 ≤ rf ∧ 8 + (nL2 + 11) + rl2 ≤ rl) ∧ (rest.map sc).sum ≤ 8) (hst : st = as.reverse ++ sR r :: rest) (hp : pr = (ick r c P).bind F)
    (kk : ∀ x g1, J y cc nL rt rf rl X g1 (pc + 3) lv ((ret2 x).toList ++ rest) (F (x, g1))) : J y cc nL rt rf rl X g pc lv st pr := by
  subst hp
  subst hst
  obtain ⟨v1, v2, v3, v4⟩ := hV
  cases r with
  | none => exact J.none
  | some n =>
    by_cases hn : n.1 = c
    · have e : ick (some n) c P = P := by simp [ick, hn]
      rw [e]
      refine J.call hM (fun p l e s m args below meth c0 R H locs cells slots D cs ad ls Pc Qc mc ms free rm hx hb hz hml hw htb hK hP hos hMet hrm hfr hbl hpc hf => ?_) hroom.1 rfl (fun h => ?_) kk
      · obtain ⟨q, hq, he⟩ := wat (cs := cs) (ad := ad) (okr_in (hos (sR (some n)) (List.mem_append_right _ List.mem_cons_self)) (Or.inl (by omega)))
        obtain ⟨w, a1, a2⟩ := vwCl_at c v1
        rw [ent_o (by omega), hn] at he
        have hrc := va_recv hK hP a1 he
        rw [a2] at hrc
        have hstk : (F0 m pc ls (stm ad (as.reverse ++ sR (some n) :: rest))).stack = (stm ad as).reverse ++ .ref (ad n) :: stm ad rest := stm_rev ad as _
        have hlen : (stm ad as).length = as.length := by simp [stm]
        have hwc := lv_room (pc := pc) (ls := ls) (m := m) (st := stm ad rest) (rest := stm ad (as.reverse ++ sR (some n) :: rest)) (by rw [stm_cat]; exact hroom.2)
        rcases hC.1 with ⟨l1, l2⟩ | ⟨host, l1⟩
        · exact va_runV (own := own) (C := oC c) (As := stm ad as) (n := as.length) (bytes := cc2) (maxL := nL2) (ret := rt2) (index := ix) ⟨hx, hb, hml, by rw [ho]; exact hw, fun w h => absurd h List.not_mem_nil⟩ (Ts := []) hMet ⟨⟨hrm.1, hrm.2, hfr.1, hfr.2, code_ok (args := args) htb hC.2.1, List.mem_cons_self, htb _ hC.2.1.1 hC.2.1.2 args, htb _ hC.2.2.1.1 hC.2.2.1.2 args, hC.2.2.2.1, len_ok hC.2.2.2, htb _ l1 l2 args⟩, htb _ v3.1 v3.2 args, htb _ v4.1 v4.2 args⟩ ⟨hbl, hrc, hpc⟩ rfl hlen hz hstk hwc hd hf
        · exact va_runVN (own := own) (host := host) (C := oC c) (As := stm ad as) (n := as.length) (bytes := cc2) (maxL := nL2) (ret := rt2) (index := ix) ⟨hx, hb, hml, by rw [ho]; exact hw, fun w h => absurd h List.not_mem_nil⟩ (Ts := []) hMet ⟨⟨⟨hrm.1, hrm.2, hfr.1, hfr.2, code_ok (args := args) htb hC.2.1, List.mem_cons_self⟩, htb _ hC.2.1.1 hC.2.1.2 args, htb _ hC.2.2.1.1 hC.2.2.1.2 args, hC.2.2.2.1, len_ok hC.2.2.2, htb _ l1 (by simp [okW, isNw]) args⟩, htb _ v3.1 v3.2 args, htb _ v4.1 v4.2 args⟩ ⟨hbl, hrc, hpc⟩ rfl hlen hz hstk hwc hd hf
      · have h2 := oks_rev h
        exact ⟨h2.1.cons h2.2.head, h2.2.tail⟩
    · have e : ick (some n) c P = none := by simp [ick, hn]
      rw [e]
      exact J.none
/-- a method of none -/
theorem j_callS {σ : Type} {y2 : MethodName} {cc2 : ByteArray} {nL2 : Nat} {rt2 : Option FieldType} {rf2 rl2 : Nat} {ret2 : σ → Option SV} {own : String} {ix : Nat} (as rest : List SV) {P : Option (σ × Hp)} {F : σ × Hp → Option (ρ × Hp)}
    (hd : decode cc pc = .ok (.invokestatic ix, 3)) (hC : FLC own ix y2 cc2 nL2 rt2 as.length) (hV : FLS y2) (ho : own = y.cls) (hM : FM y2 cc2 nL2 rt2 rf2 rl2 ret2 as g P) (hroom : (rf2 + 1 ≤ rf ∧ 8 + (nL2 + 11) + rl2 ≤ rl) ∧ (rest.map sc).sum ≤ 8) (hst : st = as.reverse ++ rest) (hp : pr = P.bind F)
    (kk : ∀ x g1, J y cc nL rt rf rl X g1 (pc + 3) lv ((ret2 x).toList ++ rest) (F (x, g1))) : J y cc nL rt rf rl X g pc lv st pr := by
  subst hp
  subst hst
  refine J.call hM (fun p l e s m args below meth c0 R H locs cells slots D cs ad ls Pc Qc mc ms free rm hx hb hz hml hw htb hK hP hos hMet hrm hfr hbl hpc hf => ?_) hroom.1 rfl (fun h => oks_rev h) kk
  have hstk : (F0 m pc ls (stm ad (as.reverse ++ rest))).stack = (stm ad as).reverse ++ stm ad rest := stm_rev ad as _
  have hlen : (stm ad as).length = as.length := by simp [stm]
  have hwc := lv_room (pc := pc) (ls := ls) (m := m) (st := stm ad rest) (rest := stm ad (as.reverse ++ rest)) (by rw [stm_cat]; exact hroom.2)
  rcases hC.1 with ⟨l1, l2⟩ | ⟨host, l1⟩
  · exact va_runS (own := own) (As := stm ad as) (n := as.length) (bytes := cc2) (maxL := nL2) (ret := rt2) (index := ix) ⟨hx, hb, hml, by rw [ho]; exact hw, fun w h => absurd h List.not_mem_nil⟩ (Ts := []) hMet ⟨⟨hrm.1, hrm.2, hfr.1, hfr.2, code_ok (args := args) htb hC.2.1, List.mem_cons_self, htb _ hC.2.1.1 hC.2.1.2 args, htb _ hC.2.2.1.1 hC.2.2.1.2 args, hC.2.2.2.1, len_ok hC.2.2.2, htb _ l1 l2 args⟩, htb _ hV.1 hV.2 args⟩ ⟨hbl, hpc⟩ rfl hlen hz hstk hwc hd hf
  · exact va_runSN (own := own) (host := host) (As := stm ad as) (n := as.length) (bytes := cc2) (maxL := nL2) (ret := rt2) (index := ix) ⟨hx, hb, hml, by rw [ho]; exact hw, fun w h => absurd h List.not_mem_nil⟩ (Ts := []) hMet ⟨⟨⟨hrm.1, hrm.2, hfr.1, hfr.2, code_ok (args := args) htb hC.2.1, List.mem_cons_self⟩, htb _ hC.2.1.1 hC.2.1.2 args, htb _ hC.2.2.1.1 hC.2.2.1.2 args, hC.2.2.2.1, len_ok hC.2.2.2, htb _ l1 (by simp [okW, isNw]) args⟩, htb _ hV.1 hV.2 args, trivial⟩ ⟨hbl, hpc⟩ rfl hlen hz hstk hwc hd hf
/-- a constructor -/
theorem j_callI {σ : Type} {y2 : MethodName} {cc2 : ByteArray} {nL2 : Nat} {rf2 rl2 : Nat} {ret2 : σ → Option SV} {own : String} {ix : Nat} (as rest : List SV) {r : Option Nm} {P : Option (σ × Hp)} {F : σ × Hp → Option (ρ × Hp)}
    (hd : decode cc pc = .ok (.invokespecial ix, 3)) (hC : FLC own ix y2 cc2 nL2 none as.length) (hV : FLN0 y2) (ho : own = y.cls) (hM : FM y2 cc2 nL2 none rf2 rl2 ret2 (sR r :: as) g P) (hroom : (rf2 + 1 ≤ rf ∧ 8 + (nL2 + 11) + rl2 ≤ rl) ∧ (rest.map sc).sum ≤ 8) (hst : st = as.reverse ++ sR r :: rest) (hp : pr = (nnl r P).bind F)
    (kk : ∀ x g1, J y cc nL rt rf rl X g1 (pc + 3) lv ((ret2 x).toList ++ rest) (F (x, g1))) : J y cc nL rt rf rl X g pc lv st pr := by
  subst hp
  subst hst
  cases r with
  | none => exact J.none
  | some n =>
    refine J.call hM (fun p l e s m args below meth c0 R H locs cells slots D cs ad ls Pc Qc mc ms free rm hx hb hz hml hw htb hK hP hos hMet hrm hfr hbl hpc hf => ?_) hroom.1 rfl (fun h => ?_) kk
    · have hstk : (F0 m pc ls (stm ad (as.reverse ++ sR (some n) :: rest))).stack = (stm ad as).reverse ++ .ref (ad n) :: stm ad rest := stm_rev ad as _
      have hlen : (stm ad as).length = as.length := by simp [stm]
      have hwc := lv_room (pc := pc) (ls := ls) (m := m) (st := stm ad rest) (rest := stm ad (as.reverse ++ sR (some n) :: rest)) (by rw [stm_cat]; exact hroom.2)
      rcases hC.1 with ⟨l1, l2⟩ | ⟨host, l1⟩
      · exact va_runI (own := own) (As := stm ad as) (n := as.length) (bytes := cc2) (maxL := nL2) (index := ix) ⟨hx, hb, hml, by rw [ho]; exact hw, fun w h => absurd h List.not_mem_nil⟩ (Ts := []) hMet ⟨⟨hrm.1, hrm.2, hfr.1, hfr.2, code_ok (args := args) htb hC.2.1, List.mem_cons_self, htb _ hC.2.1.1 hC.2.1.2 args, htb _ hC.2.2.1.1 hC.2.2.1.2 args, hC.2.2.2.1, len_ok hC.2.2.2, htb _ l1 l2 args⟩, hV.1, htb _ hV.2.1 hV.2.2 args⟩ ⟨hbl, hpc⟩ rfl hlen hz hstk hwc hd hf
      · exact va_runIN (own := own) (host := host) (As := stm ad as) (n := as.length) (bytes := cc2) (maxL := nL2) (index := ix) ⟨hx, hb, hml, by rw [ho]; exact hw, fun w h => absurd h List.not_mem_nil⟩ (Ts := []) hMet ⟨⟨⟨hrm.1, hrm.2, hfr.1, hfr.2, code_ok (args := args) htb hC.2.1, List.mem_cons_self⟩, htb _ hC.2.1.1 hC.2.1.2 args, htb _ hC.2.2.1.1 hC.2.2.1.2 args, hC.2.2.2.1, len_ok hC.2.2.2, htb _ l1 (by simp [okW, isNw]) args⟩, hV.1, htb _ hV.2.1 hV.2.2 args⟩ ⟨hbl, hpc⟩ rfl hlen hz hstk hwc hd hf
    · have h2 := oks_rev h
      exact ⟨h2.1.cons h2.2.head, h2.2.tail⟩
/-! ends -/
theorem J.e {ret : ρ → Option SV} {v : ρ} (hX : IsM ret X) (hW : ∀ (p : Program) (l : Launch) (e : Env) (s : State) (m : MethodId) (args : Array Value) (below : List Frame) (meth : Method) (c : Code) (R : Room) (H : Heap) (locs : List Loc) (cells slots : Nat) (D : va_G) (cs : ClassId × ClassId × ClassId) (A : Nat → Prop) (ad0 ad : Nm → Nat) (g0 : Hp) (ls : Array Slot),
      p.tables.exec = Jvm.exec → c.code = cc → meth.sig.returnType = rt → meth.locks = false → (∀ t : State, t.heap = H → s.WarmedH t.vm → ∀ w, (∃ z, ret v = some z ∧ w = some (cv ad z)) ∨ (ret v = Option.none ∧ w = Option.none) → QcF D cs ad0 g0 A ret v g args s (.returned w) t) → (∀ q ∈ locs, A q.base) →
      W p l e R s m args below meth c H locs cells slots (MQ below (QcF D cs ad0 g0 A ret v g) args s cells slots A) (F0 m pc ls (stm ad st)))
    (hok : oks g st → ∀ z, ret v = some z → okv g z) (hp : pr = some (v, g)) : J y cc nL rt rf rl X g pc lv st pr := by
  obtain ⟨⟨p, l, e, s, m, args, below, meth, c⟩, ⟨D, cs, A⟩, ad0, g0, RF, QF⟩ := X
  intro r g' h
  rw [hp] at h
  cases h
  refine ⟨Mn.rf g, fun hG hM hc ad H locs ls h1 h2 h3 h4 h5 h6 h7 h0 => ?_⟩
  obtain ⟨x1, x2, x3, x4, x5, x6, x7, x8, x9, x10, x11, x12⟩ := id hG
  rw [hX v g]
  refine hW p l e s m args below meth c _ H locs _ _ D cs A ad0 ad g0 ls x1 x2 x5 x6 (fun t ht hWm w hw => ⟨⟨ad, ?_, hok h7, h0, h1, by rw [ht]; exact h2, h3⟩, h4.F ht⟩) h4.2.2
  rcases hw with ⟨z, e1, e2⟩ | ⟨e1, e2⟩
  · rw [e1, e2]; rfl
  · rw [e1, e2]; rfl
theorem j_ireturn {x : Int32} {X : Xt Int32} {pr : Option (Int32 × Hp)} (hd : decode cc pc = .ok (.ireturn, 1)) (hX : IsM rtI X) (hr : rt = some .int) (hp : pr = some (x, g)) : J y cc nL rt rf rl X g pc lv (sI x :: []) pr :=
  J.e hX (fun p l e s m args below meth c R H locs cells slots D cs A ad0 ad g0 ls hx hb hret hlk hq hf => W.iret (cc := cc) hx hb (hret.trans hr) (fun t h1 h2 => hq t h1 h2 _ (Or.inl ⟨_, rfl, rfl⟩)) hf hd hlk) (fun h z hz => by cases hz; exact h.head) hp
theorem j_zreturn {x : Int32} {X : Xt Int32} {pr : Option (Int32 × Hp)} (hd : decode cc pc = .ok (.ireturn, 1)) (hX : IsM rtI X) (hr : rt = some .boolean) (hp : pr = rtZ x g) : J y cc nL rt rf rl X g pc lv (sI x :: []) pr := by
  subst hp
  by_cases h01 : x = 0 ∨ x = 1
  · have e : rtZ x g = some (x, g) := by simp only [rtZ, if_pos h01]
    exact J.e hX (fun p l e s m args below meth c R H locs cells slots D cs A ad0 ad g0 ls hx hb hret hlk hq hf => W.zret (cc := cc) hx hb (hret.trans hr) (by rcases h01 with e1 | e1 <;> subst e1 <;> decide) (fun t h1 h2 => hq t h1 h2 _ (Or.inl ⟨_, rfl, rfl⟩)) hf hd hlk) (fun h z hz => by cases hz; exact h.head) e
  · have e : rtZ x g = none := by simp only [rtZ, if_neg h01]
    rw [e]
    exact J.none
theorem j_lreturn {x : Int64} {X : Xt Int64} {pr : Option (Int64 × Hp)} (hd : decode cc pc = .ok (.lreturn, 1)) (hX : IsM rtL X) (hr : rt = some .long) (hp : pr = some (x, g)) : J y cc nL rt rf rl X g pc lv (sL x :: []) pr :=
  J.e hX (fun p l e s m args below meth c R H locs cells slots D cs A ad0 ad g0 ls hx hb hret hlk hq hf => W.lret (cc := cc) hx hb (hret.trans hr) (fun t h1 h2 => hq t h1 h2 _ (Or.inl ⟨_, rfl, rfl⟩)) hf hd hlk) (fun h z hz => by cases hz; exact h.head) hp
theorem j_areturn {x : Option Nm} {ty : FieldType} {X : Xt (Option Nm)} {pr : Option (Option Nm × Hp)} (hd : decode cc pc = .ok (.areturn, 1)) (hX : IsM rtR X) (hr : rt = some ty) (hty : (∃ n, ty = .object n) ∨ ∃ t, ty = .array t) (hp : pr = some (x, g)) : J y cc nL rt rf rl X g pc lv (sR x :: []) pr :=
  J.e hX (fun p l e s m args below meth c R H locs cells slots D cs A ad0 ad g0 ls hx hb hret hlk hq hf => W.aret (cc := cc) hx hb (hret.trans hr) hty (by cases x with
    | none => exact Or.inl rfl
    | some a => exact Or.inr ⟨_, rfl⟩) (fun t h1 h2 => hq t h1 h2 _ (Or.inl ⟨_, rfl, rfl⟩)) hf hd hlk) (fun h z hz => by cases hz; exact h.head) hp
theorem j_return {X : Xt Unit} {pr : Option (Unit × Hp)} (hd : decode cc pc = .ok (.return_, 1)) (hX : IsM rtV X) (hr : rt = none) (hp : pr = some ((), g)) : J y cc nL rt rf rl X g pc lv [] pr :=
  J.e hX (fun p l e s m args below meth c R H locs cells slots D cs A ad0 ad g0 ls hx hb hret hlk hq hf => W.vret (cc := cc) hx hb (hret.trans hr) (fun t h1 h2 => hq t h1 h2 _ (Or.inr ⟨rfl, rfl⟩)) hf hd hlk) (fun h z hz => by cases hz) hp
end CRU
