def R_law : String := "FirstSecondsLaw"
def lw_P (b : Addr) (xs : List Int32) (args : Array Value) (s : State) : Prop := args = #[.ref b] ∧ s.IntsAt b xs ∧ xs.length ≤ 260 ∧ (Jvm.Cond.and given_1 narrow_1).before args s = true
def lw_Q (_ : Array Value) (s : State) (o : Outcome) (t : State) : Prop := o = .returned (some (.int 1)) ∧ Framed s o t [] 600000 7302250
def lw_Z (below : List Frame) (a : Array Value) (s : State) : State → Prop := fun t => ∃ o, t.status = .running ∧ Ended t below o ∧ lw_Q a s o t
/-- the law's own end, with 1 on the stack, nothing written that was there before, its room as the claim has it -/
theorem lw_ret {p : Program} {l : Launch} {e : Env} {s : State} {m : MethodId} {below : List Frame} {meth : Method} {c : Code} {b : Nat} (hx : p.tables.exec = Jvm.exec) (hb : c.code = code) (hr : meth.sig.returnType = ret) (hlocks : meth.locks = false) {pc : Nat} {H : Heap} {ls : Array Slot} (hdg : decode code pc = .ok (.ireturn, 1)) : W p l e room_1 s m #[Value.ref b] below meth c H [] 600000 7302250 (lw_Z below #[Value.ref b] s) (F0 m pc ls [.int 1]) := by
  intro T hT X
  obtain ⟨fs, hret, hrun, hended, hW, hframe⟩ := X.leave (v := some (.int 1)) (hlocks := hlocks) (fun h => by rw [hr] at h; cases h)
  have hmeth' : T.vm.method? m = some meth := X.method'
  refine ⟨T.setFrames fs, ?_, .returned (some (.int 1)), hrun, hended, rfl, ⟨_, rfl⟩, hW, hframe⟩
  jvm_step X.here [X.here.top, hx, hb, hdg, hmeth', hr, ret, narrow_b1]
  (try refine ⟨rfl, ?_⟩); (try refine ⟨rfl, ?_⟩)
  first | (intro acts; rw [hret _ acts rfl rfl rfl]) | rw [hret _ _ rfl rfl rfl]
  exact Steps.refl _
/-- what holds at the law's entry: the machine, the code, the tables' words (any of lw_tbl by 'hts w (by decide +kernel)'), the script of L ints xs at the cell b, what the Statement gives of the start (any of its parts by flat_of_before) -/
def lw_At (p : Program) (s : State) (m : MethodId) (meth : Method) (c : Code) (b L : Nat) (xs : Nat → Int32) : Prop :=
  p.tables.exec = Jvm.exec ∧ c.code = code ∧ meth.sig.returnType = ret ∧ c.maxLocals = 17 ∧ s.vm.findClass R_law = some m.cls ∧ (∀ w ∈ lw_tbl, w.before #[Value.ref b] s = true) ∧ va_X b L xs s s.heap ∧ b < s.heap.size ∧ meth.locks = false ∧ (Jvm.Cond.and given_1 narrow_1).before #[Value.ref b] s = true
/-! the law's own reads and end -/
noncomputable def aldS (r : Option Nm) (i : Int32) (L : Nat) (xs : Nat → Int32) : Option Int32 := by
  classical exact if r = some (18, 0) ∧ vp_in i L then some (xs i.toNatClampNeg) else none
def alnS (r : Option Nm) (L : Nat) : Option Int32 := if r = some (18, 0) then some (Int32.ofNat L) else none
def IsL (X : Xt Int32) (L : Nat) (xs : Nat → Int32) : Prop := match X with
  | ((_, _, _, s, _, args, below, _, _), (_, _, A), ad0, _, RF, QF) => args = #[Value.ref (ad0 (18, 0))] ∧ (A = fun q : Nat => s.heap.size ≤ q) ∧ va_X (ad0 (18, 0)) L xs s s.heap ∧ ad0 (18, 0) < s.heap.size ∧ (∀ g, RF g = room_1) ∧ (∀ r g1, QF r g1 = fun t => r = 1 → lw_Z below #[Value.ref (ad0 (18, 0))] s t)
/-- the script stands where it stood, out of reach -/
def IsS {ρ : Type} (X : Xt ρ) (L : Nat) (xs : Nat → Int32) : Prop := match X with
  | ((_, _, _, s, _, _, _, _, _), (_, _, A), ad0, _, _, _) => va_X (ad0 (18, 0)) L xs s s.heap ∧ ad0 (18, 0) < s.heap.size ∧ ¬ A (ad0 (18, 0))
theorem IsL.s {X : Xt Int32} {L : Nat} {xs : Nat → Int32} (h : IsL X L xs) : IsS X L xs := by
  obtain ⟨⟨p, l, e, s, m, args, below, meth, c⟩, ⟨D, cs, A⟩, ad0, g0, RF, QF⟩ := X
  obtain ⟨q1, q2, q3, q4, q5, q6⟩ := h
  exact ⟨q3, q4, by rw [q2]; exact Nat.not_le.mpr q4⟩
section LRU
variable {y : MethodName} {nL : Nat} {rf rl : Nat} {X : Xt Int32} {L : Nat} {xs : Nat → Int32} {g : Hp} {pc : Nat} {lv lv' : List (Nat × SV)} {st : List SV} {pr pr2 : Option (Int32 × Hp)}
theorem j_aldS {cc : ByteArray} {rt : Option FieldType} {r : Option Nm} {i : Int32} {F : Int32 → Option (Int32 × Hp)} (hd : decode cc pc = .ok (.iaload, 1)) (hX : IsS X L xs) (hp : pr = (aldS r i L xs).bind F) (kk : ∀ x, J y cc nL rt rf rl X g (pc + 1) lv (sI x :: st) (F x)) : J y cc nL rt rf rl X g pc lv (sI i :: sR r :: st) pr := by
  subst hp
  by_cases hn : r = some (18, 0) ∧ vp_in i L
  · obtain ⟨rfl, hi⟩ := hn
    have e : (aldS (some (18, 0)) i L xs).bind F = F (xs i.toNatClampNeg) := by simp [aldS, hi]
    refine J.eq e ?_
    have k := kk (xs i.toNatClampNeg)
    obtain ⟨⟨p, l, e, s, m, args, below, meth, c⟩, ⟨D, cs, A⟩, ad0, g0, RF, QF⟩ := X
    intro r g' h
    obtain ⟨a, b⟩ := k r g' h
    obtain ⟨q3, q4, q5⟩ := hX
    refine ⟨a, fun hG hM hc ad H locs ls h1 h2 h3 h4 h5 h6 h7 h0 => ?_⟩
    obtain ⟨x1, x2, -⟩ := id hG
    have e18 : ad (18, 0) = ad0 (18, 0) := h1 _ (Or.inr (Or.inr (Or.inl rfl)))
    have K0 := b hG hM hc ad H locs ls h1 h2 h3 h4 h5 h6 (h7.tail.tail.ci (x := xs i.toNatClampNeg)) h0
    have e9 : stm ad (sI i :: sR (some (18, 0)) :: st) = .int i :: .ref (ad0 (18, 0)) :: stm ad st := by
      show Value.int i :: va_rf (some (ad (18, 0))) :: stm ad st = _
      rw [e18]; rfl
    rw [e9]
    exact va_sld x1 x2 q3 q4 q5 h4 hi hd K0
  · have e : (aldS r i L xs).bind F = none := by simp only [aldS, if_neg hn, Option.bind_none]
    exact J.eq e J.none
theorem j_alnS {cc : ByteArray} {rt : Option FieldType} {r : Option Nm} {F : Int32 → Option (Int32 × Hp)} (hd : decode cc pc = .ok (.arraylength, 1)) (hX : IsS X L xs) (hp : pr = (alnS r L).bind F) (kk : ∀ x, J y cc nL rt rf rl X g (pc + 1) lv (sI x :: st) (F x)) : J y cc nL rt rf rl X g pc lv (sR r :: st) pr := by
  subst hp
  by_cases hn : r = some (18, 0)
  · subst hn
    have e : (alnS (some (18, 0)) L).bind F = F (Int32.ofNat L) := by simp [alnS]
    refine J.eq e ?_
    have k := kk (Int32.ofNat L)
    obtain ⟨⟨p, l, e, s, m, args, below, meth, c⟩, ⟨D, cs, A⟩, ad0, g0, RF, QF⟩ := X
    intro r g' h
    obtain ⟨a, b⟩ := k r g' h
    obtain ⟨q3, q4, q5⟩ := hX
    refine ⟨a, fun hG hM hc ad H locs ls h1 h2 h3 h4 h5 h6 h7 h0 => ?_⟩
    obtain ⟨x1, x2, -⟩ := id hG
    have e18 : ad (18, 0) = ad0 (18, 0) := h1 _ (Or.inr (Or.inr (Or.inl rfl)))
    have K0 := b hG hM hc ad H locs ls h1 h2 h3 h4 h5 h6 (h7.tail.ci (x := Int32.ofNat L)) h0
    have e9 : stm ad (sR (some (18, 0)) :: st) = .ref (ad0 (18, 0)) :: stm ad st := by
      show va_rf (some (ad (18, 0))) :: stm ad st = _
      rw [e18]; rfl
    rw [e9]
    exact va_slen x1 x2 q3 q4 q5 h4 hd K0
  · have e : (alnS r L).bind F = none := by simp only [alnS, if_neg hn, Option.bind_none]
    exact J.eq e J.none
theorem j_lawret {x : Int32} (hd : decode code pc = .ok (.ireturn, 1)) (hX : IsL X L xs) (hp : pr = some (x, g)) : J y code nL ret rf rl X g pc lv (sI x :: []) pr := by
  obtain ⟨⟨p, l, e, s, m, args, below, meth, c⟩, ⟨D, cs, A⟩, ad0, g0, RF, QF⟩ := X
  intro r g' h
  rw [hp] at h
  cases h
  refine ⟨Mn.rf g, fun hG hM hc ad H locs ls h1 h2 h3 h4 h5 h6 h7 h0 => ?_⟩
  obtain ⟨x1, x2, x3, x4, x5, x6, x7, x8, x9, x10, x11, x12⟩ := id hG
  obtain ⟨rfl, q2, q3, q4, q5, q6⟩ := hX
  rw [q6]
  rw [q5] at hc ⊢
  by_cases h9 : x = 1
  · subst h9
    refine va_forget (fun q hq => by have := h4.2.2 q hq; rw [q2] at this; exact this) ?_
    refine W.widen (k := 600000) (n := 7302250) hc.1 hc.2 ?_
    intro T hT X0
    obtain ⟨t, k1, k2⟩ := lw_ret (b := ad0 (18, 0)) x1 x2 x5 x6 hd T hT X0
    exact ⟨t, k1, fun _ => k2⟩
  · intro T hT X0
    exact ⟨_, Steps.refl _, fun z => absurd z h9⟩
end LRU
/-! a method that reads the script -/
def PcS (D : va_G) (cs : ClassId × ClassId × ClassId) (ad : Nm → Nat) (g : Hp) (sz : Nat) (L : Nat) (xs : Nat → Int32) : State → Prop := fun U => PcF D cs ad g sz U ∧ va_X (ad (18, 0)) L xs U U.heap ∧ ad (18, 0) < U.heap.size ∧ ¬ va_A (wld cs ad g) sz (ad (18, 0))
def FMS {ρ : Type} (y : MethodName) (cc : ByteArray) (nL : Nat) (rt : Option FieldType) (rf rl : Nat) (ret : ρ → Option SV) (L : Nat) (xs : Nat → Int32) (as : List SV) (g : Hp) (pr : Option (ρ × Hp)) : Prop :=
  ∀ (r : ρ) (g1 : Hp), pr = some (r, g1) → Mn g g1 ∧ ∀ (l : Launch) (D : va_G) (cs : ClassId × ClassId × ClassId) (ad : Nm → Nat) (sz : Nat), oks g as → Cl g →
    Met l y [Cond.code y cc nL rt] { frames := rf, cells := gc g1 - gc g, slots := gs g1 - gs g, locals := rl } (va_Pc (stm ad as) (PcS D cs ad g sz L xs)) (QcF D cs ad g (va_A (wld cs ad g) sz) ret r g1) (gc g1 - gc g) (gs g1 - gs g) (va_A (wld cs ad g) sz)
theorem FMS.entry {ρ : Type} {y : MethodName} {cc : ByteArray} {nL : Nat} {rt : Option FieldType} {rf rl : Nat} {ret : ρ → Option SV} {L : Nat} {xs : Nat → Int32} {as : List SV} {g : Hp} {pr : Option (ρ × Hp)} (hy : plainName y.cls = true) (hn : (as.map sc).sum ≤ nL) (hmn : ∀ r g1, pr = some (r, g1) → Mn g g1) (hJ : ∀ X : Xt ρ, IsM ret X → IsS X L xs → J y cc nL rt rf rl X g 0 (lva 0 as) [] pr) : FMS y cc nL rt rf rl ret L xs as g pr := by
  intro r g1 h
  refine ⟨hmn r g1 h, fun l D cs ad sz hok hcl => ?_⟩
  refine Met.ofW (cc := cc) (maxL := nL) (ret := rt) hy rfl ?_
  intro p e s m args below meth c s₁ B hml hv
  obtain ⟨rfl, ⟨hsz, hP, hD0, hK, hTB, hE⟩, hX, hbl, hbA⟩ := hv
  subst hsz
  have hown : s.vm.findClass y.cls = some m.cls := findClass_of_methodNamed B.named
  have hl := lv_entry (stm ad as) (n := nL) (by rw [lg_len]; exact hn)
  rw [lg_entry_eq]
  generalize (lg_sl (stm ad as) ++ List.replicate (nL - (lg_sl (stm ad as)).length) Slot.unset).toArray = ls at hl ⊢
  rw [lva_lv] at hl
  let A := va_A (wld cs ad g) s.heap.size
  let RF : Hp → Room := fun g1 => { frames := rf, cells := gc g1 - gc g, slots := gs g1 - gs g, locals := rl }
  let QF : ρ → Hp → State → Prop := fun r g1 => MQ below (QcF D cs ad g A ret r g1) (stm ad as).toArray s (gc g1 - gc g) (gs g1 - gs g) A
  have hk := (hJ ((p, l, e, s, m, (stm ad as).toArray, below, meth, c), (D, cs, A), ad, g, RF, QF) (fun _ _ => rfl) ⟨hX, hbl, hbA⟩ r g1 h).2 ⟨B.exec, B.bytes, hml, hown, B.returns, B.notSynchronized, fun hq => (name_of_methodNamed B.named B.method).1.trans hq, hTB, hK, fun q hq => Or.inr hq, hE, fun _ => ⟨rfl, rfl⟩⟩ (Mn.rf g) ⟨Nat.le_refl _, Nat.le_refl _⟩ ad s.heap [] ls (fun _ _ => rfl) hP hD0.self va_S.rf hl (fun q hq => by
    have : ∀ (as : List SV) (i : Nat), oks g as → ∀ q ∈ lva i as, okv g q.2 := by
      intro as
      induction as with
      | nil => intro i _ q hq; cases hq
      | cons v vs ih => intro i ho q hq; rcases List.mem_cons.mp hq with e | e
                        · subst e; exact ho.head
                        · exact ih _ ho.tail q e
    exact this as 0 hok q hq) (fun v hv => by cases hv) hcl
  rw [Nat.sub_self, Nat.sub_self] at hk
  exact hk
section CSR
variable {ρ : Type} {y : MethodName} {cc : ByteArray} {nL : Nat} {rt : Option FieldType} {rf rl : Nat} {X : Xt ρ} {L : Nat} {xs : Nat → Int32} {g : Hp} {pc : Nat} {lv lv' : List (Nat × SV)} {st : List SV} {pr pr2 : Option (ρ × Hp)}
theorem J.callS {σ : Type} {y2 : MethodName} {cc2 : ByteArray} {nL2 : Nat} {rt2 : Option FieldType} {rf2 rl2 : Nat} {ret2 : σ → Option SV} {as rest : List SV} {P : Option (σ × Hp)} {F : σ × Hp → Option (ρ × Hp)}
    (hX : IsS X L xs) (hM : FMS y2 cc2 nL2 rt2 rf2 rl2 ret2 L xs as g P)
    (hrun : ∀ (p : Program) (l : Launch) (e : Env) (s : State) (m : MethodId) (args : Array Value) (below : List Frame) (meth : Method) (c : Code) (R : Room) (H : Heap) (locs : List Loc) (cells slots : Nat) (D : va_G) (cs : ClassId × ClassId × ClassId) (ad : Nm → Nat) (ls : Array Slot) (Pc : Array Value → State → Prop) (Qc : Array Value → State → Outcome → State → Prop) (mc ms : Nat) (free : Addr → Prop) (rm : Room),
      p.tables.exec = Jvm.exec → c.code = cc → ls.size = nL → c.maxLocals = nL → s.vm.findClass y.cls = some m.cls → TB s → va_K D vwCl (tyl cs) s → va_P D vwCl (wld cs ad g) H → oks g st →
      Met l y2 [Cond.code y2 cc2 nL2 rt2] rm Pc Qc mc ms free → rm.cells = mc ∧ rm.slots = ms → rm.frames + 1 ≤ R.frames ∧ 8 + (nL2 + 11) + rm.locals ≤ R.locals → FrameBlind Pc → (∀ U : State, U.heap = H → s.WarmedH U.vm → Pc (stm ad as).toArray U) → cells + mc ≤ R.cells ∧ slots + ms ≤ R.slots →
      va_Run p l e R s m args below meth c H locs cells slots mc ms (F0 m pc ls (stm ad st)) (stm ad rest) (Qc (stm ad as).toArray) free)
    (hroom : rf2 + 1 ≤ rf ∧ 8 + (nL2 + 11) + rl2 ≤ rl) (hp : pr = P.bind F) (hst : oks g st → oks g as ∧ oks g rest)
    (kk : ∀ r g1, J y cc nL rt rf rl X g1 (pc + 3) lv ((ret2 r).toList ++ rest) (F (r, g1))) : J y cc nL rt rf rl X g pc lv st pr := by
  subst hp
  cases P with
  | none => exact J.none
  | some q =>
    obtain ⟨r2, g1⟩ := q
    refine J.eq (show (some (r2, g1)).bind F = F (r2, g1) from rfl) ?_
    have hk := kk r2 g1
    obtain ⟨hmn, hmet⟩ := hM r2 g1 rfl
    obtain ⟨⟨p, l, e, s, m, args, below, meth, c⟩, ⟨D, cs, A⟩, ad0, g0, RF, QF⟩ := X
    obtain ⟨X1, X2, X3⟩ := hX
    have hM1 := hmn
    intro r g' h
    obtain ⟨a, b⟩ := hk r g' h
    have a' := hM1.tr a
    refine ⟨a', fun hG hM hc ad H locs ls h1 h2 h3 h4 h5 h6 h7 h0 => ?_⟩
    obtain ⟨x1, x2, x3, x4, x5, x6, x7, x8, x9, x10, x11, x12⟩ := id hG
    have hs := hst h7
    have e18 : ad (18, 0) = ad0 (18, 0) := h1 _ (Or.inr (Or.inr (Or.inl rfl)))
    have hE : EX ad A s s.heap := x11.ad (h1 _ (Or.inr (Or.inl rfl))) (h1 _ (Or.inr (Or.inr (Or.inr rfl))))
    have hfree := va_D.freeA (sz := H.size) h3 x10 h4.1
    have hmc : gc g - gc g0 + (gc g1 - gc g) ≤ (RF g').cells ∧ gs g - gs g0 + (gs g1 - gs g) ≤ (RF g').slots := by
      have c1 := hM.1; have c2 := hM.2.1; have c3 := hM1.1; have c4 := hM1.2.1; have c5 := a.1; have c6 := a.2.1; have c7 := hc.1; have c8 := hc.2
      constructor <;> omega
    have hrn := hrun p l e s m args below meth c (RF g') H locs (gc g - gc g0) (gs g - gs g0) D cs ad ls _ _ _ _ _ _ x1 x2 h5.1 x3 x4 x8 x9 h2 h7 (hmet l D cs ad H.size hs.1 h0) ⟨rfl, rfl⟩ (by rw [(x12 g').1, (x12 g').2]; exact hroom)
      (fun a2 U gg mk hq => by
        obtain ⟨q1, ⟨q2, q3, q4, q5, q6, q7⟩, q8, q9, q0⟩ := hq
        exact ⟨q1, ⟨q2, q3, q4, va_K.moved (u := U) (U := U.calling gg mk a2) (Vm.Alike.refl U.vm) q5, TB.warm (s := U) (U := U.calling gg mk a2) q6 (State.WarmedH.refl U), EX.moved (u := U) (U := U.calling gg mk a2) (Vm.Alike.refl U.vm) q7⟩, va_X.moved (u := U) (U := U.calling gg mk a2) (Vm.Alike.refl U.vm) q8, q9, q0⟩)
      (fun U hU hW => ⟨rfl, ⟨by rw [hU], by rw [hU]; exact h2, h3.weaken (fun _ _ _ _ => trivial), va_K.moved hW.alike x9, x8.warm hW, by
        rw [hU]
        exact ((hE.kept (H1 := H) (fun q hq hn => h4.2.1 q hq hn)).narrow hfree).moved hW.alike⟩, by
        rw [hU, e18]
        exact (X1.kept (H1 := H) (h4.2.1 _ X2 X3)).moved hW.alike, by
        rw [hU, e18]; exact Nat.lt_of_lt_of_le X2 h4.1, by
        rw [e18]; exact fun z => X3 (hfree _ z)⟩) hmc
    intro T hT X0
    obtain ⟨v, st₀, t, T', L, z0, X', hL, e1, e2, ⟨⟨ad1, hv, hok, hcl, hag, hP1, hD1⟩, hF⟩, stp⟩ := hrn T hT X0
    rw [← e1] at hP1
    have hmvm : s.vm.Alike T'.vm := X'.warmed.alike
    have hag0 : Ag g0 ad0 ad1 := fun w hw => by
      rw [hag w (hw.elim (fun z => Or.inl (hM.2.2 w z)) Or.inr)]
      exact h1 w hw
    have hS1 : va_S A s.heap T'.heap (locs ++ L) := by
      obtain ⟨f1, f2⟩ := hF
      rw [z0, ← e1] at f1
      refine ⟨Nat.le_trans h4.1 f1, fun q hq hn => ?_, fun q hq => ?_⟩
      · have f3 := f2 q (by rw [z0]; exact Nat.lt_of_lt_of_le hq h4.1) (fun z => hn (hfree q z))
        rw [z0, ← e1] at f3
        rw [f3]
        exact h4.2.1 q hq hn
      · rcases List.mem_append.mp hq with h8 | h8
        · exact h4.2.2 q h8
        · exact hfree _ (hL q h8)
    have hk2 := b hG (hM.tr hM1) hc ad1 T'.heap (locs ++ L) ls hag0 hP1 (hD1.weaken (fun _ q _ z => hfree q.1 z)) hS1 (by rw [lvm_ag hag h6]; exact h5) (h6.mn hM1) (by
      intro w hw
      rcases List.mem_append.mp hw with h8 | h8
      · exact hok w (Option.mem_toList.mp h8)
      · exact (hs.2.mn hM1) w h8) hcl
    have e3 : gc g1 - gc g0 = gc g - gc g0 + (gc g1 - gc g) := by have := hM.1; have := hM1.1; omega
    have e4 : gs g1 - gs g0 = gs g - gs g0 + (gs g1 - gs g) := by have := hM.2.1; have := hM1.2.1; omega
    rw [e3, e4] at hk2
    obtain ⟨t2, k1, k2⟩ := hk2 T' rfl X'
    refine ⟨t2, stp t2 ?_, k2⟩
    have e5 : stm ad1 ((ret2 r2).toList ++ rest) = v.toList ++ stm ad rest := by
      have hv2 : v = (ret2 r2).map (cv ad1) := by injection hv
      rw [hv2]
      show List.map (cv ad1) ((ret2 r2).toList ++ rest) = _
      rw [List.map_append]
      have e6 : List.map (cv ad1) rest = stm ad rest := stm_ag hag hs.2
      rw [e6]
      cases ret2 r2 <;> rfl
    rw [e5] at k1
    exact k1
/-- a method of none that reads the script -/
theorem j_callC {σ : Type} {y2 : MethodName} {cc2 : ByteArray} {nL2 : Nat} {rt2 : Option FieldType} {rf2 rl2 : Nat} {ret2 : σ → Option SV} {own : String} {ix : Nat} (as rest : List SV) {P : Option (σ × Hp)} {F : σ × Hp → Option (ρ × Hp)}
    (hd : decode cc pc = .ok (.invokestatic ix, 3)) (hC : FLC own ix y2 cc2 nL2 rt2 as.length) (hV : FLS y2) (ho : own = y.cls) (hX : IsS X L xs) (hM : FMS y2 cc2 nL2 rt2 rf2 rl2 ret2 L xs as g P) (hroom : (rf2 + 1 ≤ rf ∧ 8 + (nL2 + 11) + rl2 ≤ rl) ∧ (rest.map sc).sum ≤ 8) (hst : st = as.reverse ++ rest) (hp : pr = P.bind F)
    (kk : ∀ x g1, J y cc nL rt rf rl X g1 (pc + 3) lv ((ret2 x).toList ++ rest) (F (x, g1))) : J y cc nL rt rf rl X g pc lv st pr := by
  subst hp
  subst hst
  refine J.callS hX hM (fun p l e s m args below meth c0 R H locs cells slots D cs ad ls Pc Qc mc ms free rm hx hb hz hml hw htb hK hP hos hMet hrm hfr hbl hpc hf => ?_) hroom.1 rfl (fun h => oks_rev h) kk
  have hstk : (F0 m pc ls (stm ad (as.reverse ++ rest))).stack = (stm ad as).reverse ++ stm ad rest := stm_rev ad as _
  have hlen : (stm ad as).length = as.length := by simp [stm]
  have hwc := lv_room (pc := pc) (ls := ls) (m := m) (st := stm ad rest) (rest := stm ad (as.reverse ++ rest)) (by rw [stm_cat]; exact hroom.2)
  rcases hC.1 with ⟨l1, l2⟩ | ⟨host, l1⟩
  · exact va_runS (own := own) (As := stm ad as) (n := as.length) (bytes := cc2) (maxL := nL2) (ret := rt2) (index := ix) ⟨hx, hb, hml, by rw [ho]; exact hw, fun w h => absurd h List.not_mem_nil⟩ (Ts := []) hMet ⟨⟨hrm.1, hrm.2, hfr.1, hfr.2, code_ok (args := args) htb hC.2.1, List.mem_cons_self, htb _ hC.2.1.1 hC.2.1.2 args, htb _ hC.2.2.1.1 hC.2.2.1.2 args, hC.2.2.2.1, len_ok hC.2.2.2, htb _ l1 l2 args⟩, htb _ hV.1 hV.2 args⟩ ⟨hbl, hpc⟩ rfl hlen hz hstk hwc hd hf
  · exact va_runSN (own := own) (host := host) (As := stm ad as) (n := as.length) (bytes := cc2) (maxL := nL2) (ret := rt2) (index := ix) ⟨hx, hb, hml, by rw [ho]; exact hw, fun w h => absurd h List.not_mem_nil⟩ (Ts := []) hMet ⟨⟨⟨hrm.1, hrm.2, hfr.1, hfr.2, code_ok (args := args) htb hC.2.1, List.mem_cons_self⟩, htb _ hC.2.1.1 hC.2.1.2 args, htb _ hC.2.2.1.1 hC.2.2.1.2 args, hC.2.2.2.1, len_ok hC.2.2.2, htb _ l1 (by simp [okW, isNw]) args⟩, htb _ hV.1 hV.2 args, trivial⟩ ⟨hbl, hpc⟩ rfl hlen hz hstk hwc hd hf
end CSR
