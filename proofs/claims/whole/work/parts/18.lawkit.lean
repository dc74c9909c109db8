def R_law : String := "FirstSecondsLaw"
def lw_P (b : Addr) (xs : List Int32) (args : Array Value) (s : State) : Prop := args = #[.ref b] ∧ s.IntsAt b xs ∧ xs.length ≤ 3072 ∧ (Jvm.Cond.and given_1 narrow_1).before args s = true
def lw_Q (_ : Array Value) (s : State) (o : Outcome) (t : State) : Prop := o = .returned (some (.int 1)) ∧ Framed s o t [] 600000 7302250
def lw_Z (below : List Frame) (a : Array Value) (s : State) : State → Prop := fun t => ∃ o, t.status = .running ∧ Ended t below o ∧ lw_Q a s o t
/-- the law's own end, with 1 on the stack, nothing written that was there before, its room as the claim has it -/
theorem lw_ret {p : Program} {l : Launch} {e : Env} {s : State} {m : MethodId} {below : List Frame} {meth : Method} {c : Code} {b : Nat} (hx : p.tables.exec = Jvm.exec) (hb : c.code = code) (hr : meth.sig.returnType = ret) (hlocks : meth.locks = false) {pc : Nat} {H : Heap} {ls : Array Slot} (hdg : decode code pc = .ok (.ireturn, 1)) : W p l e room_1 s m #[Value.ref b] below meth c H [] 600000 7302250 (lw_Z below #[Value.ref b] s) (F0 m pc ls [.int 1]) := by
  intro T hT X
  obtain ⟨fs, hret, hrun, hended, hW, hframe⟩ := X.leave (v := some (.int 1)) (hlocks := hlocks) (fun h => by rw [hr] at h; cases h)
  have hmeth' : T.vm.method? m = some meth := X.method'
  refine ⟨T.setFrames fs, ?_, .returned (some (.int 1)), hrun, hended, rfl, ⟨_, rfl⟩, hW, hframe⟩
  jvm_step X.here [X.here.top, hx, hb, hdg, hmeth', hr, ret, narrow_b1]
  (try refine ⟨rfl, ?_⟩); (try refine ⟨rfl, ?_⟩)
  first | (intro acts; rw [hret _ acts rfl rfl rfl]) | rw [hret _ _ rfl rfl rfl]
  exact Steps.refl _
/-- what holds at the law's entry: the machine, the code, the tables' words (any of lw_tbl by 'hts w (by decide +kernel)'), the script of L ints xs at the cell b, what the Statement gives of the start (any of its parts by flat_of_before) -/
def lw_At (p : Program) (s : State) (m : MethodId) (meth : Method) (c : Code) (b L : Nat) (xs : Nat → Int32) : Prop :=
  p.tables.exec = Jvm.exec ∧ c.code = code ∧ meth.sig.returnType = ret ∧ c.maxLocals = 4 ∧ s.vm.findClass R_law = some m.cls ∧ (∀ w ∈ lw_tbl, w.before #[Value.ref b] s = true) ∧ va_X b L xs s s.heap ∧ b < s.heap.size ∧ meth.locks = false ∧ (Jvm.Cond.and given_1 narrow_1).before #[Value.ref b] s = true
/-! the law's own reads and end -/
noncomputable def aldS (r : Option Nm) (i : Int32) (L : Nat) (xs : Nat → Int32) : Option Int32 := by
  classical exact if r = some (18, 0) ∧ vp_in i L then some (xs i.toNatClampNeg) else none
def alnS (r : Option Nm) (L : Nat) : Option Int32 := if r = some (18, 0) then some (Int32.ofNat L) else none
def IsL (X : Xt Int32) (L : Nat) (xs : Nat → Int32) : Prop := match X with
  | ((_, _, _, s, _, args, below, _, _), (_, _, A), ad0, _, RF, QF) => args = #[Value.ref (ad0 (18, 0))] ∧ (A = fun q : Nat => s.heap.size ≤ q) ∧ va_X (ad0 (18, 0)) L xs s s.heap ∧ ad0 (18, 0) < s.heap.size ∧ (∀ g, RF g = room_1) ∧ (∀ r g1, QF r g1 = fun t => r = 1 → lw_Z below #[Value.ref (ad0 (18, 0))] s t)
section LRU
variable {y : MethodName} {nL : Nat} {rf rl : Nat} {X : Xt Int32} {L : Nat} {xs : Nat → Int32} {g : Hp} {pc : Nat} {lv lv' : List (Nat × SV)} {st : List SV} {pr pr2 : Option (Int32 × Hp)}
theorem j_aldS {cc : ByteArray} {rt : Option FieldType} {r : Option Nm} {i : Int32} {F : Int32 → Option (Int32 × Hp)} (hd : decode cc pc = .ok (.iaload, 1)) (hX : IsL X L xs) (hp : pr = (aldS r i L xs).bind F) (kk : ∀ x, J y cc nL rt rf rl X g (pc + 1) lv (sI x :: st) (F x)) : J y cc nL rt rf rl X g pc lv (sI i :: sR r :: st) pr := by
  subst hp
  by_cases hn : r = some (18, 0) ∧ vp_in i L
  · obtain ⟨rfl, hi⟩ := hn
    have e : (aldS (some (18, 0)) i L xs).bind F = F (xs i.toNatClampNeg) := by simp [aldS, hi]
    refine J.eq e ?_
    have k := kk (xs i.toNatClampNeg)
    obtain ⟨⟨p, l, e, s, m, args, below, meth, c⟩, ⟨D, cs, A⟩, ad0, g0, RF, QF⟩ := X
    intro r g' h
    obtain ⟨a, b⟩ := k r g' h
    obtain ⟨q1, q2, q3, q4, q5, q6⟩ := hX
    refine ⟨a, fun hG hM hc ad H locs ls h1 h2 h3 h4 h5 h6 h7 h0 => ?_⟩
    obtain ⟨x1, x2, -⟩ := id hG
    have e18 : ad (18, 0) = ad0 (18, 0) := h1 _ (Or.inr (Or.inr (Or.inl rfl)))
    have K0 := b hG hM hc ad H locs ls h1 h2 h3 h4 h5 h6 (h7.tail.tail.ci (x := xs i.toNatClampNeg)) h0
    have e9 : stm ad (sI i :: sR (some (18, 0)) :: st) = .int i :: .ref (ad0 (18, 0)) :: stm ad st := by
      show Value.int i :: va_rf (some (ad (18, 0))) :: stm ad st = _
      rw [e18]; rfl
    rw [e9]
    exact va_sld x1 x2 q3 q4 (by rw [q2]; exact Nat.not_le.mpr q4) h4 hi hd K0
  · have e : (aldS r i L xs).bind F = none := by simp only [aldS, if_neg hn, Option.bind_none]
    exact J.eq e J.none
theorem j_alnS {cc : ByteArray} {rt : Option FieldType} {r : Option Nm} {F : Int32 → Option (Int32 × Hp)} (hd : decode cc pc = .ok (.arraylength, 1)) (hX : IsL X L xs) (hp : pr = (alnS r L).bind F) (kk : ∀ x, J y cc nL rt rf rl X g (pc + 1) lv (sI x :: st) (F x)) : J y cc nL rt rf rl X g pc lv (sR r :: st) pr := by
  subst hp
  by_cases hn : r = some (18, 0)
  · subst hn
    have e : (alnS (some (18, 0)) L).bind F = F (Int32.ofNat L) := by simp [alnS]
    refine J.eq e ?_
    have k := kk (Int32.ofNat L)
    obtain ⟨⟨p, l, e, s, m, args, below, meth, c⟩, ⟨D, cs, A⟩, ad0, g0, RF, QF⟩ := X
    intro r g' h
    obtain ⟨a, b⟩ := k r g' h
    obtain ⟨q1, q2, q3, q4, q5, q6⟩ := hX
    refine ⟨a, fun hG hM hc ad H locs ls h1 h2 h3 h4 h5 h6 h7 h0 => ?_⟩
    obtain ⟨x1, x2, -⟩ := id hG
    have e18 : ad (18, 0) = ad0 (18, 0) := h1 _ (Or.inr (Or.inr (Or.inl rfl)))
    have K0 := b hG hM hc ad H locs ls h1 h2 h3 h4 h5 h6 (h7.tail.ci (x := Int32.ofNat L)) h0
    have e9 : stm ad (sR (some (18, 0)) :: st) = .ref (ad0 (18, 0)) :: stm ad st := by
      show va_rf (some (ad (18, 0))) :: stm ad st = _
      rw [e18]; rfl
    rw [e9]
    exact va_slen x1 x2 q3 q4 (by rw [q2]; exact Nat.not_le.mpr q4) h4 hd K0
  · have e : (alnS r L).bind F = none := by simp only [alnS, if_neg hn, Option.bind_none]
    exact J.eq e J.none
theorem j_lawret {x : Int32} (hd : decode code pc = .ok (.ireturn, 1)) (hX : IsL X L xs) (hp : pr = some (x, g)) : J y code nL ret rf rl X g pc lv (sI x :: []) pr := by
  obtain ⟨⟨p, l, e, s, m, args, below, meth, c⟩, ⟨D, cs, A⟩, ad0, g0, RF, QF⟩ := X
  intro r g' h
  rw [hp] at h
  cases h
  refine ⟨Mn.rf g, fun hG hM hc ad H locs ls h1 h2 h3 h4 h5 h6 h7 h0 => ?_⟩
  obtain ⟨x1, x2, x3, x4, x5, x6, x7, x8, x9, x10, x11, x12⟩ := id hG
  obtain ⟨rfl, q2, q3, q4, q5, q6⟩ := hX
  rw [q6]
  rw [q5] at hc ⊢
  by_cases h9 : x = 1
  · subst h9
    refine va_forget (fun q hq => by have := h4.2.2 q hq; rw [q2] at this; exact this) ?_
    refine W.widen (k := 600000) (n := 7302250) hc.1 hc.2 ?_
    intro T hT X0
    obtain ⟨t, k1, k2⟩ := lw_ret (b := ad0 (18, 0)) x1 x2 x5 x6 hd T hT X0
    exact ⟨t, k1, fun _ => k2⟩
  · intro T hT X0
    exact ⟨_, Steps.refl _, fun z => absurd z h9⟩
end LRU
