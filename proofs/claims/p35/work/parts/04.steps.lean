/-! words of the tables that stay true as the machine runs -/
def isNw : Cond → Bool
  | .fieldLinkNest _ _ _ _ _ _ => true
  | .methodLinkNest _ _ _ _ => true
  | .castable _ _ => true
  | _ => false
def okW (w : Cond) : Bool := goodWord w || isNw w
def TB (s : State) : Prop := ∀ w ∈ lw_tbl, okW w = true → ∀ args : Array Value, w.before args s = true
theorem TB.warm {s U : State} (h : TB s) (hW : s.WarmedH U.vm) : TB U := by
  intro w hw hok args
  have h0 := h w hw hok
  unfold okW at hok
  rw [Bool.or_eq_true] at hok
  rcases hok with hg | hn
  · exact word_at hW (good_of_word hg) (h0 #[])
  · cases w <;> first | (simp [isNw] at hn; done) | exact va_Nw.use rfl (va_Nw.warmF hW (va_Nw.of rfl (h0 #[]))) | exact va_Nw.use rfl (va_Nw.warmM hW (va_Nw.of rfl (h0 #[]))) | exact va_Nw.use rfl (va_Nw.warmC hW (va_Nw.of rfl (h0 #[])))
def EX (ad : Nm → Nat) (A : Nat → Prop) (U : State) (H : Heap) : Prop :=
  va_Z "java/util/ArrayList" "DEFAULTCAPACITY_EMPTY_ELEMENTDATA" "[Ljava/lang/Object;" (.ref (ad (17, 0))) A U H ∧ (∃ f, va_T (.object "java/lang/Object") (ad (17, 0)) 0 f A U H) ∧ va_Mi "[Ljava/lang/Object;" (ad (19, 0)) U ∧ va_AO "java/lang/Object" U ∧ va_Dc U
theorem EX.moved {ad : Nm → Nat} {A : Nat → Prop} {u U : State} {H : Heap} (hvm : u.vm.Alike U.vm) (h : EX ad A u H) : EX ad A U H := by
  obtain ⟨h1, ⟨f, h2⟩, h3, h4, h5⟩ := h
  exact ⟨h1.moved hvm, ⟨f, h2.moved hvm⟩, h3.moved hvm, h4.moved hvm, h5.moved hvm⟩
theorem EX.kept {ad : Nm → Nat} {A : Nat → Prop} {U : State} {H H1 : Heap} (h : EX ad A U H) (hq : ∀ a : Nat, a < H.size → ¬ A a → H1[a]? = H[a]?) : EX ad A U H1 := by
  obtain ⟨h1, ⟨f, h2⟩, h3⟩ := h
  exact ⟨h1.kept hq, ⟨f, h2.kept hq⟩, h3⟩
theorem EX.narrow {ad : Nm → Nat} {A B : Nat → Prop} {U : State} {H : Heap} (h : EX ad A U H) (hAB : ∀ q, B q → A q) : EX ad B U H := by
  obtain ⟨h1, ⟨f, h2⟩, h3⟩ := h
  exact ⟨h1.narrow hAB, ⟨f, h2.narrow hAB⟩, h3⟩
theorem EX.ad {ad ad2 : Nm → Nat} {A : Nat → Prop} {U : State} {H : Heap} (h : EX ad A U H) (h17 : ad2 (17, 0) = ad (17, 0)) (h19 : ad2 (19, 0) = ad (19, 0)) : EX ad2 A U H := by
  obtain ⟨h1, ⟨f, h2⟩, h3, h4⟩ := h
  exact ⟨by rw [h17]; exact h1, ⟨f, by rw [h17]; exact h2⟩, by rw [h19]; exact h3, h4⟩
/-! where a method stands -/
abbrev Xt (ρ : Type) : Type := (Program × Launch × Env × State × MethodId × Array Value × List Frame × Method × Code) × (va_G × (ClassId × ClassId × ClassId) × (Nat → Prop)) × (Nm → Nat) × Hp × (Hp → Room) × (ρ → Hp → State → Prop)
def Gd {ρ : Type} (y : MethodName) (cc : ByteArray) (nL : Nat) (rt : Option FieldType) (rf rl : Nat) (X : Xt ρ) : Prop := match X with
  | ((p, _, _, s, m, _, _, meth, c), (D, cs, A), ad0, _, RF, _) =>
    p.tables.exec = Jvm.exec ∧ c.code = cc ∧ c.maxLocals = nL ∧ s.vm.findClass y.cls = some m.cls ∧ meth.sig.returnType = rt ∧ meth.locks = false ∧ (y.name = "<init>" → meth.name = "<init>") ∧ TB s ∧ va_K D vwCl (tyl cs) s ∧ (∀ q : Nat, s.heap.size ≤ q → A q) ∧ EX ad0 A s s.heap ∧ ∀ g, (RF g).frames = rf ∧ (RF g).locals = rl
def Ag (g : Hp) (ad ad1 : Nm → Nat) : Prop := ∀ n, (n ∈ gL g ∨ isX n) → ad1 n = ad n
def lvm (ad : Nm → Nat) (lv : List (Nat × SV)) : List (Nat × Value) := lv.map (fun q => (q.1, cv ad q.2))
def stm (ad : Nm → Nat) (st : List SV) : List Value := st.map (cv ad)
def okl (g : Hp) (lv : List (Nat × SV)) : Prop := ∀ q ∈ lv, okv g q.2
def oks (g : Hp) (st : List SV) : Prop := ∀ v ∈ st, okv g v
theorem okl.mn {g g1 : Hp} {lv : List (Nat × SV)} (h : Mn g g1) (hv : okl g lv) : okl g1 lv := fun q hq => (hv q hq).mn h
theorem oks.mn {g g1 : Hp} {st : List SV} (h : Mn g g1) (hv : oks g st) : oks g1 st := fun q hq => (hv q hq).mn h
theorem oks.cons {g : Hp} {st : List SV} {v : SV} (hv : okv g v) (h : oks g st) : oks g (v :: st) := fun w hw => (List.mem_cons.mp hw).elim (fun e => e ▸ hv) (h w)
theorem oks.tail {g : Hp} {st : List SV} {v : SV} (h : oks g (v :: st)) : oks g st := fun w hw => h w (List.mem_cons_of_mem _ hw)
theorem oks.head {g : Hp} {st : List SV} {v : SV} (h : oks g (v :: st)) : okv g v := h v List.mem_cons_self
theorem cv_ag {g : Hp} {ad ad1 : Nm → Nat} (h : Ag g ad ad1) {v : SV} (hv : okv g v) : cv ad1 v = cv ad v := by
  rcases v with x | x | r
  · rfl
  · rfl
  · cases r with
    | none => rfl
    | some n =>
      show va_rf (some (ad1 n)) = va_rf (some (ad n))
      rw [h n (hv n rfl)]
theorem stm_ag {g : Hp} {ad ad1 : Nm → Nat} (h : Ag g ad ad1) {st : List SV} (hv : oks g st) : stm ad1 st = stm ad st := List.map_congr_left fun v hq => cv_ag h (hv v hq)
theorem lvm_ag {g : Hp} {ad ad1 : Nm → Nat} (h : Ag g ad ad1) {lv : List (Nat × SV)} (hv : okl g lv) : lvm ad1 lv = lvm ad lv := List.map_congr_left fun q hq => by rw [cv_ag h (hv q hq)]
def J {ρ : Type} (y : MethodName) (cc : ByteArray) (nL : Nat) (rt : Option FieldType) (rf rl : Nat) (X : Xt ρ) (g : Hp) (pc : Nat) (lv : List (Nat × SV)) (st : List SV) (pr : Option (ρ × Hp)) : Prop := match X with
  | ((p, l, e, s, m, args, below, meth, c), (D, cs, A), ad0, g0, RF, QF) =>
    ∀ (r : ρ) (g' : Hp), pr = some (r, g') → Mn g g' ∧ (Gd y cc nL rt rf rl X → Mn g0 g → gc g' - gc g0 ≤ (RF g').cells ∧ gs g' - gs g0 ≤ (RF g').slots →
      ∀ (ad : Nm → Nat) (H : Heap) (locs : List Loc) (ls : Array Slot), Ag g0 ad0 ad → va_P D vwCl (wld cs ad g) H → va_D A (wld cs ad g) → va_S A s.heap H locs → lv_has ls nL (lvm ad lv) → okl g lv → oks g st → Cl g →
        W p l e (RF g') s m args below meth c H locs (gc g - gc g0) (gs g - gs g0) (QF r g') (F0 m pc ls (stm ad st)))
section STP
variable {ρ : Type} {y : MethodName} {cc : ByteArray} {nL : Nat} {rt : Option FieldType} {rf rl : Nat} {X : Xt ρ} {g : Hp} {pc : Nat} {lv lv' : List (Nat × SV)} {st : List SV} {pr pr2 : Option (ρ × Hp)}
theorem J.eq (h : pr = pr2) (k : J y cc nL rt rf rl X g pc lv st pr2) : J y cc nL rt rf rl X g pc lv st pr := h ▸ k
theorem J.none : J y cc nL rt rf rl X g pc lv st none := by
  obtain ⟨⟨p, l, e, s, m, args, below, meth, c⟩, ⟨D, cs, A⟩, ad0, g0, RF, QF⟩ := X
  intro r g' h
  cases h
/-- fewer locals -/
theorem J.sub (ks : List Nat) (hl : ks.filterMap (fun k => lv[k]?) = lv') (k : J y cc nL rt rf rl X g pc lv' st pr) : J y cc nL rt rf rl X g pc lv st pr := by
  obtain ⟨⟨p, l, e, s, m, args, below, meth, c⟩, ⟨D, cs, A⟩, ad0, g0, RF, QF⟩ := X
  intro r g' h
  obtain ⟨a, b⟩ := k r g' h
  refine ⟨a, fun hG hM hc ad H locs ls h1 h2 h3 h4 h5 h6 h7 h0 => b hG hM hc ad H locs ls h1 h2 h3 h4 ?_ ?_ h7 h0⟩
  · refine lv_sub h5 ks ?_
    subst hl
    simp [lv_pick, lvm, List.map_filterMap]
  · intro q hq
    subst hl
    obtain ⟨i, -, hi⟩ := List.mem_filterMap.mp hq
    exact h6 q (List.mem_of_getElem? hi)
/-- a step that changes neither heap nor locals -/
theorem J.s {pc' : Nat} {st' : List SV} (hW : ∀ (p : Program) (l : Launch) (e : Env) (s : State) (m : MethodId) (args : Array Value) (below : List Frame) (meth : Method) (c : Code) (R : Room) (H : Heap) (locs : List Loc) (cells slots : Nat) (Q : State → Prop) (ad : Nm → Nat) (ls : Array Slot),
      p.tables.exec = Jvm.exec → c.code = cc → s.vm.findClass y.cls = some m.cls → TB s → lv_has ls nL (lvm ad lv) → W p l e R s m args below meth c H locs cells slots Q (F0 m pc' ls (stm ad st')) → W p l e R s m args below meth c H locs cells slots Q (F0 m pc ls (stm ad st)))
    (hok : okl g lv → oks g st → oks g st') (k : J y cc nL rt rf rl X g pc' lv st' pr) : J y cc nL rt rf rl X g pc lv st pr := by
  obtain ⟨⟨p, l, e, s, m, args, below, meth, c⟩, ⟨D, cs, A⟩, ad0, g0, RF, QF⟩ := X
  intro r g' h
  obtain ⟨a, b⟩ := k r g' h
  refine ⟨a, fun hG hM hc ad H locs ls h1 h2 h3 h4 h5 h6 h7 h0 => ?_⟩
  obtain ⟨x1, x2, x3, x4, x5, x6, x7, x8, x9⟩ := id hG
  exact hW p l e s m args below meth c _ H locs _ _ _ ad ls x1 x2 x4 x8 h5 (b hG hM hc ad H locs ls h1 h2 h3 h4 h5 h6 (hok h6 h7) h0)
/-- a store -/
theorem J.t {pc' : Nat} {st' : List SV} (hW : ∀ (p : Program) (l : Launch) (e : Env) (s : State) (m : MethodId) (args : Array Value) (below : List Frame) (meth : Method) (c : Code) (R : Room) (H : Heap) (locs : List Loc) (cells slots : Nat) (Q : State → Prop) (ad : Nm → Nat) (ls : Array Slot),
      p.tables.exec = Jvm.exec → c.code = cc → lv_has ls nL (lvm ad lv) → (∀ ls', lv_has ls' nL (lvm ad lv') → W p l e R s m args below meth c H locs cells slots Q (F0 m pc' ls' (stm ad st'))) → W p l e R s m args below meth c H locs cells slots Q (F0 m pc ls (stm ad st)))
    (hok : okl g lv → oks g st → okl g lv' ∧ oks g st') (k : J y cc nL rt rf rl X g pc' lv' st' pr) : J y cc nL rt rf rl X g pc lv st pr := by
  obtain ⟨⟨p, l, e, s, m, args, below, meth, c⟩, ⟨D, cs, A⟩, ad0, g0, RF, QF⟩ := X
  intro r g' h
  obtain ⟨a, b⟩ := k r g' h
  refine ⟨a, fun hG hM hc ad H locs ls h1 h2 h3 h4 h5 h6 h7 h0 => ?_⟩
  obtain ⟨x1, x2, -⟩ := id hG
  exact hW p l e s m args below meth c _ H locs _ _ _ ad ls x1 x2 h5 (fun ls' h8 => b hG hM hc ad H locs ls' h1 h2 h3 h4 h8 (hok h6 h7).1 (hok h6 h7).2 h0)
/-- a fork -/
theorem J.f {P : Prop} [Decidable P] {pt pf : Nat} {st' : List SV} {a b : Option (ρ × Hp)} (hW : ∀ (p : Program) (l : Launch) (e : Env) (s : State) (m : MethodId) (args : Array Value) (below : List Frame) (meth : Method) (c : Code) (R : Room) (H : Heap) (locs : List Loc) (cells slots : Nat) (Q : State → Prop) (ad : Nm → Nat) (ls : Array Slot),
      p.tables.exec = Jvm.exec → c.code = cc → (P → W p l e R s m args below meth c H locs cells slots Q (F0 m pt ls (stm ad st'))) → (¬ P → W p l e R s m args below meth c H locs cells slots Q (F0 m pf ls (stm ad st'))) → W p l e R s m args below meth c H locs cells slots Q (F0 m pc ls (stm ad st)))
    (hok : oks g st → oks g st') (hp : pr = if P then a else b) (kt : P → J y cc nL rt rf rl X g pt lv st' a) (kf : ¬ P → J y cc nL rt rf rl X g pf lv st' b) : J y cc nL rt rf rl X g pc lv st pr := by
  obtain ⟨⟨p, l, e, s, m, args, below, meth, c⟩, ⟨D, cs, A⟩, ad0, g0, RF, QF⟩ := X
  intro r g' h
  subst hp
  have hM : Mn g g' := by
    by_cases hP : P
    · rw [if_pos hP] at h; exact (kt hP r g' h).1
    · rw [if_neg hP] at h; exact (kf hP r g' h).1
  refine ⟨hM, fun hG hM hc ad H locs ls h1 h2 h3 h4 h5 h6 h7 h0 => ?_⟩
  obtain ⟨x1, x2, -⟩ := id hG
  refine hW p l e s m args below meth c _ H locs _ _ _ ad ls x1 x2 (fun hP => ?_) (fun hP => ?_)
  · rw [if_pos hP] at h
    exact (kt hP r g' h).2 hG hM hc ad H locs ls h1 h2 h3 h4 h5 h6 (hok h7) h0
  · rw [if_neg hP] at h
    exact (kf hP r g' h).2 hG hM hc ad H locs ls h1 h2 h3 h4 h5 h6 (hok h7) h0
end STP
