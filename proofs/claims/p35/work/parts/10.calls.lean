/-! contracts, calls, ends -/
def PcF (D : va_G) (cs : ClassId × ClassId × ClassId) (ad : Nm → Nat) (g : Hp) (sz : Nat) : State → Prop := fun U => U.heap.size = sz ∧ va_P D vwCl (wld cs ad g) U.heap ∧ va_D (fun _ => True) (wld cs ad g) ∧ va_K D vwCl (tyl cs) U ∧ TB U ∧ EX ad (va_A (wld cs ad g) sz) U U.heap
def QcF {ρ : Type} (D : va_G) (cs : ClassId × ClassId × ClassId) (ad : Nm → Nat) (g : Hp) (A : Nat → Prop) (ret : ρ → Option SV) (r : ρ) (g1 : Hp) : Array Value → State → Outcome → State → Prop := fun _ st o t =>
  (∃ ad1, o = .returned ((ret r).map (cv ad1)) ∧ (∀ v, ret r = some v → okv g1 v) ∧ Cl g1 ∧ Ag g ad ad1 ∧ va_P D vwCl (wld cs ad1 g1) t.heap ∧ va_D A (wld cs ad1 g1)) ∧ va_F A st t
/-- what a method does: where its function has an answer, the method gives it -/
def FM {ρ : Type} (y : MethodName) (cc : ByteArray) (nL : Nat) (rt : Option FieldType) (rf rl : Nat) (ret : ρ → Option SV) (as : List SV) (g : Hp) (pr : Option (ρ × Hp)) : Prop :=
  ∀ (r : ρ) (g1 : Hp), pr = some (r, g1) → (Program × Launch × Env × State × MethodId × Array Value × List Frame × Method × Code → Mn g g1) ∧ ∀ (l : Launch) (D : va_G) (cs : ClassId × ClassId × ClassId) (ad : Nm → Nat) (sz : Nat), oks g as → Cl g →
    Met l y [Cond.code y cc nL rt] { frames := rf, cells := gc g1 - gc g, slots := gs g1 - gs g, locals := rl } (va_Pc (stm ad as) (PcF D cs ad g sz)) (QcF D cs ad g (va_A (wld cs ad g) sz) ret r g1) (gc g1 - gc g) (gs g1 - gs g) (va_A (wld cs ad g) sz)
abbrev rtI : Int32 → Option SV := fun x => some (sI x)
abbrev rtL : Int64 → Option SV := fun x => some (sL x)
abbrev rtR : Option Nm → Option SV := fun x => some (sR x)
abbrev rtV : Unit → Option SV := fun _ => none
def IsM {ρ : Type} (ret : ρ → Option SV) (X : Xt ρ) : Prop := match X with
  | ((_, _, _, s, _, args, below, _, _), (D, cs, A), ad0, g0, RF, QF) => (∀ r g1, QF r g1 = MQ below (QcF D cs ad0 g0 A ret r g1) args s (gc g1 - gc g0) (gs g1 - gs g0) A)
def lva : Nat → List SV → List (Nat × SV)
  | _, [] => []
  | i, v :: vs => (i, v) :: lva (i + sc v) vs
theorem lva_lv (ad : Nm → Nat) : ∀ (as : List SV) (i : Nat), lv_args i (stm ad as) = lvm ad (lva i as)
  | [], _ => rfl
  | v :: vs, i => by
    have := lva_lv ad vs (i + sc v)
    show (i, cv ad v) :: lv_args (if (cv ad v).category = 2 then i + 2 else i + 1) (stm ad vs) = (i, cv ad v) :: lvm ad (lva (i + sc v) vs)
    rw [cv_cat, ← this]
    rcases v with x | x | x <;> simp [sc]
theorem lg_len (ad : Nm → Nat) : ∀ (as : List SV), (lg_sl (stm ad as)).length = (as.map sc).sum
  | [] => rfl
  | v :: vs => by
    have ih := lg_len ad vs
    have e : lg_sl (stm ad (v :: vs)) = (if (cv ad v).category = 2 then [.val (cv ad v), .second] else [.val (cv ad v)]) ++ lg_sl (stm ad vs) := rfl
    rw [e, List.length_append, ih, cv_cat]
    rcases v with x | x | x <;> simp [sc]
theorem va_D.freeA {cs : ClassId × ClassId × ClassId} {ad : Nm → Nat} {g : Hp} {A : Nat → Prop} {z sz : Nat} (hD : va_D A (wld cs ad g)) (hA : ∀ q : Nat, z ≤ q → A q) (hz : z ≤ sz) : ∀ q, va_A (wld cs ad g) sz q → A q := by
  rintro q (⟨k, e, h⟩ | h)
  · exact hD.2 k _ h
  · exact hA q (Nat.le_trans hz h)
theorem FM.entry {ρ : Type} {y : MethodName} {cc : ByteArray} {nL : Nat} {rt : Option FieldType} {rf rl : Nat} {ret : ρ → Option SV} {as : List SV} {g : Hp} {pr : Option (ρ × Hp)} (hy : plainName y.cls = true) (hn : (as.map sc).sum ≤ nL) (hJ : ∀ X : Xt ρ, IsM ret X → J y cc nL rt rf rl X g 0 (lva 0 as) [] pr) : FM y cc nL rt rf rl ret as g pr := by
  intro r g1 h
  refine ⟨fun b => (hJ (b, ((fun _ => 0, fun _ _ => 0), (0, 0, 0), fun _ => True), (fun _ => 0), g, (fun _ => { frames := 0, cells := 0, slots := 0, locals := 0 }), (fun r g1 => MQ b.2.2.2.2.2.2.1 (QcF (fun _ => 0, fun _ _ => 0) (0, 0, 0) (fun _ => 0) g (fun _ => True) ret r g1) b.2.2.2.2.2.1 b.2.2.2.1 (gc g1 - gc g) (gs g1 - gs g) (fun _ => True))) (fun _ _ => rfl) r g1 h).1, fun l D cs ad sz hok hcl => ?_⟩
  refine Met.ofW (cc := cc) (maxL := nL) (ret := rt) hy rfl ?_
  intro p e s m args below meth c s₁ B hml hv
  obtain ⟨rfl, hsz, hP, hD0, hK, hTB, hE⟩ := hv
  subst hsz
  have hown : s.vm.findClass y.cls = some m.cls := findClass_of_methodNamed B.named
  have hl := lv_entry (stm ad as) (n := nL) (by rw [lg_len]; exact hn)
  rw [lg_entry_eq]
  generalize (lg_sl (stm ad as) ++ List.replicate (nL - (lg_sl (stm ad as)).length) Slot.unset).toArray = ls at hl ⊢
  rw [lva_lv] at hl
  let A := va_A (wld cs ad g) s.heap.size
  let RF : Hp → Room := fun g1 => { frames := rf, cells := gc g1 - gc g, slots := gs g1 - gs g, locals := rl }
  let QF : ρ → Hp → State → Prop := fun r g1 => MQ below (QcF D cs ad g A ret r g1) (stm ad as).toArray s (gc g1 - gc g) (gs g1 - gs g) A
  have hk := (hJ ((p, l, e, s, m, (stm ad as).toArray, below, meth, c), (D, cs, A), ad, g, RF, QF) (fun _ _ => rfl) r g1 h).2 ⟨B.exec, B.bytes, hml, hown, B.returns, B.notSynchronized, fun hq => (name_of_methodNamed B.named B.method).1.trans hq, hTB, hK, fun q hq => Or.inr hq, hE, fun _ => ⟨rfl, rfl⟩⟩ (Mn.rf g) ⟨Nat.le_refl _, Nat.le_refl _⟩ ad s.heap [] ls (fun _ _ => rfl) hP hD0.self va_S.rf hl (fun q hq => by
    have : ∀ (as : List SV) (i : Nat), oks g as → ∀ q ∈ lva i as, okv g q.2 := by
      intro as
      induction as with
      | nil => intro i _ q hq; cases hq
      | cons v vs ih => intro i ho q hq; rcases List.mem_cons.mp hq with e | e
                        · subst e; exact ho.head
                        · exact ih _ ho.tail q e
    exact this as 0 hok q hq) (fun v hv => by cases hv) hcl
  rw [Nat.sub_self, Nat.sub_self] at hk
  exact hk
