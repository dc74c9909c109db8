/-! A heap by names: a cell's name is (code, number). Codes 0 .. 10 are the objects of vwCl, 12 .. 16 rows of references, 20 .. 59 rows of ints, 60 .. rows of booleans; 17, 18, 19 are cells that are not ours -/
abbrev Nm : Type := Nat × Nat
abbrev Hp : Type := (List Nm × (Nm → Nat → Option Nm) × (Nm → Nat)) × (Nm → Nat → Int32) × Nat × Nat
def gL (g : Hp) : List Nm := g.1.1
def gR (g : Hp) : Nm → Nat → Option Nm := g.1.2.1
def gN (g : Hp) : Nm → Nat := g.1.2.2
def gI (g : Hp) : Nm → Nat → Int32 := g.2.1
def gc (g : Hp) : Nat := g.2.2.1
def gs (g : Hp) : Nat := g.2.2.2
def isX (n : Nm) : Prop := n = (17, 0) ∨ n = (18, 0) ∨ n = (19, 0)
def okr (g : Hp) (r : Option Nm) : Prop := ∀ n, r = some n → n ∈ gL g ∨ isX n
abbrev SV : Type := Int32 ⊕ Int64 ⊕ Option Nm
abbrev sI (x : Int32) : SV := .inl x
abbrev sL (x : Int64) : SV := .inr (.inl x)
abbrev sR (r : Option Nm) : SV := .inr (.inr r)
def cv (ad : Nm → Nat) : SV → Value
  | .inl x => .int x
  | .inr (.inl x) => .long x
  | .inr (.inr r) => va_rf (r.map ad)
def sc : SV → Nat
  | .inr (.inl _) => 2
  | _ => 1
def okv (g : Hp) : SV → Prop
  | .inr (.inr r) => okr g r
  | _ => True
theorem cv_cat (ad : Nm → Nat) (v : SV) : (cv ad v).category = sc v := by
  rcases v with x | x | r
  · rfl
  · rfl
  · cases r <;> rfl
def flds : Nat → List Bool
  | 0 => [false, true, false]
  | 1 => [true, true, false, false, false, false]
  | 2 => [false, false, false, false]
  | 3 => [false, false, false, false, false]
  | 4 => [false, false, true, false, true, true]
  | 5 => [true, false]
  | 6 => [false, true, false]
  | 7 => [false]
  | 8 => [true]
  | 9 => [true, true, true, true, true, true, true, true, true, false, false, false, false, false]
  | 10 => [false, true, false, false, false, false, false, true, true, false, true, true, true, true, true, false, true, true, true, true, false, true, true, true, false, true, true]
  | _ => []
def fv (ad : Nm → Nat) (g : Hp) (n : Nm) (k : Nat) (b : Bool) : Value := if b = true then va_rf ((gR g n k).map ad) else .int (gI g n k)
def ent (cs : ClassId × ClassId × ClassId) (ad : Nm → Nat) (g : Hp) (n : Nm) : va_E :=
  if n.1 < 11 then .inr (n.1, (flds n.1).mapIdx (fv ad g n))
  else if n.1 < 20 then .inl (cs.2.2, gN g n, .inr (.inr (.inr (.inr (fun j => (gR g n j).map ad)))))
  else if n.1 < 60 then .inl (cs.1, gN g n, .inl (gI g n))
  else .inl (cs.2.1, gN g n, .inl (gI g n))
def wld (cs : ClassId × ClassId × ClassId) (ad : Nm → Nat) (g : Hp) : va_W := (gL g).map (fun n => (ad n, ent cs ad g n))
def tyl (cs : ClassId × ClassId × ClassId) : List (ClassId × FieldType) := [(cs.1, .int), (cs.2.1, .int), (cs.2.2, .object "java/lang/Object")]
theorem ent_o {cs : ClassId × ClassId × ClassId} {ad : Nm → Nat} {g : Hp} {n : Nm} (h : n.1 < 11) : ent cs ad g n = .inr (n.1, (flds n.1).mapIdx (fv ad g n)) := by simp [ent, h]
theorem ent_r {cs : ClassId × ClassId × ClassId} {ad : Nm → Nat} {g : Hp} {n : Nm} (h : 12 ≤ n.1) (h2 : n.1 < 17) : ent cs ad g n = .inl (cs.2.2, gN g n, .inr (.inr (.inr (.inr (fun j => (gR g n j).map ad))))) := by
  have a1 : ¬ n.1 < 11 := by omega
  have a2 : n.1 < 20 := by omega
  simp [ent, a1, a2]
theorem ent_i {cs : ClassId × ClassId × ClassId} {ad : Nm → Nat} {g : Hp} {n : Nm} (h : 20 ≤ n.1) (h2 : n.1 < 60) : ent cs ad g n = .inl (cs.1, gN g n, .inl (gI g n)) := by
  have a1 : ¬ n.1 < 11 := by omega
  have a2 : ¬ n.1 < 20 := by omega
  simp [ent, a1, a2, h2]
theorem ent_z {cs : ClassId × ClassId × ClassId} {ad : Nm → Nat} {g : Hp} {n : Nm} (h : 60 ≤ n.1) : ent cs ad g n = .inl (cs.2.1, gN g n, .inl (gI g n)) := by
  have a1 : ¬ n.1 < 11 := by omega
  have a2 : ¬ n.1 < 20 := by omega
  have a3 : ¬ n.1 < 60 := by omega
  simp [ent, a1, a2, a3]
theorem fv_get {ad : Nm → Nat} {g : Hp} {n : Nm} {k : Nat} {b : Bool} (h : (flds n.1)[k]? = some b) : ((flds n.1).mapIdx (fv ad g n))[k]? = some (fv ad g n k b) := by
  rw [List.getElem?_mapIdx, h]; rfl
theorem wat {cs : ClassId × ClassId × ClassId} {ad : Nm → Nat} {g : Hp} {n : Nm} (h : n ∈ gL g) : ∃ k : Nat, (gL g)[k]? = some n ∧ (wld cs ad g)[k]? = some (ad n, ent cs ad g n) := by
  obtain ⟨k, hk⟩ := List.getElem?_of_mem h
  exact ⟨k, hk, by simp [wld, hk]⟩
theorem winj {cs : ClassId × ClassId × ClassId} {ad : Nm → Nat} {g : Hp} {A : Nat → Prop} (hD : va_D A (wld cs ad g)) {n m : Nm} (hn : n ∈ gL g) (hm : m ∈ gL g) (he : ad n = ad m) : n = m := by
  obtain ⟨k, h1, h2⟩ := wat (cs := cs) (ad := ad) hn
  obtain ⟨j, h3, h4⟩ := wat (cs := cs) (ad := ad) hm
  have := hD.1 k j _ _ h2 h4 he
  subst this
  exact Option.some.inj (h1.symm.trans h3)
theorem wset {cs : ClassId × ClassId × ClassId} {ad : Nm → Nat} {g g1 : Hp} {A : Nat → Prop} (hD : va_D A (wld cs ad g)) {n : Nm} {k : Nat} {e : va_E} (hk : (gL g)[k]? = some n) (hL : gL g1 = gL g) (he : ent cs ad g1 n = e) (ho : ∀ m, m ≠ n → ent cs ad g1 m = ent cs ad g m) : (wld cs ad g).set k (ad n, e) = wld cs ad g1 := by
  apply List.ext_getElem?
  intro j
  have hlt : k < (gL g).length := (List.getElem?_eq_some_iff.mp hk).1
  rw [List.getElem?_set]
  simp only [wld, hL, List.length_map, List.getElem?_map]
  by_cases hj : k = j
  · subst hj
    have hg := (List.getElem?_eq_some_iff.mp hk).2
    simp [hlt, hg, he]
  · rw [if_neg hj]
    cases hq : (gL g)[j]? with
    | none => rfl
    | some m =>
      have hm : m ≠ n := by
        intro e2
        subst e2
        have h1 : (wld cs ad g)[k]? = some (ad m, ent cs ad g m) := by simp [wld, hk]
        have h2 : (wld cs ad g)[j]? = some (ad m, ent cs ad g m) := by simp [wld, hq]
        exact hj (hD.1 k j _ _ h1 h2 rfl)
      simp [ho m hm]
def setI (g : Hp) (n : Nm) (k : Nat) (v : Int32) : Hp := (g.1, (fun m j => if m = n ∧ j = k then v else gI g m j), g.2.2)
def setR (g : Hp) (n : Nm) (k : Nat) (r : Option Nm) : Hp := ((gL g, (fun m j => if m = n ∧ j = k then r else gR g m j), gN g), g.2)
def newN (g : Hp) (n : Nm) (len sz : Nat) : Hp := ((gL g ++ [n], (fun m j => if m = n then none else gR g m j), (fun m => if m = n then len else gN g m)), (fun m j => if m = n then 0 else gI g m j), gc g + 1, gs g + sz)
def cpI (g : Hp) (a : Nm) (sp : Nat) (b : Nm) (dp n : Nat) : Hp := (g.1, (fun m j => if m = b then va_cpy (gI g a) (gI g b) sp dp n j else gI g m j), g.2.2)
def cpR (g : Hp) (a : Nm) (sp : Nat) (b : Nm) (dp n : Nat) : Hp := ((gL g, (fun m j => if m = b then va_cpy (gR g a) (gR g b) sp dp n j else gR g m j), gN g), g.2)
/-- what a cell refers to is there -/
def Cl (g : Hp) : Prop := ∀ m ∈ gL g, ∀ k, okr g (gR g m k)
def Mn (g g1 : Hp) : Prop := gc g ≤ gc g1 ∧ gs g ≤ gs g1 ∧ ∀ n ∈ gL g, n ∈ gL g1
theorem Mn.rf (g : Hp) : Mn g g := ⟨Nat.le_refl _, Nat.le_refl _, fun _ h => h⟩
theorem Mn.tr {a b c : Hp} (h : Mn a b) (h2 : Mn b c) : Mn a c := ⟨Nat.le_trans h.1 h2.1, Nat.le_trans h.2.1 h2.2.1, fun n hn => h2.2.2 n (h.2.2 n hn)⟩
theorem okr.mn {g g1 : Hp} (h : Mn g g1) {r : Option Nm} (hr : okr g r) : okr g1 r := fun n hn => (hr n hn).elim (fun q => Or.inl (h.2.2 n q)) Or.inr
theorem okv.mn {g g1 : Hp} (h : Mn g g1) {v : SV} (hv : okv g v) : okv g1 v := by
  rcases v with x | x | r
  · trivial
  · trivial
  · exact okr.mn h hv
/-! the steps, as plain functions -/
def getI (r : Option Nm) (c k : Nat) (g : Hp) : Option Int32 := match r with
  | some n => if n.1 = c then some (gI g n k) else none
  | none => none
def getR (r : Option Nm) (c k : Nat) (g : Hp) : Option (Option Nm) := match r with
  | some n => if n.1 = c then some (gR g n k) else none
  | none => none
def putI (r : Option Nm) (c k : Nat) (v : Int32) (g : Hp) : Option Hp := match r with
  | some n => if n.1 = c then some (setI g n k v) else none
  | none => none
def putZ (r : Option Nm) (c k : Nat) (v : Int32) (g : Hp) : Option Hp := match r with
  | some n => if n.1 = c ∧ (v = 0 ∨ v = 1) then some (setI g n k v) else none
  | none => none
def putR (r : Option Nm) (c k : Nat) (v : Option Nm) (g : Hp) : Option Hp := match r with
  | some n => if n.1 = c then some (setR g n k v) else none
  | none => none
noncomputable def aldI (r : Option Nm) (i : Int32) (g : Hp) : Option Int32 := by
  classical exact match r with
  | some n => if (20 ≤ n.1 ∧ n.1 < 60) ∧ vp_in i (gN g n) then some (gI g n i.toNatClampNeg) else none
  | none => none
noncomputable def aldZ (r : Option Nm) (i : Int32) (g : Hp) : Option Int32 := by
  classical exact match r with
  | some n => if 60 ≤ n.1 ∧ vp_in i (gN g n) then some (gI g n i.toNatClampNeg) else none
  | none => none
noncomputable def aldR (r : Option Nm) (i : Int32) (g : Hp) : Option (Option Nm) := by
  classical exact match r with
  | some n => if (12 ≤ n.1 ∧ n.1 < 17) ∧ vp_in i (gN g n) then some (gR g n i.toNatClampNeg) else none
  | none => none
noncomputable def astI (r : Option Nm) (i v : Int32) (g : Hp) : Option Hp := by
  classical exact match r with
  | some n => if (20 ≤ n.1 ∧ n.1 < 60) ∧ vp_in i (gN g n) then some (setI g n i.toNatClampNeg v) else none
  | none => none
noncomputable def astZ (r : Option Nm) (i v : Int32) (g : Hp) : Option Hp := by
  classical exact match r with
  | some n => if 60 ≤ n.1 ∧ vp_in i (gN g n) then some (setI g n i.toNatClampNeg (vp_nar .boolean v)) else none
  | none => none
noncomputable def astR (r : Option Nm) (i : Int32) (v : Option Nm) (g : Hp) : Option Hp := by
  classical exact match r, v with
  | some n, some w => if (12 ≤ n.1 ∧ n.1 < 17) ∧ vp_in i (gN g n) ∧ w.1 < 11 then some (setR g n i.toNatClampNeg (some w)) else none
  | _, _ => none
def alen (r : Option Nm) (g : Hp) : Option Int32 := match r with
  | some n => if n = (17, 0) then some 0 else if (12 ≤ n.1 ∧ n.1 < 17) ∨ 20 ≤ n.1 then some (Int32.ofNat (gN g n)) else none
  | none => none
noncomputable def mkO (n : Nm) (c : Nat) (g : Hp) : Option (Option Nm × Hp) := by
  classical exact if n.1 = c ∧ n ∉ gL g then some (some n, newN g n 0 (flds c).length) else none
noncomputable def mkI (n : Nm) (len : Int32) (g : Hp) : Option (Option Nm × Hp) := by
  classical exact if (20 ≤ n.1 ∧ n.1 < 60) ∧ n ∉ gL g ∧ ¬ len < 0 ∧ len.toNatClampNeg ≤ 100000 then some (some n, newN g n len.toNatClampNeg len.toNatClampNeg) else none
noncomputable def mkZ (n : Nm) (len : Int32) (g : Hp) : Option (Option Nm × Hp) := by
  classical exact if 60 ≤ n.1 ∧ n ∉ gL g ∧ ¬ len < 0 ∧ len.toNatClampNeg ≤ 100000 then some (some n, newN g n len.toNatClampNeg len.toNatClampNeg) else none
noncomputable def mkR (n : Nm) (len : Int32) (g : Hp) : Option (Option Nm × Hp) := by
  classical exact if (12 ≤ n.1 ∧ n.1 < 17) ∧ n ∉ gL g ∧ ¬ len < 0 ∧ len.toNatClampNeg ≤ 100000 then some (some n, newN g n len.toNatClampNeg len.toNatClampNeg) else none
noncomputable def cpyI (a : Option Nm) (sp : Int32) (b : Option Nm) (dp n : Int32) (g : Hp) : Option Hp := by
  classical exact match a, b with
  | some u, some v => if ((20 ≤ u.1 ∧ u.1 < 60) ∧ (20 ≤ v.1 ∧ v.1 < 60)) ∧ (¬ sp < 0 ∧ ¬ dp < 0 ∧ ¬ n < 0) ∧ sp.toNatClampNeg + n.toNatClampNeg ≤ gN g u ∧ dp.toNatClampNeg + n.toNatClampNeg ≤ gN g v then some (cpI g u sp.toNatClampNeg v dp.toNatClampNeg n.toNatClampNeg) else none
  | _, _ => none
noncomputable def cpyR (a : Option Nm) (sp : Int32) (b : Option Nm) (dp n : Int32) (g : Hp) : Option Hp := by
  classical exact match a, b with
  | some u, some v => if ((12 ≤ u.1 ∧ u.1 < 17) ∧ (12 ≤ v.1 ∧ v.1 < 17)) ∧ (¬ sp < 0 ∧ ¬ dp < 0 ∧ ¬ n < 0) ∧ sp.toNatClampNeg + n.toNatClampNeg ≤ gN g u ∧ dp.toNatClampNeg + n.toNatClampNeg ≤ gN g v ∧ (∀ i, i < n.toNatClampNeg → ∀ w, gR g u (sp.toNatClampNeg + i) = some w → w.1 < 11) then some (cpR g u sp.toNatClampNeg v dp.toNatClampNeg n.toNatClampNeg) else none
  | _, _ => none
def ick {α : Type} (r : Option Nm) (c : Nat) (pr : Option α) : Option α := match r with
  | some n => if n.1 = c then pr else none
  | none => none
def cst {α : Type} (r : Option Nm) (c : Nat) (pr : Option α) : Option α := match r with
  | some n => if n.1 = c then pr else none
  | none => pr
def csA {α : Type} (r : Option Nm) (pr : Option α) : Option α := match r with
  | some n => if 12 ≤ n.1 ∧ n.1 < 17 then pr else none
  | none => none
noncomputable def acm {α : Type} (r q : Option Nm) (g : Hp) (a b : Option α) : Option α := by
  classical exact if r = q then a else if (∀ n, r = some n → n ∈ gL g ∨ n = (17, 0)) ∧ (∀ n, q = some n → n ∈ gL g ∨ n = (17, 0)) then b else none
def rtZ (x : Int32) (g : Hp) : Option (Int32 × Hp) := if x = 0 ∨ x = 1 then some (x, g) else none
