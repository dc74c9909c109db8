/-! the same rows where the step stands ahead of a bind; joins; loops -/
def dvI (x z : Int32) : Option Int32 := if z = 0 then none else some (x / z)
def rmI (x z : Int32) : Option Int32 := if z = 0 then none else some (x - x / z * z)
def dvL (x z : Int64) : Option Int64 := if z = 0 then none else some (x / z)
def ckc (r : Option Nm) (c : Nat) : Option Unit := match r with
  | some n => if n.1 = c then some () else none
  | none => some ()
def csu (r : Option Nm) : Option Unit := match r with
  | some n => if 12 ≤ n.1 ∧ n.1 < 17 then some () else none
  | none => none
def nnu (r : Option Nm) : Option Unit := match r with
  | some _ => some ()
  | none => none
noncomputable def acq (r q : Option Nm) (g : Hp) : Option Bool := by
  classical exact if r = q then some true else if (∀ n, r = some n → n ∈ gL g ∨ n = (17, 0)) ∧ (∀ n, q = some n → n ∈ gL g ∨ n = (17, 0)) then some false else none
def nix (r : Option Nm) : Nat := match r with
  | some n => n.2
  | none => 0
def nca (r : Option Nm) : Nat := match r with
  | some n => n.1
  | none => 0
def lsz (g : Hp) (j : Nat) : Nat := (gI g (0, j) 2).toNatClampNeg
theorem bi {α β : Type} {c : Prop} [Decidable c] {A B : Option α} {K : α → Option β} : Option.bind (if c then A else B) K = if c then Option.bind A K else Option.bind B K := by split <;> rfl
theorem bb {α β γ : Type} {A : Option α} {F : α → Option β} {K : β → Option γ} : Option.bind (Option.bind A F) K = Option.bind A (fun x => Option.bind (F x) K) := Option.bind_assoc ..
section BRU
variable {ρ : Type} {y : MethodName} {cc : ByteArray} {nL : Nat} {rt : Option FieldType} {rf rl : Nat} {X : Xt ρ} {g : Hp} {pc : Nat} {lv lv' : List (Nat × SV)} {st : List SV} {pr pr2 : Option (ρ × Hp)}
theorem b_idiv {x z : Int32} {F : Int32 → Option (ρ × Hp)} (hd : decode cc pc = .ok (.idiv, 1)) (hp : pr = (dvI x z).bind F) (kk : ∀ v, J y cc nL rt rf rl X g (pc + 1) lv (sI v :: st) (F v)) : J y cc nL rt rf rl X g pc lv (sI z :: sI x :: st) pr :=
  j_idiv (F := F) hd (by rw [hp]; unfold dvI; split <;> rfl) (kk _)
theorem b_irem {x z : Int32} {F : Int32 → Option (ρ × Hp)} (hd : decode cc pc = .ok (.irem, 1)) (hp : pr = (rmI x z).bind F) (kk : ∀ v, J y cc nL rt rf rl X g (pc + 1) lv (sI v :: st) (F v)) : J y cc nL rt rf rl X g pc lv (sI z :: sI x :: st) pr :=
  j_irem (F := F) hd (by rw [hp]; unfold rmI; split <;> rfl) (kk _)
theorem b_ldiv {x z : Int64} {F : Int64 → Option (ρ × Hp)} (hd : decode cc pc = .ok (.ldiv, 1)) (hp : pr = (dvL x z).bind F) (kk : ∀ v, J y cc nL rt rf rl X g (pc + 1) lv (sL v :: st) (F v)) : J y cc nL rt rf rl X g pc lv (sL z :: sL x :: st) pr :=
  j_ldiv (F := F) hd (by rw [hp]; unfold dvL; split <;> rfl) (kk _)
theorem b_cst {own : String} {ix c : Nat} {r : Option Nm} {F : Unit → Option (ρ × Hp)} (hd : decode cc pc = .ok (.checkcast ix, 3)) (ho : own = y.cls) (hc : c < 11) (hw0 : Cond.classLink own ix (oC c) ∈ lw_tbl) (hp : pr = (ckc r c).bind F) (kk : J y cc nL rt rf rl X g (pc + 3) lv (sR r :: st) (F ())) : J y cc nL rt rf rl X g pc lv (sR r :: st) pr :=
  j_cst (P := F ()) hd ho hc hw0 (by rw [hp]; cases r <;> simp only [ckc, cst] <;> first | rfl | (split <;> rfl)) kk
theorem b_csA {own : String} {ix : Nat} {r : Option Nm} {F : Unit → Option (ρ × Hp)} (hd : decode cc pc = .ok (.checkcast ix, 3)) (ho : own = y.cls) (hw0 : Cond.classLink own ix "[Ljava/lang/Object;" ∈ lw_tbl) (hp : pr = (csu r).bind F) (kk : J y cc nL rt rf rl X g (pc + 3) lv (sR r :: st) (F ())) : J y cc nL rt rf rl X g pc lv (sR r :: st) pr :=
  j_csA (P := F ()) hd ho hw0 (by rw [hp]; cases r <;> simp only [csu, csA] <;> first | rfl | (split <;> rfl)) kk
theorem b_oinit {own : String} {ix : Nat} {r : Option Nm} {F : Unit → Option (ρ × Hp)} (hd : decode cc pc = .ok (.invokespecial ix, 3)) (hF : FLI own ix) (ho : own = y.cls) (hr : 1 ≤ rf ∧ (st.map sc).sum + 12 ≤ rl) (hp : pr = (nnu r).bind F) (kk : J y cc nL rt rf rl X g (pc + 3) lv st (F ())) : J y cc nL rt rf rl X g pc lv (sR r :: st) pr :=
  j_oinit (P := F ()) hd hF ho hr (by rw [hp]; cases r <;> rfl) kk
theorem b_acmp_ne {r q : Option Nm} {off : Int} {tgt : Nat} {a b : Option (ρ × Hp)} (hd : decode cc pc = .ok (.if_acmp .ne off, 3)) (ht : (pc : Int) + off = (tgt : Int)) (hp : pr = (acq r q g).bind (fun z => if z = true then b else a)) (kt : J y cc nL rt rf rl X g tgt lv st a) (kf : J y cc nL rt rf rl X g (pc + 3) lv st b) : J y cc nL rt rf rl X g pc lv (sR q :: sR r :: st) pr :=
  j_acmp_ne hd ht (by rw [hp]; simp only [acq, acm]; split <;> (try split) <;> rfl) kt kf
theorem b_acmp_eq {r q : Option Nm} {off : Int} {tgt : Nat} {a b : Option (ρ × Hp)} (hd : decode cc pc = .ok (.if_acmp .eq off, 3)) (ht : (pc : Int) + off = (tgt : Int)) (hp : pr = (acq r q g).bind (fun z => if z = true then a else b)) (kt : J y cc nL rt rf rl X g tgt lv st a) (kf : J y cc nL rt rf rl X g (pc + 3) lv st b) : J y cc nL rt rf rl X g pc lv (sR q :: sR r :: st) pr := by
  subst hp
  by_cases h1 : r = q
  · have e : (acq r q g).bind (fun z => if z = true then a else b) = a := by simp only [acq, if_pos h1]; rfl
    refine J.eq e (J.s (fun _ _ _ _ _ _ _ _ _ _ _ _ _ _ _ ad ls hx hb hw htb hl K0 => ?_) (fun _ h => h.tail.tail) kt)
    exact lv_acmp_eq hx hb hd ht (fun _ => K0) (fun z => absurd (by rw [h1]) z)
  · by_cases h2 : (∀ n, r = some n → n ∈ gL g ∨ n = (17, 0)) ∧ (∀ n, q = some n → n ∈ gL g ∨ n = (17, 0))
    · have e : (acq r q g).bind (fun z => if z = true then a else b) = b := by simp only [acq, if_neg h1, if_pos h2]; rfl
      refine J.eq e (J.r (fun p l e s m args below meth c0 R H locs cells slots Q D cs A ad ls hx hb hz hml hw htb hK hE hR hC hP hD hS hol hos K0 => ?_) (fun _ h => h.tail.tail) kf)
      exact lv_acmp_eq hx hb hd ht (fun z => absurd z (acm_ne hD hE h1 h2.1 h2.2)) (fun _ => K0)
    · have e : (acq r q g).bind (fun z => if z = true then a else b) = none := by simp only [acq, if_neg h1, if_neg h2]; rfl
      exact J.eq e J.none
theorem J.jn {σ : Type} {A : Option σ} {F : σ → Option (ρ × Hp)} (P : σ → Option (ρ × Hp) → Prop) (h : ∀ F' : σ → Option (ρ × Hp), (∀ q, P q (F' q)) → J y cc nL rt rf rl X g pc lv st (A.bind F')) (k : ∀ q, P q (F q)) : J y cc nL rt rf rl X g pc lv st (A.bind F) := h F k
theorem J.pcE {pc2 : Nat} (h : pc2 = pc) (k : J y cc nL rt rf rl X g pc2 lv st pr) : J y cc nL rt rf rl X g pc lv st pr := h ▸ k
end BRU
