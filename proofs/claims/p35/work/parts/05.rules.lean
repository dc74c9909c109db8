/-! one row a kind of instruction -/
theorem oks.ci {g : Hp} {st : List SV} {x : Int32} (h : oks g st) : oks g (sI x :: st) := h.cons (v := sI x) trivial
theorem oks.cl {g : Hp} {st : List SV} {x : Int64} (h : oks g st) : oks g (sL x :: st) := h.cons (v := sL x) trivial
section RUL
variable {ρ : Type} {y : MethodName} {cc : ByteArray} {nL : Nat} {rt : Option FieldType} {rf rl : Nat} {X : Xt ρ} {g : Hp} {pc : Nat} {lv lv' : List (Nat × SV)} {st : List SV} {pr pr2 : Option (ρ × Hp)}
theorem j_iconst {n : Int} {v : Int32} (hd : decode cc pc = .ok (.iconst n, 1)) (hv : Int32.ofInt n = v) (k : J y cc nL rt rf rl X g (pc + 1) lv (sI v :: st) pr) : J y cc nL rt rf rl X g pc lv (st) pr :=
  J.s (fun _ _ _ _ _ _ _ _ _ _ _ _ _ _ _ ad ls hx hb hw htb hl K0 => lv_iconst hx hb hd hv K0) (fun _ h => h.ci) k
theorem j_bipush {n : Int} {v : Int32} (hd : decode cc pc = .ok (.bipush n, 2)) (hv : (Int8.ofInt n).toInt32 = v) (k : J y cc nL rt rf rl X g (pc + 2) lv (sI v :: st) pr) : J y cc nL rt rf rl X g pc lv (st) pr :=
  J.s (fun _ _ _ _ _ _ _ _ _ _ _ _ _ _ _ ad ls hx hb hw htb hl K0 => lv_bipush hx hb hd hv K0) (fun _ h => h.ci) k
theorem j_sipush {n : Int} {v : Int32} (hd : decode cc pc = .ok (.sipush n, 3)) (hv : (Int16.ofInt n).toInt32 = v) (k : J y cc nL rt rf rl X g (pc + 3) lv (sI v :: st) pr) : J y cc nL rt rf rl X g pc lv (st) pr :=
  J.s (fun _ _ _ _ _ _ _ _ _ _ _ _ _ _ _ ad ls hx hb hw htb hl K0 => lv_sipush hx hb hd hv K0) (fun _ h => h.ci) k
theorem j_lconst {n : Fin 2} {v : Int64} (hd : decode cc pc = .ok (.lconst n, 1)) (hv : Int64.ofNat (n : Nat) = v) (k : J y cc nL rt rf rl X g (pc + 1) lv (sL v :: st) pr) : J y cc nL rt rf rl X g pc lv (st) pr :=
  J.s (fun _ _ _ _ _ _ _ _ _ _ _ _ _ _ _ ad ls hx hb hw htb hl K0 => lv_lconst hx hb hd hv K0) (fun _ h => h.cl) k
theorem j_ldc {own : String} {ix : Nat} {v : Int32} (hd : decode cc pc = .ok (.ldc ix, 2)) (ho : own = y.cls) (hw0 : Cond.constant own ix v ∈ lw_tbl) (k : J y cc nL rt rf rl X g (pc + 2) lv (sI v :: st) pr) : J y cc nL rt rf rl X g pc lv (st) pr :=
  J.s (fun _ _ _ _ _ _ _ _ _ _ _ _ _ _ _ ad ls hx hb hw htb hl K0 => lv_ldc (own := own) hx hb (by rw [ho]; exact hw) (htb _ hw0 rfl _) hd K0) (fun _ h => h.ci) k
theorem j_ldcw {own : String} {ix : Nat} {v : Int32} (hd : decode cc pc = .ok (.ldc_w ix, 3)) (ho : own = y.cls) (hw0 : Cond.constant own ix v ∈ lw_tbl) (k : J y cc nL rt rf rl X g (pc + 3) lv (sI v :: st) pr) : J y cc nL rt rf rl X g pc lv (st) pr :=
  J.s (fun _ _ _ _ _ _ _ _ _ _ _ _ _ _ _ ad ls hx hb hw htb hl K0 => lv_ldcw (own := own) hx hb (by rw [ho]; exact hw) (htb _ hw0 rfl _) hd K0) (fun _ h => h.ci) k
theorem j_ldc2 {own : String} {ix : Nat} {v : Int64} (hd : decode cc pc = .ok (.ldc2_w ix, 3)) (ho : own = y.cls) (hw0 : Cond.constantLong own ix v ∈ lw_tbl) (k : J y cc nL rt rf rl X g (pc + 3) lv (sL v :: st) pr) : J y cc nL rt rf rl X g pc lv (st) pr :=
  J.s (fun _ _ _ _ _ _ _ _ _ _ _ _ _ _ _ ad ls hx hb hw htb hl K0 => lv_ldc2 (own := own) hx hb (by rw [ho]; exact hw) (htb _ hw0 rfl _) hd K0) (fun _ h => h.cl) k
theorem lvm_at {ad : Nm → Nat} {ls : Array Slot} {nL : Nat} {lv : List (Nat × SV)} (h : lv_has ls nL (lvm ad lv)) {k i : Nat} {v : SV} (hk : lv[k]? = some (i, v)) : ls[i]? = some (.val (cv ad v)) := lv_at h k (by simp [lvm, hk])
theorem okl_at {g : Hp} {lv : List (Nat × SV)} (h : okl g lv) {k i : Nat} {v : SV} (hk : lv[k]? = some (i, v)) : okv g v := h _ (List.mem_of_getElem? hk)
theorem j_iload_n (q : Nat) {kk : Fin 4} {i : Nat} {x : Int32} (hd : decode cc pc = .ok (.iload_n kk, 1)) (hi : (kk : Nat) = i) (hq : lv[q]? = some (i, sI x)) (k : J y cc nL rt rf rl X g (pc + 1) lv (sI x :: st) pr) : J y cc nL rt rf rl X g pc lv (st) pr :=
  J.s (fun _ _ _ _ _ _ _ _ _ _ _ _ _ _ _ ad ls hx hb hw htb hl K0 => lv_iload_n hx hb hd hi (lvm_at hl hq) K0) (fun _ h => h.ci) k
theorem j_iload (q : Nat) {i : Nat} {x : Int32} (hd : decode cc pc = .ok (.iload i, 2)) (hq : lv[q]? = some (i, sI x)) (k : J y cc nL rt rf rl X g (pc + 2) lv (sI x :: st) pr) : J y cc nL rt rf rl X g pc lv (st) pr :=
  J.s (fun _ _ _ _ _ _ _ _ _ _ _ _ _ _ _ ad ls hx hb hw htb hl K0 => lv_iload hx hb hd (lvm_at hl hq) K0) (fun _ h => h.ci) k
theorem j_lload_n (q : Nat) {kk : Fin 4} {i : Nat} {x : Int64} (hd : decode cc pc = .ok (.lload_n kk, 1)) (hi : (kk : Nat) = i) (hq : lv[q]? = some (i, sL x)) (k : J y cc nL rt rf rl X g (pc + 1) lv (sL x :: st) pr) : J y cc nL rt rf rl X g pc lv (st) pr :=
  J.s (fun _ _ _ _ _ _ _ _ _ _ _ _ _ _ _ ad ls hx hb hw htb hl K0 => lv_lload_n hx hb hd hi (lvm_at hl hq) K0) (fun _ h => h.cl) k
theorem j_lload (q : Nat) {i : Nat} {x : Int64} (hd : decode cc pc = .ok (.lload i, 2)) (hq : lv[q]? = some (i, sL x)) (k : J y cc nL rt rf rl X g (pc + 2) lv (sL x :: st) pr) : J y cc nL rt rf rl X g pc lv (st) pr :=
  J.s (fun _ _ _ _ _ _ _ _ _ _ _ _ _ _ _ ad ls hx hb hw htb hl K0 => lv_lload hx hb hd (lvm_at hl hq) K0) (fun _ h => h.cl) k
theorem j_aload_n (q : Nat) {kk : Fin 4} {i : Nat} {x : Option Nm} (hd : decode cc pc = .ok (.aload_n kk, 1)) (hi : (kk : Nat) = i) (hq : lv[q]? = some (i, sR x)) (k : J y cc nL rt rf rl X g (pc + 1) lv (sR x :: st) pr) : J y cc nL rt rf rl X g pc lv st pr := by
  refine J.s (fun _ _ _ _ _ _ _ _ _ _ _ _ _ _ _ ad ls hx hb hw htb hl K0 => ?_) (fun h2 h => h.cons (okl_at h2 hq)) k
  have h9 := lvm_at hl hq
  cases x with
  | none => exact lv_aload_nN hx hb hd hi h9 K0
  | some a => exact lv_aload_n hx hb hd hi h9 K0
theorem j_aload (q : Nat) {i : Nat} {x : Option Nm} (hd : decode cc pc = .ok (.aload i, 2)) (hq : lv[q]? = some (i, sR x)) (k : J y cc nL rt rf rl X g (pc + 2) lv (sR x :: st) pr) : J y cc nL rt rf rl X g pc lv st pr := by
  refine J.s (fun _ _ _ _ _ _ _ _ _ _ _ _ _ _ _ ad ls hx hb hw htb hl K0 => ?_) (fun h2 h => h.cons (okl_at h2 hq)) k
  have h9 := lvm_at hl hq
  cases x with
  | none => exact lv_aloadN hx hb hd h9 K0
  | some a => exact lv_aload hx hb hd h9 K0
theorem j_iadd {x z : Int32} (hd : decode cc pc = .ok (.iadd, 1)) (k : J y cc nL rt rf rl X g (pc + 1) lv (sI (x + z) :: st) pr) : J y cc nL rt rf rl X g pc lv (sI z :: sI x :: st) pr :=
  J.s (fun _ _ _ _ _ _ _ _ _ _ _ _ _ _ _ ad ls hx hb hw htb hl K0 => lv_iadd hx hb hd K0) (fun _ h => (h.tail.tail).ci) k
theorem j_isub {x z : Int32} (hd : decode cc pc = .ok (.isub, 1)) (k : J y cc nL rt rf rl X g (pc + 1) lv (sI (x - z) :: st) pr) : J y cc nL rt rf rl X g pc lv (sI z :: sI x :: st) pr :=
  J.s (fun _ _ _ _ _ _ _ _ _ _ _ _ _ _ _ ad ls hx hb hw htb hl K0 => lv_isub hx hb hd K0) (fun _ h => (h.tail.tail).ci) k
theorem j_imul {x z : Int32} (hd : decode cc pc = .ok (.imul, 1)) (k : J y cc nL rt rf rl X g (pc + 1) lv (sI (x * z) :: st) pr) : J y cc nL rt rf rl X g pc lv (sI z :: sI x :: st) pr :=
  J.s (fun _ _ _ _ _ _ _ _ _ _ _ _ _ _ _ ad ls hx hb hw htb hl K0 => lv_imul hx hb hd K0) (fun _ h => (h.tail.tail).ci) k
theorem j_iand {x z : Int32} (hd : decode cc pc = .ok (.iand, 1)) (k : J y cc nL rt rf rl X g (pc + 1) lv (sI (x &&& z) :: st) pr) : J y cc nL rt rf rl X g pc lv (sI z :: sI x :: st) pr :=
  J.s (fun _ _ _ _ _ _ _ _ _ _ _ _ _ _ _ ad ls hx hb hw htb hl K0 => lv_iand hx hb hd K0) (fun _ h => (h.tail.tail).ci) k
theorem j_ior {x z : Int32} (hd : decode cc pc = .ok (.ior, 1)) (k : J y cc nL rt rf rl X g (pc + 1) lv (sI (x ||| z) :: st) pr) : J y cc nL rt rf rl X g pc lv (sI z :: sI x :: st) pr :=
  J.s (fun _ _ _ _ _ _ _ _ _ _ _ _ _ _ _ ad ls hx hb hw htb hl K0 => lv_ior hx hb hd K0) (fun _ h => (h.tail.tail).ci) k
theorem j_ixor {x z : Int32} (hd : decode cc pc = .ok (.ixor, 1)) (k : J y cc nL rt rf rl X g (pc + 1) lv (sI (x ^^^ z) :: st) pr) : J y cc nL rt rf rl X g pc lv (sI z :: sI x :: st) pr :=
  J.s (fun _ _ _ _ _ _ _ _ _ _ _ _ _ _ _ ad ls hx hb hw htb hl K0 => lv_ixor hx hb hd K0) (fun _ h => (h.tail.tail).ci) k
theorem j_ishl {x z : Int32} (hd : decode cc pc = .ok (.ishl, 1)) (k : J y cc nL rt rf rl X g (pc + 1) lv (sI (x <<< (z &&& 31)) :: st) pr) : J y cc nL rt rf rl X g pc lv (sI z :: sI x :: st) pr :=
  J.s (fun _ _ _ _ _ _ _ _ _ _ _ _ _ _ _ ad ls hx hb hw htb hl K0 => lv_ishl hx hb hd K0) (fun _ h => (h.tail.tail).ci) k
theorem j_ishr {x z : Int32} (hd : decode cc pc = .ok (.ishr, 1)) (k : J y cc nL rt rf rl X g (pc + 1) lv (sI (x >>> (z &&& 31)) :: st) pr) : J y cc nL rt rf rl X g pc lv (sI z :: sI x :: st) pr :=
  J.s (fun _ _ _ _ _ _ _ _ _ _ _ _ _ _ _ ad ls hx hb hw htb hl K0 => lv_ishr hx hb hd K0) (fun _ h => (h.tail.tail).ci) k
theorem j_iushr {x z : Int32} (hd : decode cc pc = .ok (.iushr, 1)) (k : J y cc nL rt rf rl X g (pc + 1) lv (sI ((x.toUInt32 >>> (z.toUInt32 &&& Int32.toUInt32 31)).toInt32) :: st) pr) : J y cc nL rt rf rl X g pc lv (sI z :: sI x :: st) pr :=
  J.s (fun _ _ _ _ _ _ _ _ _ _ _ _ _ _ _ ad ls hx hb hw htb hl K0 => lv_iushr hx hb hd rfl K0) (fun _ h => (h.tail.tail).ci) k
theorem j_ineg {x : Int32} (hd : decode cc pc = .ok (.ineg, 1)) (k : J y cc nL rt rf rl X g (pc + 1) lv (sI (0 - x) :: st) pr) : J y cc nL rt rf rl X g pc lv (sI x :: st) pr :=
  J.s (fun _ _ _ _ _ _ _ _ _ _ _ _ _ _ _ ad ls hx hb hw htb hl K0 => lv_ineg hx hb hd K0) (fun _ h => (h.tail).ci) k
theorem j_ladd {x z : Int64} (hd : decode cc pc = .ok (.ladd, 1)) (k : J y cc nL rt rf rl X g (pc + 1) lv (sL (x + z) :: st) pr) : J y cc nL rt rf rl X g pc lv (sL z :: sL x :: st) pr :=
  J.s (fun _ _ _ _ _ _ _ _ _ _ _ _ _ _ _ ad ls hx hb hw htb hl K0 => lv_ladd hx hb hd K0) (fun _ h => (h.tail.tail).cl) k
theorem j_lsub {x z : Int64} (hd : decode cc pc = .ok (.lsub, 1)) (k : J y cc nL rt rf rl X g (pc + 1) lv (sL (x - z) :: st) pr) : J y cc nL rt rf rl X g pc lv (sL z :: sL x :: st) pr :=
  J.s (fun _ _ _ _ _ _ _ _ _ _ _ _ _ _ _ ad ls hx hb hw htb hl K0 => lv_lsub hx hb hd K0) (fun _ h => (h.tail.tail).cl) k
theorem j_lmul {x z : Int64} (hd : decode cc pc = .ok (.lmul, 1)) (k : J y cc nL rt rf rl X g (pc + 1) lv (sL (x * z) :: st) pr) : J y cc nL rt rf rl X g pc lv (sL z :: sL x :: st) pr :=
  J.s (fun _ _ _ _ _ _ _ _ _ _ _ _ _ _ _ ad ls hx hb hw htb hl K0 => lv_lmul hx hb hd K0) (fun _ h => (h.tail.tail).cl) k
theorem j_i2l {x : Int32} (hd : decode cc pc = .ok (.i2l, 1)) (k : J y cc nL rt rf rl X g (pc + 1) lv (sL x.toInt64 :: st) pr) : J y cc nL rt rf rl X g pc lv (sI x :: st) pr :=
  J.s (fun _ _ _ _ _ _ _ _ _ _ _ _ _ _ _ ad ls hx hb hw htb hl K0 => lv_i2l hx hb hd rfl K0) (fun _ h => (h.tail).cl) k
theorem j_l2i {x : Int64} (hd : decode cc pc = .ok (.l2i, 1)) (k : J y cc nL rt rf rl X g (pc + 1) lv (sI x.toInt32 :: st) pr) : J y cc nL rt rf rl X g pc lv (sL x :: st) pr :=
  J.s (fun _ _ _ _ _ _ _ _ _ _ _ _ _ _ _ ad ls hx hb hw htb hl K0 => lv_l2i hx hb hd rfl K0) (fun _ h => (h.tail).ci) k
theorem j_lcmp {x z : Int64} (hd : decode cc pc = .ok (.lcmp, 1)) (k : J y cc nL rt rf rl X g (pc + 1) lv (sI (lg_cmp x z) :: st) pr) : J y cc nL rt rf rl X g pc lv (sL z :: sL x :: st) pr :=
  J.s (fun _ _ _ _ _ _ _ _ _ _ _ _ _ _ _ ad ls hx hb hw htb hl K0 => W.lcmp hx hb hd K0) (fun _ h => (h.tail.tail).ci) k
theorem j_null (hd : decode cc pc = .ok (.aconst_null, 1)) (k : J y cc nL rt rf rl X g (pc + 1) lv (sR none :: st) pr) : J y cc nL rt rf rl X g pc lv (st) pr :=
  J.s (fun _ _ _ _ _ _ _ _ _ _ _ _ _ _ _ ad ls hx hb hw htb hl K0 => lv_null hx hb hd K0) (fun _ h => h.cons (v := sR none) (fun n hn => by cases hn)) k
theorem j_dup {v : SV} (hd : decode cc pc = .ok (.dup, 1)) (hv : sc v = 1) (k : J y cc nL rt rf rl X g (pc + 1) lv (v :: v :: st) pr) : J y cc nL rt rf rl X g pc lv (v :: st) pr :=
  J.s (fun _ _ _ _ _ _ _ _ _ _ _ _ _ _ _ ad ls hx hb hw htb hl K0 => lv_dup hx hb hd (by rw [cv_cat]; exact hv) K0) (fun _ h => h.cons h.head) k
theorem j_pop {v : SV} (hd : decode cc pc = .ok (.pop, 1)) (hv : sc v = 1) (k : J y cc nL rt rf rl X g (pc + 1) lv (st) pr) : J y cc nL rt rf rl X g pc lv (v :: st) pr :=
  J.s (fun _ _ _ _ _ _ _ _ _ _ _ _ _ _ _ ad ls hx hb hw htb hl K0 => lv_pop hx hb hd (by rw [cv_cat]; exact hv) K0) (fun _ h => h.tail) k
theorem j_dup2 {v u : SV} (hd : decode cc pc = .ok (.dup2, 1)) (hv : sc v = 1) (hu : sc u = 1) (k : J y cc nL rt rf rl X g (pc + 1) lv (v :: u :: v :: u :: st) pr) : J y cc nL rt rf rl X g pc lv (v :: u :: st) pr :=
  J.s (fun _ _ _ _ _ _ _ _ _ _ _ _ _ _ _ ad ls hx hb hw htb hl K0 => lv_dup2_11 hx hb hd (by rw [cv_cat]; exact hv) (by rw [cv_cat]; exact hu) K0) (fun _ h => (h.cons h.tail.head).cons h.head) k
theorem j_dup_x1 {v u : SV} (hd : decode cc pc = .ok (.dup_x1, 1)) (hv : sc v = 1) (hu : sc u = 1) (k : J y cc nL rt rf rl X g (pc + 1) lv (v :: u :: v :: st) pr) : J y cc nL rt rf rl X g pc lv (v :: u :: st) pr :=
  J.s (fun _ _ _ _ _ _ _ _ _ _ _ _ _ _ _ ad ls hx hb hw htb hl K0 => lv_dup_x1 hx hb hd (by rw [cv_cat]; exact hv) (by rw [cv_cat]; exact hu) K0) (fun _ h => ((h.tail.tail.cons h.head).cons h.tail.head).cons h.head) k
theorem j_idiv {x z : Int32} {F : Int32 → Option (ρ × Hp)} (hd : decode cc pc = .ok (.idiv, 1)) (hp : pr = (if z = 0 then none else F (x / z))) (k : J y cc nL rt rf rl X g (pc + 1) lv (sI (x / z) :: st) (F (x / z))) : J y cc nL rt rf rl X g pc lv (sI z :: sI x :: st) pr := by
  by_cases hz : z = 0
  · rw [hp, if_pos hz]; exact J.none
  · rw [hp, if_neg hz]; exact J.s (fun _ _ _ _ _ _ _ _ _ _ _ _ _ _ _ ad ls hx hb hw htb hl K0 => lv_idiv hx hb hd hz K0) (fun _ h => (h.tail.tail).ci) k
theorem j_irem {x z : Int32} {F : Int32 → Option (ρ × Hp)} (hd : decode cc pc = .ok (.irem, 1)) (hp : pr = (if z = 0 then none else F (x - x / z * z))) (k : J y cc nL rt rf rl X g (pc + 1) lv (sI (x - x / z * z) :: st) (F (x - x / z * z))) : J y cc nL rt rf rl X g pc lv (sI z :: sI x :: st) pr := by
  by_cases hz : z = 0
  · rw [hp, if_pos hz]; exact J.none
  · rw [hp, if_neg hz]; exact J.s (fun _ _ _ _ _ _ _ _ _ _ _ _ _ _ _ ad ls hx hb hw htb hl K0 => lv_irem hx hb hd hz K0) (fun _ h => (h.tail.tail).ci) k
theorem j_ldiv {x z : Int64} {F : Int64 → Option (ρ × Hp)} (hd : decode cc pc = .ok (.ldiv, 1)) (hp : pr = (if z = 0 then none else F (x / z))) (k : J y cc nL rt rf rl X g (pc + 1) lv (sL (x / z) :: st) (F (x / z))) : J y cc nL rt rf rl X g pc lv (sL z :: sL x :: st) pr := by
  by_cases hz : z = 0
  · rw [hp, if_pos hz]; exact J.none
  · rw [hp, if_neg hz]; exact J.s (fun _ _ _ _ _ _ _ _ _ _ _ _ _ _ _ ad ls hx hb hw htb hl K0 => lv_ldiv hx hb hd hz K0) (fun _ h => (h.tail.tail).cl) k
def lvs (i c : Nat) (v : SV) (lv : List (Nat × SV)) : List (Nat × SV) := (i, v) :: lv.filter (fun q => !(q.1 == i) && ((c == 1 || !(q.1 == i + 1)) && !(q.1 + 1 == i && sc q.2 == 2)))
theorem lvs_1 (ad : Nm → Nat) (i : Nat) (v : SV) (lv : List (Nat × SV)) : (i, cv ad v) :: (lvm ad lv).filter (fun q => !(q.1 == i) && !(q.1 + 1 == i && q.2.category == 2)) = lvm ad (lvs i 1 v lv) := by
  simp only [lvs, lvm, List.map_cons, List.filter_map]
  congr 2
  apply List.filter_congr
  intro q _
  simp [Function.comp, cv_cat]
theorem lvs_2 (ad : Nm → Nat) (i : Nat) (v : SV) (lv : List (Nat × SV)) : (i, cv ad v) :: (lvm ad lv).filter (fun q => !(q.1 == i) && (!(q.1 == i + 1) && !(q.1 + 1 == i && q.2.category == 2))) = lvm ad (lvs i 2 v lv) := by
  simp only [lvs, lvm, List.map_cons, List.filter_map]
  congr 2
  apply List.filter_congr
  intro q _
  simp [Function.comp, cv_cat]
theorem okl_lvs {g : Hp} {i c : Nat} {v : SV} {lv : List (Nat × SV)} (h : okl g lv) (hv : okv g v) : okl g (lvs i c v lv) := fun q hq => (List.mem_cons.mp hq).elim (fun e => e ▸ hv) (fun h2 => h q ((List.mem_filter.mp h2).1))
theorem j_istore_n {kk0 : Fin 4} {i : Nat} {x : Int32} (hd : decode cc pc = .ok (.istore_n kk0, 1)) (hi : (kk0 : Nat) = i) (hn : i < nL) (hl : lvs i 1 (sI x) lv = lv') (k : J y cc nL rt rf rl X g (pc + 1) lv' st pr) : J y cc nL rt rf rl X g pc lv (sI x :: st) pr :=
  J.t (fun _ _ _ _ _ _ _ _ _ _ _ _ _ _ _ ad ls hx hb h9 kk => lv_istore_n hx hb hd hi h9 hn (by rw [← hl]; exact lvs_1 ad i (sI x) lv) kk) (fun h1 h2 => ⟨hl ▸ okl_lvs h1 h2.head, h2.tail⟩) k
theorem j_istore {i : Nat} {x : Int32} (hd : decode cc pc = .ok (.istore i, 2)) (hn : i < nL) (hl : lvs i 1 (sI x) lv = lv') (k : J y cc nL rt rf rl X g (pc + 2) lv' st pr) : J y cc nL rt rf rl X g pc lv (sI x :: st) pr :=
  J.t (fun _ _ _ _ _ _ _ _ _ _ _ _ _ _ _ ad ls hx hb h9 kk => lv_istore hx hb hd h9 hn (by rw [← hl]; exact lvs_1 ad i (sI x) lv) kk) (fun h1 h2 => ⟨hl ▸ okl_lvs h1 h2.head, h2.tail⟩) k
theorem j_lstore_n {kk0 : Fin 4} {i : Nat} {x : Int64} (hd : decode cc pc = .ok (.lstore_n kk0, 1)) (hi : (kk0 : Nat) = i) (hn : i + 1 < nL) (hl : lvs i 2 (sL x) lv = lv') (k : J y cc nL rt rf rl X g (pc + 1) lv' st pr) : J y cc nL rt rf rl X g pc lv (sL x :: st) pr :=
  J.t (fun _ _ _ _ _ _ _ _ _ _ _ _ _ _ _ ad ls hx hb h9 kk => lv_lstore_n hx hb hd hi h9 hn (by rw [← hl]; exact lvs_2 ad i (sL x) lv) kk) (fun h1 h2 => ⟨hl ▸ okl_lvs h1 h2.head, h2.tail⟩) k
theorem j_lstore {i : Nat} {x : Int64} (hd : decode cc pc = .ok (.lstore i, 2)) (hn : i + 1 < nL) (hl : lvs i 2 (sL x) lv = lv') (k : J y cc nL rt rf rl X g (pc + 2) lv' st pr) : J y cc nL rt rf rl X g pc lv (sL x :: st) pr :=
  J.t (fun _ _ _ _ _ _ _ _ _ _ _ _ _ _ _ ad ls hx hb h9 kk => lv_lstore hx hb hd h9 hn (by rw [← hl]; exact lvs_2 ad i (sL x) lv) kk) (fun h1 h2 => ⟨hl ▸ okl_lvs h1 h2.head, h2.tail⟩) k
theorem j_astore_n {kk0 : Fin 4} {i : Nat} {x : Option Nm} (hd : decode cc pc = .ok (.astore_n kk0, 1)) (hi : (kk0 : Nat) = i) (hn : i < nL) (hl : lvs i 1 (sR x) lv = lv') (k : J y cc nL rt rf rl X g (pc + 1) lv' st pr) : J y cc nL rt rf rl X g pc lv (sR x :: st) pr := by
  refine J.t (fun _ _ _ _ _ _ _ _ _ _ _ _ _ _ _ ad ls hx hb h9 kk => ?_) (fun h1 h2 => ⟨hl ▸ okl_lvs h1 h2.head, h2.tail⟩) k
  have e := lvs_1 ad i (sR x) lv
  rw [hl] at e
  cases x with
  | none => exact lv_astore_nN hx hb hd hi h9 hn e kk
  | some a => exact lv_astore_n hx hb hd hi h9 hn e kk
theorem j_astore {i : Nat} {x : Option Nm} (hd : decode cc pc = .ok (.astore i, 2)) (hn : i < nL) (hl : lvs i 1 (sR x) lv = lv') (k : J y cc nL rt rf rl X g (pc + 2) lv' st pr) : J y cc nL rt rf rl X g pc lv (sR x :: st) pr := by
  refine J.t (fun _ _ _ _ _ _ _ _ _ _ _ _ _ _ _ ad ls hx hb h9 kk => ?_) (fun h1 h2 => ⟨hl ▸ okl_lvs h1 h2.head, h2.tail⟩) k
  have e := lvs_1 ad i (sR x) lv
  rw [hl] at e
  cases x with
  | none => exact lv_astoreN hx hb hd h9 hn e kk
  | some a => exact lv_astore hx hb hd h9 hn e kk
theorem j_iinc (q : Nat) {i : Nat} {n : Int} {x v : Int32} (hd : decode cc pc = .ok (.iinc i n, 3)) (hq : lv[q]? = some (i, sI x)) (hv : x + Int32.ofInt n = v) (hn : i < nL) (hl : lvs i 1 (sI v) lv = lv') (k : J y cc nL rt rf rl X g (pc + 3) lv' st pr) : J y cc nL rt rf rl X g pc lv st pr :=
  J.t (fun _ _ _ _ _ _ _ _ _ _ _ _ _ _ _ ad ls hx hb h9 kk => lv_iinc (k := q) hx hb hd h9 (by simp [lvm, hq, cv]) hv hn (by rw [← hl]; exact lvs_1 ad i (sI v) lv) kk) (fun h1 h2 => ⟨hl ▸ okl_lvs h1 trivial, h2⟩) k
theorem j_if_eq {x : Int32} {off : Int} {tgt : Nat} {a b : Option (ρ × Hp)} (hd : decode cc pc = .ok (.ifCond .eq off, 3)) (ht : (pc : Int) + off = (tgt : Int)) (hp : pr = if x = 0 then a else b) (kt : x = 0 → J y cc nL rt rf rl X g tgt lv st a) (kf : ¬ x = 0 → J y cc nL rt rf rl X g (pc + 3) lv st b) : J y cc nL rt rf rl X g pc lv (sI x :: st) pr :=
  J.f (P := x = 0) (fun _ _ _ _ _ _ _ _ _ _ _ _ _ _ _ ad ls hx hb h1 h2 => lv_if_eq hx hb hd ht h1 h2) (fun h => h.tail) hp kt kf
theorem j_icmp_eq {x z : Int32} {off : Int} {tgt : Nat} {a b : Option (ρ × Hp)} (hd : decode cc pc = .ok (.if_icmp .eq off, 3)) (ht : (pc : Int) + off = (tgt : Int)) (hp : pr = if x = z then a else b) (kt : x = z → J y cc nL rt rf rl X g tgt lv st a) (kf : ¬ x = z → J y cc nL rt rf rl X g (pc + 3) lv st b) : J y cc nL rt rf rl X g pc lv (sI z :: sI x :: st) pr :=
  J.f (P := x = z) (fun _ _ _ _ _ _ _ _ _ _ _ _ _ _ _ ad ls hx hb h1 h2 => lv_icmp_eq hx hb hd ht h1 h2) (fun h => h.tail.tail) hp kt kf
theorem j_if_ne {x : Int32} {off : Int} {tgt : Nat} {a b : Option (ρ × Hp)} (hd : decode cc pc = .ok (.ifCond .ne off, 3)) (ht : (pc : Int) + off = (tgt : Int)) (hp : pr = if x = 0 then b else a) (kt : ¬ x = 0 → J y cc nL rt rf rl X g tgt lv st a) (kf : x = 0 → J y cc nL rt rf rl X g (pc + 3) lv st b) : J y cc nL rt rf rl X g pc lv (sI x :: st) pr :=
  J.f (P := x = 0) (fun _ _ _ _ _ _ _ _ _ _ _ _ _ _ _ ad ls hx hb h1 h2 => lv_if_ne hx hb hd ht h2 h1) (fun h => h.tail) hp kf kt
theorem j_icmp_ne {x z : Int32} {off : Int} {tgt : Nat} {a b : Option (ρ × Hp)} (hd : decode cc pc = .ok (.if_icmp .ne off, 3)) (ht : (pc : Int) + off = (tgt : Int)) (hp : pr = if x = z then b else a) (kt : ¬ x = z → J y cc nL rt rf rl X g tgt lv st a) (kf : x = z → J y cc nL rt rf rl X g (pc + 3) lv st b) : J y cc nL rt rf rl X g pc lv (sI z :: sI x :: st) pr :=
  J.f (P := x = z) (fun _ _ _ _ _ _ _ _ _ _ _ _ _ _ _ ad ls hx hb h1 h2 => lv_icmp_ne hx hb hd ht h2 h1) (fun h => h.tail.tail) hp kf kt
theorem j_if_lt {x : Int32} {off : Int} {tgt : Nat} {a b : Option (ρ × Hp)} (hd : decode cc pc = .ok (.ifCond .lt off, 3)) (ht : (pc : Int) + off = (tgt : Int)) (hp : pr = if x < 0 then a else b) (kt : x < 0 → J y cc nL rt rf rl X g tgt lv st a) (kf : ¬ x < 0 → J y cc nL rt rf rl X g (pc + 3) lv st b) : J y cc nL rt rf rl X g pc lv (sI x :: st) pr :=
  J.f (P := x < 0) (fun _ _ _ _ _ _ _ _ _ _ _ _ _ _ _ ad ls hx hb h1 h2 => lv_if_lt hx hb hd ht h1 h2) (fun h => h.tail) hp kt kf
theorem j_icmp_lt {x z : Int32} {off : Int} {tgt : Nat} {a b : Option (ρ × Hp)} (hd : decode cc pc = .ok (.if_icmp .lt off, 3)) (ht : (pc : Int) + off = (tgt : Int)) (hp : pr = if x < z then a else b) (kt : x < z → J y cc nL rt rf rl X g tgt lv st a) (kf : ¬ x < z → J y cc nL rt rf rl X g (pc + 3) lv st b) : J y cc nL rt rf rl X g pc lv (sI z :: sI x :: st) pr :=
  J.f (P := x < z) (fun _ _ _ _ _ _ _ _ _ _ _ _ _ _ _ ad ls hx hb h1 h2 => lv_icmp_lt hx hb hd ht h1 h2) (fun h => h.tail.tail) hp kt kf
theorem j_if_ge {x : Int32} {off : Int} {tgt : Nat} {a b : Option (ρ × Hp)} (hd : decode cc pc = .ok (.ifCond .ge off, 3)) (ht : (pc : Int) + off = (tgt : Int)) (hp : pr = if 0 ≤ x then a else b) (kt : 0 ≤ x → J y cc nL rt rf rl X g tgt lv st a) (kf : ¬ 0 ≤ x → J y cc nL rt rf rl X g (pc + 3) lv st b) : J y cc nL rt rf rl X g pc lv (sI x :: st) pr :=
  J.f (P := 0 ≤ x) (fun _ _ _ _ _ _ _ _ _ _ _ _ _ _ _ ad ls hx hb h1 h2 => lv_if_ge hx hb hd ht h1 h2) (fun h => h.tail) hp kt kf
theorem j_icmp_ge {x z : Int32} {off : Int} {tgt : Nat} {a b : Option (ρ × Hp)} (hd : decode cc pc = .ok (.if_icmp .ge off, 3)) (ht : (pc : Int) + off = (tgt : Int)) (hp : pr = if z ≤ x then a else b) (kt : z ≤ x → J y cc nL rt rf rl X g tgt lv st a) (kf : ¬ z ≤ x → J y cc nL rt rf rl X g (pc + 3) lv st b) : J y cc nL rt rf rl X g pc lv (sI z :: sI x :: st) pr :=
  J.f (P := z ≤ x) (fun _ _ _ _ _ _ _ _ _ _ _ _ _ _ _ ad ls hx hb h1 h2 => lv_icmp_ge hx hb hd ht h1 h2) (fun h => h.tail.tail) hp kt kf
theorem j_if_gt {x : Int32} {off : Int} {tgt : Nat} {a b : Option (ρ × Hp)} (hd : decode cc pc = .ok (.ifCond .gt off, 3)) (ht : (pc : Int) + off = (tgt : Int)) (hp : pr = if 0 < x then a else b) (kt : 0 < x → J y cc nL rt rf rl X g tgt lv st a) (kf : ¬ 0 < x → J y cc nL rt rf rl X g (pc + 3) lv st b) : J y cc nL rt rf rl X g pc lv (sI x :: st) pr :=
  J.f (P := 0 < x) (fun _ _ _ _ _ _ _ _ _ _ _ _ _ _ _ ad ls hx hb h1 h2 => lv_if_gt hx hb hd ht h1 h2) (fun h => h.tail) hp kt kf
theorem j_icmp_gt {x z : Int32} {off : Int} {tgt : Nat} {a b : Option (ρ × Hp)} (hd : decode cc pc = .ok (.if_icmp .gt off, 3)) (ht : (pc : Int) + off = (tgt : Int)) (hp : pr = if z < x then a else b) (kt : z < x → J y cc nL rt rf rl X g tgt lv st a) (kf : ¬ z < x → J y cc nL rt rf rl X g (pc + 3) lv st b) : J y cc nL rt rf rl X g pc lv (sI z :: sI x :: st) pr :=
  J.f (P := z < x) (fun _ _ _ _ _ _ _ _ _ _ _ _ _ _ _ ad ls hx hb h1 h2 => lv_icmp_gt hx hb hd ht h1 h2) (fun h => h.tail.tail) hp kt kf
theorem j_if_le {x : Int32} {off : Int} {tgt : Nat} {a b : Option (ρ × Hp)} (hd : decode cc pc = .ok (.ifCond .le off, 3)) (ht : (pc : Int) + off = (tgt : Int)) (hp : pr = if x ≤ 0 then a else b) (kt : x ≤ 0 → J y cc nL rt rf rl X g tgt lv st a) (kf : ¬ x ≤ 0 → J y cc nL rt rf rl X g (pc + 3) lv st b) : J y cc nL rt rf rl X g pc lv (sI x :: st) pr :=
  J.f (P := x ≤ 0) (fun _ _ _ _ _ _ _ _ _ _ _ _ _ _ _ ad ls hx hb h1 h2 => lv_if_le hx hb hd ht h1 h2) (fun h => h.tail) hp kt kf
theorem j_icmp_le {x z : Int32} {off : Int} {tgt : Nat} {a b : Option (ρ × Hp)} (hd : decode cc pc = .ok (.if_icmp .le off, 3)) (ht : (pc : Int) + off = (tgt : Int)) (hp : pr = if x ≤ z then a else b) (kt : x ≤ z → J y cc nL rt rf rl X g tgt lv st a) (kf : ¬ x ≤ z → J y cc nL rt rf rl X g (pc + 3) lv st b) : J y cc nL rt rf rl X g pc lv (sI z :: sI x :: st) pr :=
  J.f (P := x ≤ z) (fun _ _ _ _ _ _ _ _ _ _ _ _ _ _ _ ad ls hx hb h1 h2 => lv_icmp_le hx hb hd ht h1 h2) (fun h => h.tail.tail) hp kt kf
theorem j_goto {off : Int} {tgt : Nat} (hd : decode cc pc = .ok (.goto off, 3)) (ht : (pc : Int) + off = (tgt : Int)) (k : J y cc nL rt rf rl X g tgt lv st pr) : J y cc nL rt rf rl X g pc lv st pr :=
  J.s (fun _ _ _ _ _ _ _ _ _ _ _ _ _ _ _ ad ls hx hb hw htb hl K0 => lv_goto hx hb hd ht K0) (fun _ h => h) k
end RUL
