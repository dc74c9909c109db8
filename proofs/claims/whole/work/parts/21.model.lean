/-! the model's cells as a table V : code, place; the heap with this table in its model's cells -/
abbrev VV : Type := Nat → Nat → Int32
def wM (g : Hp) (V : VV) : Hp := (g.1, (fun n k => if n.2 = 0 ∧ (n.1 = 10 ∨ 40 ≤ n.1) then V n.1 k else gI g n k), g.2.2)
def vs (V : VV) (c k : Nat) (v : Int32) : VV := fun c' k' => if c' = c ∧ k' = k then v else V c' k'
theorem vs_ne {V : VV} {c k c' : Nat} {v : Int32} (h : c' ≠ c) : vs V c k v c' = V c' := by funext j; simp [vs, h]
theorem vs_eq {V : VV} {c k : Nat} {v : Int32} : vs V c k v c k = v := by simp [vs]
theorem vs_nk {V : VV} {c k c' k' : Nat} {v : Int32} (h : k' ≠ k) : vs V c k v c' k' = V c' k' := by simp [vs, h]
def mRef : Nat → Option Nm
  | 1 => some (40, 0)
  | 7 => some (41, 0)
  | 8 => some (60, 0)
  | 10 => some (42, 0)
  | 11 => some (43, 0)
  | 12 => some (44, 0)
  | 13 => some (45, 0)
  | 14 => some (46, 0)
  | 16 => some (47, 0)
  | 17 => some (48, 0)
  | 18 => some (49, 0)
  | 19 => some (50, 0)
  | 21 => some (51, 0)
  | 22 => some (52, 0)
  | 23 => some (53, 0)
  | 25 => some (54, 0)
  | 26 => some (55, 0)
  | _ => none
def mLen : Nat → Nat
  | 40 => 6
  | 41 => 10
  | 42 => 6
  | 43 => 10
  | 44 => 300
  | 45 => 6
  | 46 => 30
  | 47 => 60
  | 48 => 60
  | 49 => 60
  | 50 => 60
  | 51 => 5
  | 52 => 144
  | 53 => 144
  | 54 => 1600
  | 55 => 150
  | 60 => 10
  | _ => 0
def SM (g : Hp) : Prop := (∀ k, gR g (10, 0) k = mRef k) ∧ ∀ c, 40 ≤ c → gN g (c, 0) = mLen c
theorem SM.w {g : Hp} {V : VV} (h : SM g) : SM (wM g V) := h
theorem wM_wM {g : Hp} {V V2 : VV} : wM (wM g V) V2 = wM g V2 := by
  unfold wM
  congr 1
  congr 1
  funext n k
  by_cases h : n.2 = 0 ∧ (n.1 = 10 ∨ 40 ≤ n.1) <;> simp [gI, h]
theorem wM_I {g : Hp} {V : VV} {c k : Nat} (h : c = 10 ∨ 40 ≤ c) : gI (wM g V) (c, 0) k = V c k := by simp [wM, gI, h]
theorem wM_X {g : Hp} {V : VV} {n : Nm} (h : n.1 ≠ 10) (h2 : n.1 < 40) : gI (wM g V) n = gI g n := by
  funext k
  have : ¬ 40 ≤ n.1 := by omega
  simp [wM, gI, h, this]
theorem wM_R {g : Hp} {V : VV} : gR (wM g V) = gR g := rfl
theorem wM_N {g : Hp} {V : VV} : gN (wM g V) = gN g := rfl
theorem wM_L {g : Hp} {V : VV} : gL (wM g V) = gL g := rfl
theorem wM_set {g : Hp} {V : VV} {c k : Nat} {v : Int32} (h : c = 10 ∨ 40 ≤ c) : setI (wM g V) (c, 0) k v = wM g (vs V c k v) := by
  unfold setI
  show (g.1, _, g.2.2) = (g.1, _, g.2.2)
  congr 1
  congr 1
  funext n j
  by_cases h1 : n.2 = 0 ∧ (n.1 = 10 ∨ 40 ≤ n.1)
  · by_cases h2 : n = (c, 0) ∧ j = k
    · obtain ⟨rfl, rfl⟩ := h2
      simp [vs, h1]
    · have h3 : ¬ (n.1 = c ∧ j = k) := fun q => h2 ⟨by obtain ⟨a, b⟩ := n; simp_all, q.2⟩
      simp [vs, h1, h2, h3, wM, gI]
  · have h2 : ¬ n = (c, 0) := fun q => h1 (by subst q; exact ⟨rfl, h⟩)
    simp [h2, wM, gI, h1]
theorem gi_M {g : Hp} {V : VV} {k : Nat} : getI (some (10, 0)) 10 k (wM g V) = some (V 10 k) := by simp [getI, wM_I]
theorem gr_M {g : Hp} {V : VV} {k : Nat} (h : SM g) : getR (some (10, 0)) 10 k (wM g V) = some (mRef k) := by simp [getR, wM_R, h.1]
theorem pu_M {g : Hp} {V : VV} {k : Nat} {v : Int32} : putI (some (10, 0)) 10 k v (wM g V) = some (wM g (vs V 10 k v)) := by simp [putI, wM_set]
theorem al_M {g : Hp} {V : VV} {c : Nat} {x : Int32} (h : SM g) (h1 : 40 ≤ c) (h2 : c < 60) (hi : vp_in x (mLen c)) : aldI (some (c, 0)) x (wM g V) = some (V c x.toNatClampNeg) := by
  have : (20 ≤ c ∧ c < 60) ∧ vp_in x (gN (wM g V) (c, 0)) := ⟨⟨by omega, h2⟩, by rw [wM_N, h.2 c h1]; exact hi⟩
  simp only [aldI, if_pos this, wM_I (Or.inr h1)]
theorem as_M {g : Hp} {V : VV} {c : Nat} {x v : Int32} (h : SM g) (h1 : 40 ≤ c) (h2 : c < 60) (hi : vp_in x (mLen c)) : astI (some (c, 0)) x v (wM g V) = some (wM g (vs V c x.toNatClampNeg v)) := by
  have : (20 ≤ c ∧ c < 60) ∧ vp_in x (gN (wM g V) (c, 0)) := ⟨⟨by omega, h2⟩, by rw [wM_N, h.2 c h1]; exact hi⟩
  simp only [astI, if_pos this, wM_set (Or.inr h1)]
theorem az_M {g : Hp} {V : VV} {x : Int32} (h : SM g) (hi : vp_in x 10) : aldZ (some (60, 0)) x (wM g V) = some (V 60 x.toNatClampNeg) := by
  have : 60 ≤ 60 ∧ vp_in x (gN (wM g V) (60, 0)) := ⟨by decide, by rw [wM_N, h.2 60 (by decide)]; exact hi⟩
  simp only [aldZ, if_pos this, wM_I (c := 60) (Or.inr (by decide))]
theorem sz_M {g : Hp} {V : VV} {x v : Int32} (h : SM g) (hi : vp_in x 10) : astZ (some (60, 0)) x v (wM g V) = some (wM g (vs V 60 x.toNatClampNeg (vp_nar .boolean v))) := by
  have : 60 ≤ 60 ∧ vp_in x (gN (wM g V) (60, 0)) := ⟨by decide, by rw [wM_N, h.2 60 (by decide)]; exact hi⟩
  simp only [astZ, if_pos this, wM_set (c := 60) (Or.inr (by decide))]
theorem vp_n {n N : Nat} (h : n < N) (hN : N < 2147483648) : vp_in (nI n) N := vp_in_nI h (by omega)
theorem nI_cl {n : Nat} (h : n < 2147483648) : (nI n).toNatClampNeg = n := nI_clamp (by omega)
theorem ick_M {α : Type} {P : Option α} : ick (some (10, 0)) 10 P = P := by simp [ick]
theorem ick_X {α : Type} {P : Option α} {c i : Nat} : ick (some (c, i)) c P = P := by simp [ick]
/-- within bounds: 1, 0 -/
def inB (a lo hi : Int32) : Int32 := if a < lo then 0 else if hi < a then 0 else 1
theorem inB_01 (a lo hi : Int32) : inB a lo hi = 0 ∨ inB a lo hi = 1 := by unfold inB; split; exact Or.inl rfl; split; exact Or.inl rfl; exact Or.inr rfl
theorem rtZ_01 {x : Int32} {g : Hp} (h : x = 0 ∨ x = 1) : rtZ x g = some (x, g) := by simp [rtZ, h]
theorem rtZ_0 {g : Hp} : rtZ 0 g = some (0, g) := rtZ_01 (Or.inl rfl)
theorem rtZ_1 {g : Hp} : rtZ 1 g = some (1, g) := rtZ_01 (Or.inr rfl)
theorem inB_ne {a lo hi : Int32} (h : ¬ inB a lo hi = 0) : lo ≤ a ∧ a ≤ hi := by
  unfold inB at h
  by_cases h1 : a < lo
  · simp [h1] at h
  · by_cases h2 : hi < a
    · simp [h1, h2] at h
    · exact ⟨Int32.not_lt.mp h1, Int32.not_lt.mp h2⟩
theorem inB_nI {a : Int32} {n : Nat} (hn : n < 1073741824) (h : ¬ inB a 0 (nI n - 1) = 0) : ∃ i, i < n ∧ a = nI i := by
  obtain ⟨h1, h2⟩ := inB_ne h
  obtain ⟨j, hj, rfl⟩ := nI_of (x := a) (Int32.not_lt.mpr h1)
  refine ⟨j, ?_, rfl⟩
  cases n with
  | zero =>
    exfalso
    have e : nI 0 - 1 = iI (-1) := by decide
    rw [e, nI_iI, iI_le (by omega) (by omega) (by omega) (by omega)] at h2
    omega
  | succ n =>
    rw [nI_pred, nI_leI (by omega) (by omega)] at h2
    omega
theorem inB_nIr {a : Int32} {m : Nat} (hm : m < 1073741824) (h : ¬ inB a 0 (nI m) = 0) : ∃ i, i ≤ m ∧ a = nI i := by
  obtain ⟨h1, h2⟩ := inB_ne h
  obtain ⟨j, hj, rfl⟩ := nI_of (x := a) (Int32.not_lt.mpr h1)
  rw [nI_leI (by omega) (by omega)] at h2
  exact ⟨j, h2, rfl⟩
theorem in9 (z : Nat) (a b c : Int32) (g : Hp) : f_X9_in z a b c g = some (inB a b c, g) := by
  unfold f_X9_in inB
  split
  · exact rtZ_0
  · split
    · exact rtZ_0
    · exact rtZ_1
theorem in8 (z : Nat) (a b c : Int32) (g : Hp) : f_X8_isWithin z a b c g = some (inB a b c, g) := by
  unfold f_X8_isWithin inB
  split
  · exact rtZ_0
  · split
    · exact rtZ_0
    · exact rtZ_1
theorem cell9 (z : Nat) (a : Int32) (g : Hp) : f_X9_isCell z a g = some (inB a 0 143, g) := by
  simp only [f_X9_isCell, in9, Option.bind_some, rtZ_01 (inB_01 _ _ _)]
theorem cell8 (z : Nat) (a : Int32) (g : Hp) : f_X8_isCell z a g = some (inB a 0 143, g) := by
  simp only [f_X8_isCell, in8, Option.bind_some, rtZ_01 (inB_01 _ _ _)]
section MOD
variable {g : Hp} {V : VV} (h : SM g) (z : Nat)
theorem isStation9 (a : Int32) : f_X9_isStation z (some (10, 0)) a (wM g V) = some (inB a 0 (V 10 6 - 1), wM g V) := by
  simp only [f_X9_isStation, gi_M, in9, Option.bind_some, rtZ_01 (inB_01 _ _ _)]
theorem isTown9 (a : Int32) : f_X9_isTown z (some (10, 0)) a (wM g V) = some (inB a 0 (V 10 9 - 1), wM g V) := by
  simp only [f_X9_isTown, gi_M, in9, Option.bind_some, rtZ_01 (inB_01 _ _ _)]
theorem isPick9 (a : Int32) : f_X9_isPick z (some (10, 0)) a (wM g V) = some (inB a 0 (V 10 15 - 1), wM g V) := by
  simp only [f_X9_isPick, gi_M, in9, Option.bind_some, rtZ_01 (inB_01 _ _ _)]
theorem isQuake9 (a : Int32) : f_X9_isQuake z (some (10, 0)) a (wM g V) = some (inB a 0 (V 10 20 - 1), wM g V) := by
  simp only [f_X9_isQuake, gi_M, in9, Option.bind_some, rtZ_01 (inB_01 _ _ _)]
theorem tq9 (a b : Int32) : f_X9_areTownAndQuake z (some (10, 0)) a b (wM g V) = some (if inB a 0 (V 10 9 - 1) = 0 then 0 else inB b 0 (V 10 20 - 1), wM g V) := by
  simp only [f_X9_areTownAndQuake, ick_M, isTown9, isQuake9, Option.bind_some]
  by_cases h1 : inB a 0 (V 10 9 - 1) = 0
  · simp [h1, rtZ_0]
  · simp only [h1, if_false]
    rcases inB_01 b 0 (V 10 20 - 1) with e | e <;> simp [e, rtZ_0, rtZ_1]
end MOD
