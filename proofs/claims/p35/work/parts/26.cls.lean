/-! the class's cells: what stands where -/
def kp (V : VV) : Nat := if nms V ≤ 400 then nms V else 400
def cRef : Nat → Option Nm
  | 0 => some (8, 0)
  | 1 => some (0, 0)
  | 2 => some (0, 1)
  | 3 => some (0, 2)
  | 4 => some (0, 3)
  | 5 => some (0, 4)
  | 6 => some (1, 0)
  | 7 => some (23, 0)
  | 8 => some (24, 0)
  | _ => none
abbrev HR : Type := List Nm × (Nm → Nat → Option Nm) × (Nm → Nat)
def LR (h : HR) (j c n : Nat) : Prop := (n = 0 ∧ h.2.1 (0, j) 1 = some (17, 0) ∧ ∀ e, (12 + j, e) ∉ h.1) ∨ ∃ e, h.2.1 (0, j) 1 = some (12 + j, e) ∧ n ≤ h.2.2 (12 + j, e) ∧ 0 < h.2.2 (12 + j, e) ∧ h.2.2 (12 + j, e) ≤ 2 * n + 10 ∧ (12 + j, e) ∈ h.1 ∧ (∀ e2, e < e2 → (12 + j, e2) ∉ h.1) ∧ ∀ i, i < n → h.2.1 (12 + j, e) i = some (c, i)
def RC1 (h : HR) : Prop := ((∀ i, h.2.1 (9, 0) i = cRef i) ∧ h.2.1 (8, 0) 0 = some (20, 0) ∧ h.2.1 (1, 0) 0 = some (21, 0) ∧ h.2.1 (1, 0) 1 = some (22, 0)) ∧ (h.2.2 (20, 0) = 144 ∧ h.2.2 (21, 0) = 144 ∧ h.2.2 (22, 0) = 144 ∧ h.2.2 (23, 0) = 6 ∧ h.2.2 (24, 0) = 6)
def RCs (h : HR) (a : Nat) : Prop := LR h 0 6 a ∧ (∀ i, i < a → h.2.1 (6, i) 1 = some (5, i) ∧ h.2.1 (5, i) 0 = some (25, i) ∧ h.2.2 (25, i) = 30) ∧ ∀ i, a ≤ i → (6, i) ∉ h.1 ∧ (5, i) ∉ h.1 ∧ (25, i) ∉ h.1
def RCt (h : HR) (b : Nat) : Prop := LR h 1 7 b ∧ ∀ i, b ≤ i → (7, i) ∉ h.1
def RCp (h : HR) (p : Nat) : Prop := LR h 2 3 p ∧ ∀ i, p ≤ i → (3, i) ∉ h.1
def RCq (h : HR) (q : Nat) : Prop := LR h 3 4 q ∧ (∀ i, i < q → h.2.1 (4, i) 2 = some (26, i) ∧ h.2.1 (4, i) 4 = some (27, i) ∧ h.2.1 (4, i) 5 = some (28, i) ∧ h.2.2 (26, i) = 10 ∧ h.2.2 (27, i) = 6 ∧ h.2.2 (28, i) = 6) ∧ ∀ i, q ≤ i → (4, i) ∉ h.1 ∧ (26, i) ∉ h.1 ∧ (27, i) ∉ h.1 ∧ (28, i) ∉ h.1
def RCm (h : HR) (k : Nat) : Prop := LR h 4 2 k ∧ ∀ i, k ≤ i → (2, i) ∉ h.1
def RC (h : HR) (V : VV) : Prop := RC1 h ∧ RCs h (nst V) ∧ RCt h (ntw V) ∧ RCp h (npk V) ∧ RCq h (nqk V) ∧ RCm h (kp V)
/-- when a quake has heard a station: -1, not yet -/
def tkS (V : VV) (q s : Nat) : Nat → Int
  | 0 => -1
  | p + 1 => if V 50 p = nI q ∧ V 47 p = nI s then (tk V p : Int) else tkS V q s p
def kdF (V : VV) (p : Nat) : Int32 := if V 50 p = -9 then 3 else if V 51 (V 50 p).toNatClampNeg = nI p then 2 else 1
/-- the bits of the levels 1 .. 4 -/
def bt (f : Nat → Bool) : Nat := (if f 1 then 2 else 0) + (if f 2 then 4 else 0) + (if f 3 then 8 else 0) + (if f 4 then 16 else 0)
def toldF (V : VV) (q t : Nat) (k : Nat) : Bool := decide (V 55 (30 * q + 5 * t + k) ≠ 0)
def backF (V : VV) (q t : Nat) (k : Nat) : Bool := decide (V 55 (30 * q + 5 * t + k) = 2)
def cI (V : VV) (n : Nm) (k : Nat) : Option Int32 :=
  if n.1 = 0 then (if k = 2 then (if n.2 = 0 then some (nI (nst V)) else if n.2 = 1 then some (nI (ntw V)) else if n.2 = 2 then some (nI (npk V)) else if n.2 = 3 then some (nI (nqk V)) else if n.2 = 4 then some (nI (kp V)) else none) else none)
  else if n.1 = 2 then (if n.2 < kp V ∧ k < 4 then some (V 54 (4 * n.2 + k)) else none)
  else if n.1 = 3 then (if n.2 < npk V then (if k = 0 then some (V 47 n.2) else if k = 1 then some (V 48 n.2) else if k = 2 then some (V 49 n.2) else if k = 3 then some (kdF V n.2) else if k = 4 then some (V 50 n.2) else none) else none)
  else if n.1 = 4 then (if n.2 < nqk V then (if k = 0 then some (nI (sP V (fP V n.2))) else if k = 1 then some (nI (sg V (fP V n.2))) else if k = 3 then some (nI (cntF V n.2 (npk V))) else none) else none)
  else if n.1 = 5 then (if n.2 < nst V ∧ k = 1 then some (if V 43 n.2 = -9 then -1 else V 43 n.2) else none)
  else if n.1 = 6 then (if n.2 < nst V then (if k = 0 then some (V 41 n.2) else if k = 2 then some (V 60 n.2) else none) else none)
  else if n.1 = 7 then (if n.2 < ntw V ∧ k = 0 then some (V 42 n.2) else none)
  else if n.1 = 9 then (if k = 9 then some (V 10 0) else if k = 10 then some (V 10 5) else if k = 11 then some (V 10 4) else if k = 12 then some (V 10 24) else if k = 13 then some (V 10 2) else none)
  else if n.1 = 20 then (if k < 144 then some (nI (isq (slo V * ((k / 12) * (k / 12) + (k % 12) * (k % 12))))) else none)
  else if n.1 = 23 then (if k < 6 then some (V 45 k) else none)
  else if n.1 = 24 then (if k < 6 then some (V 40 k) else none)
  else if n.1 = 25 then (if n.2 < nst V ∧ k < 30 then some (V 44 (30 * n.2 + k)) else none)
  else if n.1 = 26 then (if n.2 < nqk V ∧ k < 10 then some (iI (tkS V n.2 k (npk V))) else none)
  else if n.1 = 27 then (if n.2 < nqk V ∧ k < 6 then some (nI (bt (toldF V n.2 k))) else none)
  else if n.1 = 28 then (if n.2 < nqk V ∧ k < 6 then some (nI (bt (backF V n.2 k))) else none)
  else none
def HC (g : Hp) (V : VV) : Prop := gI g (1, 0) 5 = -9 ∨ ∃ q, q < nqk V ∧ gI g (1, 0) 5 = nI q ∧ (∀ c, c < 144 → gI g (21, 0) c = iI (lo V q c) ∧ gI g (22, 0) c = iI (hi V q c)) ∧ gI g (1, 0) 2 = nI (ncl V q 144) ∧ gI g (1, 0) 3 = iI (lwF V q 144) ∧ gI g (1, 0) 4 = iI (hgF V q 144)
/-- the base row names are numbered 0 -/
def Z0 (n : Nm) : Prop := (n.1 = 9 ∨ n.1 = 20 ∨ n.1 = 23 ∨ n.1 = 24) → n.2 = 0
def IC (g : Hp) (V : VV) : Prop := ∀ n k v, Z0 n → cI V n k = some v → gI g n k = v
def cnt (V : VV) : Nat := nst V + ntw V + npk V + nqk V + kp V
def CB (g : Hp) (V : VV) : Prop := gc g ≤ 100 + 10 * cnt V ∧ gs g ≤ 10000 + 1000 * cnt V
/-- what is not yet used -/
def VF (V : VV) : Prop := (∀ s, nst V ≤ s → s < 10 → V 60 s = 0 ∧ V 43 s = -9 ∧ ∀ k, k < 30 → V 44 (30 * s + k) = 0) ∧ ∀ q, nqk V ≤ q → q < 5 → ∀ j, j < 30 → V 55 (30 * q + j) = 0
def IN (g : Hp) (V : VV) : Prop := True ∧ SM g ∧ VI V ∧ RC g.1 V ∧ IC g V ∧ HC g V ∧ CB g V ∧ VF V
/-- only ints of these codes -/
def Ch (C : List Nat) (g g1 : Hp) : Prop := g1.1 = g.1 ∧ g1.2.2 = g.2.2 ∧ ∀ n k, n.1 ∉ C → gI g1 n k = gI g n k
theorem Ch.rf (C : List Nat) (g : Hp) : Ch C g g := ⟨rfl, rfl, fun _ _ _ => rfl⟩
theorem Ch.tr {C : List Nat} {a b d : Hp} (h : Ch C a b) (h2 : Ch C b d) : Ch C a d := ⟨h2.1.trans h.1, h2.2.1.trans h.2.1, fun n k hn => (h2.2.2 n k hn).trans (h.2.2 n k hn)⟩
theorem Ch.set {C : List Nat} {g : Hp} {n : Nm} {k : Nat} {v : Int32} (h : n.1 ∈ C) : Ch C g (setI g n k v) := ⟨rfl, rfl, fun m j hm => by
  have : m ≠ n := fun e => hm (e ▸ h)
  simp [setI, gI, this]⟩
theorem Ch.sub {C D : List Nat} {g g1 : Hp} (h : Ch C g g1) (hs : ∀ x, x ∈ C → x ∈ D) : Ch D g g1 := ⟨h.1, h.2.1, fun n k hn => h.2.2 n k (fun q => hn (hs _ q))⟩
theorem Ch.r {C : List Nat} {g g1 : Hp} (h : Ch C g g1) : gR g1 = gR g := congrArg (fun w : HR => w.2.1) h.1
theorem Ch.n {C : List Nat} {g g1 : Hp} (h : Ch C g g1) : gN g1 = gN g := congrArg (fun w : HR => w.2.2) h.1
theorem Ch.l {C : List Nat} {g g1 : Hp} (h : Ch C g g1) : gL g1 = gL g := congrArg (fun w : HR => w.1) h.1
theorem Ch.i {C : List Nat} {g g1 : Hp} (h : Ch C g g1) {n : Nm} {k : Nat} (hn : n.1 ∉ C) : gI g1 n k = gI g n k := h.2.2 n k hn
theorem gI_set {g : Hp} {n m : Nm} {k j : Nat} {v : Int32} : gI (setI g n k v) m j = if m = n ∧ j = k then v else gI g m j := rfl
/-- the law's rows are untouched -/
def noM (C : List Nat) : Bool := C.all (fun c => decide (c ≠ 29) && decide (c ≠ 30))
theorem noM_x {C : List Nat} (h : noM C = true) {c : Nat} (hc : c = 29 ∨ c = 30) : c ∉ C := by
  intro q
  have := List.all_eq_true.mp h c q
  simp at this
  omega
theorem Z0.c {c k : Nat} (h : c ≠ 9) (h2 : c ≠ 20) (h3 : c ≠ 23) (h4 : c ≠ 24) : Z0 (c, k) := fun q => by simp at q; omega
theorem Z0.z {c : Nat} : Z0 (c, 0) := fun _ => rfl
section EVA
variable {g : Hp} {V : VV} {z : Nat}
theorem IN.s (h : IN g V) : SM g := h.2.1
theorem IN.v (h : IN g V) : VI V := h.2.2.1
theorem IN.r (h : IN g V) : RC g.1 V := h.2.2.2.1
theorem IN.i (h : IN g V) {c i k : Nat} {v : Int32} (e : cI V (c, i) k = some v) (hz : Z0 (c, i) := by first | exact Z0.z | exact Z0.c (by decide) (by decide) (by decide) (by decide)) : gI g (c, i) k = v := h.2.2.2.2.1 (c, i) k v hz e
theorem IN.h (h : IN g V) : HC g V := h.2.2.2.2.2.1
theorem IN.c (h : IN g V) : CB g V := h.2.2.2.2.2.2.1
theorem IN.vf (h : IN g V) : VF V := h.2.2.2.2.2.2.2
theorem gi_C {k : Nat} : getI (some (9, 0)) 9 k g = some (gI g (9, 0) k) := rfl
theorem pu_C {k : Nat} {v : Int32} : putI (some (9, 0)) 9 k v g = some (setI g (9, 0) k v) := rfl
theorem gr_C (h : RC1 g.1) {k : Nat} : getR (some (9, 0)) 9 k g = some (cRef k) := congrArg some (h.1.1 k)
theorem gI_X {c i k : Nat} : getI (some (c, i)) c k g = some (gI g (c, i) k) := by simp [getI]
theorem gR_X {c i k : Nat} : getR (some (c, i)) c k g = some (gR g (c, i) k) := by simp [getR]
theorem pI_X {c i k : Nat} {v : Int32} : putI (some (c, i)) c k v g = some (setI g (c, i) k v) := by simp [putI]
theorem pR_X {c i k : Nat} {v : Option Nm} : putR (some (c, i)) c k v g = some (setR g (c, i) k v) := by simp [putR]
theorem ckc_X {c i : Nat} : ckc (some (c, i)) c = some () := by simp [ckc]
theorem nnl_X {α : Type} {n : Nm} {P : Option α} : nnl (some n) P = P := rfl
theorem ald_X {c i k N : Nat} (h : gN g (c, i) = N) (h1 : 20 ≤ c) (h2 : c < 60) (hk : k < N) (hN : N < 2147483648) : aldI (some (c, i)) (nI k) g = some (gI g (c, i) k) := by
  have : (20 ≤ c ∧ c < 60) ∧ vp_in (nI k) (gN g (c, i)) := ⟨⟨h1, h2⟩, by rw [h]; exact vp_n hk hN⟩
  simp only [aldI, if_pos this, nI_cl (show k < 2147483648 by omega)]
theorem ast_X {c i k N : Nat} {v : Int32} (h : gN g (c, i) = N) (h1 : 20 ≤ c) (h2 : c < 60) (hk : k < N) (hN : N < 2147483648) : astI (some (c, i)) (nI k) v g = some (setI g (c, i) k v) := by
  have : (20 ≤ c ∧ c < 60) ∧ vp_in (nI k) (gN g (c, i)) := ⟨⟨h1, h2⟩, by rw [h]; exact vp_n hk hN⟩
  simp only [astI, if_pos this, nI_cl (show k < 2147483648 by omega)]
theorem sizeJ {j n : Nat} (h : gI g (0, j) 2 = nI n) : f_Jx4a65c_size_8abf5 z (some (0, j)) g = some (nI n, g) := by
  simp only [f_Jx4a65c_size_8abf5, gI_X, Option.bind_some, h]
theorem emptyJ {j n : Nat} (h : gI g (0, j) 2 = nI n) (hn : n < 2147483648) : f_Jx4a65c_isEmpty_aae02 z (some (0, j)) g = some ((if n = 0 then 1 else 0), g) := by
  simp only [f_Jx4a65c_isEmpty_aae02, gI_X, Option.bind_some, h]
  by_cases e : n = 0
  · subst e; rw [if_pos nI_0]; exact rtZ_1
  · rw [if_neg (nI_ne0 (by omega) (by omega)), if_neg e]; exact rtZ_0
theorem getJ {j c n i : Nat} (h : gI g (0, j) 2 = nI n) (hl : LR g.1 j c n) (hi : i < n) (hn : n < 1000000) (hj : j < 5) : f_Jx4a65c_get_915e3 z (some (0, j)) (nI i) g = some (some (c, i), g) := by
  rcases hl with ⟨h0, -⟩ | ⟨e, h1, h2, -, h3, -, -, h4⟩
  · omega
  · have k1 : gR g (0, j) 1 = some (12 + j, e) := h1
    have k4 : gR g (12 + j, e) i = some (c, i) := h4 i hi
    have k2 : n ≤ gN g (12 + j, e) := h2
    have k3 : gN g (12 + j, e) ≤ 2 * n + 10 := h3
    have hv : (12 ≤ 12 + j ∧ 12 + j < 17) ∧ vp_in (nI i) (gN g (12 + j, e)) := ⟨⟨by omega, by omega⟩, vp_n (by omega) (by omega)⟩
    have ha : aldR (some (12 + j, e)) (nI i) g = some (some (c, i)) := by
      simp only [aldR, if_pos hv, nI_cl (show i < 2147483648 by omega), k4]
    have hlt : nI i < nI n := (nI_ltI (by omega) (by omega)).mpr hi
    have hnn : ¬ nI i < 0 := by
      rw [show (0 : Int32) = nI 0 from rfl, nI_ltI (by omega) (by omega)]; omega
    simp only [f_Jx4a65c_get_915e3, f_J15_checkIndex_7cf53, f_J3_checkIndex_8e157, f_Jx4a65c_elementData_915e3, gI_X, gR_X, Option.bind_some, h, if_neg hnn, if_pos hlt, ick_X, k1, ha]
end EVA
