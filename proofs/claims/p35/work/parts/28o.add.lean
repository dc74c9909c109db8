section ALA
variable {z : Nat}
def alC (V : VV) (q t : Nat) : Nat → Int32
  | 0 => 0
  | l + 1 => if V 55 (30 * q + 5 * t + (l + 1)) = 1 then nI (l + 1) else alC V q t l
end ALA
/-! what is made -/
def Fr (P : Nm → Prop) (g g2 : Hp) : Prop := ∀ m, ¬ P m → gI g2 m = gI g m ∧ gR g2 m = gR g m ∧ gN g2 m = gN g m ∧ (m ∈ gL g2 ↔ m ∈ gL g)
theorem Fr.tr {P Q : Nm → Prop} {a b c : Hp} (h : Fr P a b) (h2 : Fr Q b c) : Fr (fun m => P m ∨ Q m) a c := fun m hm => by
  obtain ⟨a1, a2, a3, a4⟩ := h m (fun q => hm (Or.inl q))
  obtain ⟨b1, b2, b3, b4⟩ := h2 m (fun q => hm (Or.inr q))
  exact ⟨b1.trans a1, b2.trans a2, b3.trans a3, b4.trans a4⟩
theorem Fr.mono {P Q : Nm → Prop} {a b : Hp} (h : Fr P a b) (hq : ∀ m, P m → Q m) : Fr Q a b := fun m hm => h m (fun p => hm (hq m p))
theorem Fr.sI {g : Hp} {n : Nm} {k : Nat} {v : Int32} : Fr (fun m => m = n) g (setI g n k v) := fun m hm => ⟨by funext j; rw [gI_set, if_neg (fun w => hm w.1)], rfl, rfl, Iff.rfl⟩
theorem Fr.sR {g : Hp} {n : Nm} {k : Nat} {v : Option Nm} : Fr (fun m => m = n) g (setR g n k v) := fun m hm => ⟨rfl, by funext j; show (if m = n ∧ j = k then v else gR g m j) = _; rw [if_neg (fun w => hm w.1)], rfl, Iff.rfl⟩
theorem Fr.nN {g : Hp} {n : Nm} {l s : Nat} : Fr (fun m => m = n) g (newN g n l s) := fun m hm => ⟨by funext j; show (if m = n then 0 else gI g m j) = _; rw [if_neg hm], by funext j; show (if m = n then none else gR g m j) = _; rw [if_neg hm], by show (if m = n then l else gN g m) = _; rw [if_neg hm], by show m ∈ gL g ++ [n] ↔ _; simp [hm]⟩
theorem Fr.cR {g : Hp} {a b : Nm} {x y n : Nat} : Fr (fun m => m = b) g (cpR g a x b y n) := fun m hm => ⟨rfl, by funext j; show (if m = b then _ else gR g m j) = _; rw [if_neg hm], rfl, Iff.rfl⟩
section ADD
variable {z : Nat}
theorem addJ {g : Hp} {j c n : Nat} (hs : gI g (0, j) 2 = nI n) (hl : LR g.1 j c n) (hj : j < 5) (hn : n ≤ 400) (hc : c < 11) : ∃ g2, f_Jx4a65c_add_9ea2d z (some (0, j)) (some (c, n)) g = some (1, g2) ∧ gI g2 (0, j) 2 = nI (n + 1) ∧ LR g2.1 j c (n + 1) ∧ Fr (fun m => m = (0, j) ∨ m.1 = 12 + j) g g2 ∧ gc g2 ≤ gc g + 1 ∧ gs g2 ≤ gs g + 820 := by
  unfold f_Jx4a65c_add_9ea2d f_Jx4a65c_add_72be8
  simp only [gI_X, pI_X, gR_X, Option.bind_some, ick_X]
  have f0 : Fr (fun m => m = (0, j) ∨ m.1 = 12 + j) g (setI g (0, j) 0 (gI g (0, j) 0 + 1)) := Fr.sI.mono (fun m h => Or.inl h)
  have s0 : gI (setI g (0, j) 0 (gI g (0, j) 0 + 1)) (0, j) 2 = nI n := by rw [gI_set, if_neg (by simp)]; exact hs
  have hl0 : LR (setI g (0, j) 0 (gI g (0, j) 0 + 1)).1 j c n := hl
  have hcs : gc (setI g (0, j) 0 (gI g (0, j) 0 + 1)) = gc g ∧ gs (setI g (0, j) 0 (gI g (0, j) 0 + 1)) = gs g := ⟨rfl, rfl⟩
  generalize setI g (0, j) 0 (gI g (0, j) 0 + 1) = g0 at *
  rw [s0]
  have fin : ∀ (r : Nm) (g1 : Hp), r.1 = 12 + j → gR g1 (0, j) 1 = some r → n < gN g1 r → gN g1 r ≤ 2 * n + 12 → r ∈ gL g1 → (∀ e2, r.2 < e2 → (12 + j, e2) ∉ gL g1) → (∀ i, i < n → gR g1 r i = some (c, i)) → Fr (fun m => m = (0, j) ∨ m.1 = 12 + j) g g1 → gc g1 ≤ gc g + 1 → gs g1 ≤ gs g + 820 → ∃ g2, (((astR (some r) (nI n) (some (c, n)) g1).bind fun g4 => (putI (some (0, j)) 0 2 (nI n + 1) g4).bind fun g5 => some ((), g5)).bind fun q5 => rtZ 1 q5.2) = some (1, g2) ∧ gI g2 (0, j) 2 = nI (n + 1) ∧ LR g2.1 j c (n + 1) ∧ Fr (fun m => m = (0, j) ∨ m.1 = 12 + j) g g2 ∧ gc g2 ≤ gc g + 1 ∧ gs g2 ≤ gs g + 820 := by
    intro r g1 hr e1 e2 e3 e4 e5 e6 e7 e8 e9
    have ha : astR (some r) (nI n) (some (c, n)) g1 = some (setR g1 r n (some (c, n))) := by
      have : (12 ≤ r.1 ∧ r.1 < 17) ∧ vp_in (nI n) (gN g1 r) ∧ c < 11 := ⟨by omega, vp_n e2 (by omega), hc⟩
      simp only [astR, if_pos this, nI_cl (show n < 2147483648 by omega)]
    rw [ha]
    simp only [Option.bind_some, pI_X, rtZ_1, nI_1]
    refine ⟨_, rfl, by rw [gI_set, if_pos ⟨rfl, rfl⟩], Or.inr ⟨r.2, ?_⟩, ?_, e8, e9⟩
    · have er : (12 + j, r.2) = r := by rw [← hr]
      rw [er]
      have ge : ∀ m i, gR (setR g1 r n (some (c, n))) m i = if m = r ∧ i = n then some (c, n) else gR g1 m i := fun _ _ => rfl
      refine ⟨?_, by show n + 1 ≤ gN g1 r; omega, by show 0 < gN g1 r; omega, by show gN g1 r ≤ _; omega, e4, e5, fun i hi => ?_⟩
      · show gR (setR g1 r n (some (c, n))) (0, j) 1 = some r
        rw [ge, if_neg (fun w => by have := w.1; rw [← this] at hr; have hr2 : 0 = 12 + j := hr; omega), e1]
      · show gR (setR g1 r n (some (c, n))) r i = some (c, i)
        rw [ge]
        by_cases e : i = n
        · rw [if_pos ⟨rfl, e⟩, e]
        · rw [if_neg (fun w => e w.2)]; exact e6 i (by omega)
    · refine ((e7.tr (Fr.sR (g := g1) (n := r) (k := n) (v := some (c, n)))).tr Fr.sI).mono (fun m hm => ?_)
      rcases hm with (hm | hm) | hm
      · exact hm
      · exact Or.inr (by rw [hm]; exact hr)
      · exact Or.inl hm
  rcases hl0 with ⟨h0, h1, h2⟩ | ⟨e, h1, h2, h3, h4, h5, h6, h7⟩
  · have k1 : gR g0 (0, j) 1 = some (17, 0) := h1
    subst h0
    rw [k1]
    have a1 : alen (some (17, 0)) g0 = some 0 := rfl
    have a2 : acq (some (17, 0)) (some (17, 0)) g0 = some true := by simp [acq]
    have a3 : mkR (12 + nix (some (0, j)), 0) (imax 10 (nI 0 + 1)) g0 = some (some (12 + j, 0), newN g0 (12 + j, 0) 10 10) := by
      have e10 : imax 10 (nI 0 + 1) = nI 10 := by decide
      have : (12 ≤ 12 + j ∧ 12 + j < 17) ∧ (12 + j, 0) ∉ gL g0 ∧ ¬ nI 10 < 0 ∧ (nI 10).toNatClampNeg ≤ 100000 := ⟨by omega, h2 0, by decide, by decide⟩
      simp only [mkR, nix, e10]
      rw [if_pos this, nI_cl (by decide)]
    simp only [a1, Option.bind_some]
    rw [if_pos (show nI 0 = 0 from rfl)]
    simp only [f_Jx4a65c_grow_d5877, f_Jx4a65c_grow_92f84, gI_X, gR_X, ick_X, Option.bind_some, s0, k1, a1]
    rw [if_neg (by decide)]
    simp only [Option.bind_some, a2, if_true, a3, pR_X]
    refine fin (12 + j, 0) _ rfl ?_ ?_ ?_ ?_ ?_ (fun i hi => absurd hi (Nat.not_lt_zero _)) ?_ ?_ ?_
    · show (if (0, j) = (0, j) ∧ 1 = 1 then some (12 + j, 0) else _) = _
      rw [if_pos ⟨rfl, rfl⟩]
    · show 0 < (if (12 + j, 0) = (12 + j, 0) then 10 else _)
      rw [if_pos rfl]; decide
    · show (if (12 + j, 0) = (12 + j, 0) then 10 else _) ≤ _
      rw [if_pos rfl]; omega
    · show (12 + j, 0) ∈ gL g0 ++ [(12 + j, 0)]
      simp
    · intro e2 he2
      show (12 + j, e2) ∉ gL g0 ++ [(12 + j, 0)]
      simp only [List.mem_append, List.mem_singleton, not_or]
      exact ⟨h2 e2, fun w => by have := congrArg Prod.snd w; simp at this; omega⟩
    · refine ((f0.tr (Fr.nN (g := g0) (n := (12 + j, 0)) (l := 10) (s := 10))).tr Fr.sR).mono (fun m hm => ?_)
      rcases hm with (hm | hm) | hm
      · exact hm
      · exact Or.inr (by rw [hm])
      · exact Or.inl hm
    · show gc g0 + 1 ≤ _; omega
    · show gs g0 + 10 ≤ _; omega
  · have k1 : gR g0 (0, j) 1 = some (12 + j, e) := h1
    have k2 : n ≤ gN g0 (12 + j, e) := h2
    have k3 : 0 < gN g0 (12 + j, e) := h3
    have k4 : gN g0 (12 + j, e) ≤ 2 * n + 10 := h4
    have k7 : ∀ i, i < n → gR g0 (12 + j, e) i = some (c, i) := h7
    rw [k1]
    have a1 : ∀ g3 : Hp, gN g3 (12 + j, e) = gN g0 (12 + j, e) → alen (some (12 + j, e)) g3 = some (nI (gN g0 (12 + j, e))) := fun g3 h => by
      have : (12 ≤ 12 + j ∧ 12 + j < 17) ∨ 20 ≤ 12 + j := Or.inl ⟨by omega, by omega⟩
      have n17 : ¬ (12 + j, e) = (17, 0) := fun w => by have := congrArg Prod.fst w; simp at this; omega
      simp only [alen, if_neg n17, if_pos this, h]; rfl
    simp only [a1 g0 rfl, Option.bind_some]
    by_cases hf : n = gN g0 (12 + j, e)
    · rw [if_pos (by rw [← hf])]
      have hl2 : 0 < nI (gN g0 (12 + j, e)) := by rw [show (0 : Int32) = nI 0 from rfl, nI_ltI (by omega) (by omega)]; exact k3
      simp only [f_Jx4a65c_grow_d5877, f_Jx4a65c_grow_92f84, gI_X, gR_X, ick_X, Option.bind_some, s0, k1, a1 g0 rfl]
      rw [if_pos hl2]
      have esh : nI (gN g0 (12 + j, e)) >>> (1 &&& 31) = nI (n / 2) := by
        rw [show (1 : Int32) = nI 1 from rfl, shr_nI (by omega) (by decide), ← hf]
      have esub : nI n + 1 - nI (gN g0 (12 + j, e)) = nI 1 := by
        rw [nI_1, ← hf, pk_sub (by omega)]; congr 1; omega
      have emx : imax (nI 1) (nI (n / 2)) = nI (max 1 (n / 2)) := by
        rw [nI_iI 1, nI_iI (n / 2), imax_i (by omega) (by omega) (by omega) (by omega), nI_iI]; congr 1; omega
      have enl : f_J8_newLength_cabcc z (nI (gN g0 (12 + j, e))) (nI n + 1 - nI (gN g0 (12 + j, e))) (nI (gN g0 (12 + j, e)) >>> (1 &&& 31)) g0 = some (nI (n + max 1 (n / 2)), g0) := by
        unfold f_J8_newLength_cabcc
        rw [esub, esh, emx, ← hf, nI_add, if_neg (fun w => by have := (nI_leI (b := 0) (by omega) (by omega)).mp w; omega), show (2147483639 : Int32) = nI 2147483639 from rfl, if_neg (fun w => by have := (nI_ltI (by omega) (by omega)).mp w; omega)]
      have em : mkR (nca (some (12 + j, e)), nix (some (12 + j, e)) + 1) (nI (n + max 1 (n / 2))) g0 = some (some (12 + j, e + 1), newN g0 (12 + j, e + 1) (n + max 1 (n / 2)) (n + max 1 (n / 2))) := by
        have : (12 ≤ 12 + j ∧ 12 + j < 17) ∧ (12 + j, e + 1) ∉ gL g0 ∧ ¬ nI (n + max 1 (n / 2)) < 0 ∧ (nI (n + max 1 (n / 2))).toNatClampNeg ≤ 100000 := ⟨by omega, h6 _ (by omega), by rw [show (0 : Int32) = nI 0 from rfl, nI_ltI (by omega) (by omega)]; omega, by rw [nI_cl (by omega)]; omega⟩
        unfold mkR
        refine (if_pos this).trans ?_
        rw [nI_cl (by omega)]; rfl
      have hne : ¬ (12 + j, e) = (12 + j, e + 1) := fun w => by have := congrArg Prod.snd w; simp at this
      have eN : gN (newN g0 (12 + j, e + 1) (n + max 1 (n / 2)) (n + max 1 (n / 2))) (12 + j, e) = gN g0 (12 + j, e) := by
        show (if (12 + j, e) = (12 + j, e + 1) then _ else _) = _
        rw [if_neg hne]
      have eN2 : gN (newN g0 (12 + j, e + 1) (n + max 1 (n / 2)) (n + max 1 (n / 2))) (12 + j, e + 1) = n + max 1 (n / 2) := by
        show (if (12 + j, e + 1) = (12 + j, e + 1) then _ else _) = _
        rw [if_pos rfl]
      have eR : ∀ i, gR (newN g0 (12 + j, e + 1) (n + max 1 (n / 2)) (n + max 1 (n / 2))) (12 + j, e) i = gR g0 (12 + j, e) i := fun i => by
        show (if (12 + j, e) = (12 + j, e + 1) then none else _) = _
        rw [if_neg hne]
      have emn : imin (nI (gN g0 (12 + j, e))) (nI (n + max 1 (n / 2))) = nI n := by
        rw [← hf, nI_iI n, nI_iI (n + max 1 (n / 2)), imin_i (by omega) (by omega) (by omega) (by omega)]; congr 1; omega
      have ec : cpyR (some (12 + j, e)) 0 (some (12 + j, e + 1)) 0 (nI n) (newN g0 (12 + j, e + 1) (n + max 1 (n / 2)) (n + max 1 (n / 2))) = some (cpR (newN g0 (12 + j, e + 1) (n + max 1 (n / 2)) (n + max 1 (n / 2))) (12 + j, e) 0 (12 + j, e + 1) 0 n) := by
        have z0 : ¬ nI n < 0 := by rw [show (0 : Int32) = nI 0 from rfl, nI_ltI (by omega) (by omega)]; omega
        have c0 : (0 : Int32).toNatClampNeg = 0 := by decide
        unfold cpyR
        simp only [c0, nI_cl (show n < 2147483648 by omega)]
        rw [if_pos ⟨⟨⟨by omega, by omega⟩, by omega, by omega⟩, ⟨by decide, by decide, z0⟩, by rw [eN]; omega, by rw [eN2]; omega, fun i hi w hw => by
          rw [Nat.zero_add, eR, k7 i hi] at hw
          cases hw; exact hc⟩]
      simp only [enl, Option.bind_some, gR_X, k1, f_J7_copyOf_1904c, gclas, if_pos (show 12 ≤ 12 + j ∧ 12 + j < 17 by omega), f_J7_copyOf_6403c]
      rw [show acq (some (19, 0)) (some (19, 0)) g0 = some true by simp [acq]]
      simp only [Option.bind_some, if_true, em, a1 _ eN, emn, ec, pR_X]
      refine fin (12 + j, e + 1) _ rfl ?_ ?_ ?_ ?_ ?_ ?_ ?_ ?_ ?_
      · show (if (0, j) = (0, j) ∧ 1 = 1 then some (12 + j, e + 1) else _) = _
        rw [if_pos ⟨rfl, rfl⟩]
      · rw [show ∀ g3 : Hp, gN (setR g3 (0, j) 1 (some (12 + j, e + 1))) = gN g3 from fun _ => rfl, show ∀ (g3 : Hp) a b x y n, gN (cpR g3 a x b y n) = gN g3 from fun _ _ _ _ _ _ => rfl, eN2]; omega
      · rw [show ∀ g3 : Hp, gN (setR g3 (0, j) 1 (some (12 + j, e + 1))) = gN g3 from fun _ => rfl, show ∀ (g3 : Hp) a b x y n, gN (cpR g3 a x b y n) = gN g3 from fun _ _ _ _ _ _ => rfl, eN2]; omega
      · show (12 + j, e + 1) ∈ gL g0 ++ [(12 + j, e + 1)]
        simp
      · intro e2 he2
        show (12 + j, e2) ∉ gL g0 ++ [(12 + j, e + 1)]
        simp only [List.mem_append, List.mem_singleton, not_or]
        have he3 : e + 1 < e2 := he2
        exact ⟨h6 e2 (by omega), fun w => by have := congrArg Prod.snd w; simp at this; omega⟩
      · intro i hi
        show (if (12 + j, e + 1) = (0, j) ∧ i = 1 then _ else (if (12 + j, e + 1) = (12 + j, e + 1) then va_cpy (gR (newN g0 (12 + j, e + 1) (n + max 1 (n / 2)) (n + max 1 (n / 2))) (12 + j, e)) (gR (newN g0 (12 + j, e + 1) (n + max 1 (n / 2)) (n + max 1 (n / 2))) (12 + j, e + 1)) 0 0 n i else _)) = some (c, i)
        rw [if_neg (fun w => by have := congrArg Prod.fst w.1; simp at this), if_pos rfl, pk_cpy_in (Nat.zero_le _) (by omega), eR, show 0 + (i - 0) = i by omega]
        exact k7 i hi
      · refine (((f0.tr (Fr.nN (g := g0) (n := (12 + j, e + 1)) (l := n + max 1 (n / 2)) (s := n + max 1 (n / 2)))).tr (Fr.cR (a := (12 + j, e)) (b := (12 + j, e + 1)) (x := 0) (y := 0) (n := n))).tr Fr.sR).mono (fun m hm => ?_)
        rcases hm with ((hm | hm) | hm) | hm
        · exact hm
        · exact Or.inr (by rw [hm])
        · exact Or.inr (by rw [hm])
        · exact Or.inl hm
      · show gc g0 + 1 ≤ _; omega
      · show gs g0 + (n + max 1 (n / 2)) ≤ _; omega
    · rw [if_neg (fun w => hf (nI_inj2 w (by omega) (by omega)))]
      simp only [Option.bind_some]
      exact fin (12 + j, e) g0 rfl k1 (by omega) (by omega) h5 h6 k7 f0 (by omega) (by omega)
end ADD
