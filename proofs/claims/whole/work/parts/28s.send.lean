section SEN
variable {z : Nat}
/-- a message more -/
def sndV (V : VV) (a b c : Int32) : VV := vs (if nms V < 400 then vs (vs (vs (vs V 54 (4 * nms V) a) 54 (4 * nms V + 1) b) 54 (4 * nms V + 2) c) 54 (4 * nms V + 3) (V 10 5) else V) 10 24 (nI (nms V + 1))
theorem snd_ev (V : VV) (a b c : Int32) : Ev [54] [24] V (sndV V a b c) := by
  unfold sndV
  by_cases h : nms V < 400
  · rw [if_pos h]
    exact (((((Ev.rf _ _ V).s (by decide) (by decide)).s (by decide) (by decide)).s (by decide) (by decide)).s (by decide) (by decide)).t (by decide)
  · rw [if_neg h]; exact (Ev.rf _ _ V).t (by decide)
theorem snd_n {V : VV} {a b c : Int32} (h : nms V ≤ 2000000) : nms (sndV V a b c) = nms V + 1 := by
  show (sndV V a b c 10 24).toNatClampNeg = _
  unfold sndV
  rw [vs_eq]; exact nI_cl (by omega)
theorem sayA {g : Hp} (h : SM g) {m : Nat} (hn : m < 400) (W : VV) (j : Nat) (v : Int32) (hj : j < 4) : astI (some (54, 0)) (nI (4 * m + j)) v (wM g W) = some (wM g (vs W 54 (4 * m + j) v)) := by
  have hv : vp_in (nI (4 * m + j)) (mLen 54) := vp_n (N := 1600) (by omega) (by decide)
  rw [as_M h (by decide) (by decide) hv, nI_cl (show 4 * m + j < 2147483648 by omega)]
theorem sayI {g : Hp} (W : VV) {m : Nat} (hW : W 10 24 = nI m) : getI (some (10, 0)) 10 24 (wM g W) = some (nI m) := by rw [gi_M, hW]
theorem sayE {g : Hp} (W : VV) {m : Nat} (hW : W 10 24 = nI m) : ((getI (some (10, 0)) 10 24 (wM g W)).bind fun x16 => (putI (some (10, 0)) 10 24 (x16 + 1) (wM g W)).bind fun g17 => some ((), g17)) = some ((), wM g (vs W 10 24 (nI (m + 1)))) := by
  rw [sayI W hW]
  simp only [Option.bind_some, pu_M, nI_1]
theorem sayL {m : Nat} (hm : m ≤ 2000000) : (400 : Int32) ≤ nI m ↔ 400 ≤ m := nI_leI (a := 400) (by decide) (by omega)
theorem ob {α β : Type} (a : α) (F : α → Option β) : (some a).bind F = F a := by
  apply Option.ext
  intro b
  exact Iff.rfl
theorem say9 {g : Hp} {V : VV} (h : SM g) (hms : V 10 24 = nI (nms V)) (h2 : nms V ≤ 2000000) (a b c : Int32) : f_X9_say z (some (10, 0)) a b c (wM g V) = some ((), wM g (sndV V a b c)) := by
  unfold f_X9_say sndV
  generalize nms V = m at hms h2 ⊢
  have hA : m < 400 → ∀ (W : VV) (j : Nat) (v : Int32), j < 4 → astI (some (54, 0)) (nI (4 * m + j)) v (wM g W) = some (wM g (vs W 54 (4 * m + j) v)) := fun hn W j v hj => sayA h hn W j v hj
  have e0 : (4 : Int32) * nI m = nI (4 * m) := by rw [show (4 : Int32) = nI 4 from rfl, pk_mul]
  have e1 : nI (4 * m) + 1 = nI (4 * m + 1) := nI_1 _
  have e2 : nI (4 * m) + 2 = nI (4 * m + 2) := by rw [show (2 : Int32) = nI 2 from rfl, nI_add]
  have e3 : nI (4 * m) + 3 = nI (4 * m + 3) := by rw [show (3 : Int32) = nI 3 from rfl, nI_add]
  have hI : ∀ W : VV, W 10 24 = nI m → getI (some (10, 0)) 10 24 (wM g W) = some (nI m) := fun W hW => sayI W hW
  have hend := fun (W : VV) (hW : W 10 24 = nI m) => sayE (g := g) W hW
  rw [hI V hms]
  simp only [ob]
  by_cases hn : m < 400
  · have hle : ¬ (400 : Int32) ≤ nI m := fun w => by have := (sayL h2).mp w; omega
    rw [if_neg hle, if_pos hn]
    have hA0 : ∀ (W : VV) (v : Int32), astI (some (54, 0)) (nI (4 * m)) v (wM g W) = some (wM g (vs W 54 (4 * m) v)) := fun W v => hA hn W 0 v (by decide)
    have hR : ∀ W : VV, getR (some (10, 0)) 10 25 (wM g W) = some (some (54, 0)) := fun W => gr_M h
    have q1 : vs V 54 (4 * m) a 10 24 = nI m := (congrFun (vs_ne (show 10 ≠ 54 by decide)) 24).trans hms
    have q2 : vs (vs V 54 (4 * m) a) 54 (4 * m + 1) b 10 24 = nI m := (congrFun (vs_ne (show 10 ≠ 54 by decide)) 24).trans q1
    have q3 : vs (vs (vs V 54 (4 * m) a) 54 (4 * m + 1) b) 54 (4 * m + 2) c 10 24 = nI m := (congrFun (vs_ne (show 10 ≠ 54 by decide)) 24).trans q2
    have q4 : vs (vs (vs (vs V 54 (4 * m) a) 54 (4 * m + 1) b) 54 (4 * m + 2) c) 54 (4 * m + 3) (V 10 5) 10 24 = nI m := (congrFun (vs_ne (show 10 ≠ 54 by decide)) 24).trans q3
    have q5 : vs (vs (vs V 54 (4 * m) a) 54 (4 * m + 1) b) 54 (4 * m + 2) c 10 5 = V 10 5 := by rw [vs_ne (by decide), vs_ne (by decide), vs_ne (by decide)]
    rw [hR]
    simp only [ob]
    rw [e0, hA0]
    simp only [ob]
    rw [hR, hI _ q1]
    simp only [ob]
    rw [e0, e1, hA hn _ 1 b (by decide)]
    simp only [ob]
    rw [hR, hI _ q2]
    simp only [ob]
    rw [e0, e2, hA hn _ 2 c (by decide)]
    simp only [ob]
    rw [hR, hI _ q3, gi_M, q5]
    simp only [ob]
    rw [e0, e3, hA hn _ 3 _ (by decide)]
    simp only [ob]
    exact hend _ q4
  · have hle : (400 : Int32) ≤ nI m := (sayL h2).mpr (by omega)
    rw [if_pos hle, if_neg hn]
    exact hend V hms
theorem send8 {g : Hp} {V : VV} (h : IN g V) (h2 : nms V ≤ 2000000) (a b c : Int32) : ∃ g2, f_X8_send z (some (9, 0)) a b c g = some ((), g2) ∧ IN g2 (sndV V a b c) ∧ Fr (PC 4 [2, 9, 16]) g g2 ∧ ∀ k, k ≠ 12 → gI g2 (9, 0) k = gI g (9, 0) k := by
  have hev := snd_ev V a b c
  have n2 := snd_n (V := V) (a := a) (b := b) (c := c) h2
  have hv2 : VI (sndV V a b c) := h.v.cg hev (by decide) (by decide) (by rw [n2]; unfold sndV; rw [vs_eq])
  have hvf : VF (sndV V a b c) := h.vf.cg hev (by decide) (by decide)
  have ek : kp (sndV V a b c) = if nms V < 400 then kp V + 1 else kp V := by
    unfold kp; rw [n2]; repeat' split
    all_goals omega
  have ck := kp_b V
  have e24 : sndV V a b c 10 24 = nI (nms V + 1) := by unfold sndV; exact vs_eq
  have fin : ∀ gb, Fr (PC 4 [2, 16]) g gb → RCm gb.1 (kp (sndV V a b c)) → gI gb (0, 4) 2 = nI (kp (sndV V a b c)) → (∀ i k, i < kp (sndV V a b c) → k < 4 → gI gb (2, i) k = sndV V a b c 54 (4 * i + k)) → gc gb ≤ gc g + 2 → gs gb ≤ gs g + 824 → (nms V < 400 ∨ gb = g) → ∃ g2, ((getI (some (9, 0)) 9 12 gb).bind fun x9 => (putI (some (9, 0)) 9 12 (x9 + 1) gb).bind fun g10 => some ((), g10)) = some ((), g2) ∧ IN g2 (sndV V a b c) ∧ Fr (PC 4 [2, 9, 16]) g g2 ∧ ∀ k, k ≠ 12 → gI g2 (9, 0) k = gI g (9, 0) k := by
    intro gb F1 hM hz4 hm0 c1 c2 hor
    have f12 : gI gb (9, 0) 12 = nI (nms V) := (fr_I F1 (by decide) (by decide)).trans (h.f12.trans h.v.ms)
    simp only [gi_C, pu_C, Option.bind_some, f12, nI_1]
    have F : Fr (PC 4 [2, 9, 16]) g (setI gb (9, 0) 12 (nI (nms V + 1))) := (F1.tr (Fr.sI (k := 12) (v := nI (nms V + 1)))).mono (fun m hm => by
      rcases hm with (e | e) | e
      · exact Or.inl e
      · exact Or.inr (by simp at e ⊢; omega)
      · exact Or.inr (by rw [e]; simp))
    have f0 : ∀ j, j ≠ 4 → gI (setI gb (9, 0) 12 (nI (nms V + 1))) (0, j) 2 = gI g (0, j) 2 := fun j hj => congrFun (F (0, j) (PC.n0 (by decide) hj)).1 2
    refine ⟨_, rfl, ?_, F, fun k hk => by rw [gI_set, if_neg (by simp [hk])]; exact fr_I F1 (by decide) (by decide)⟩
    have hme : IN (wM (setI gb (9, 0) 12 (nI (nms V + 1))) (sndV V a b c)) (sndV V a b c) := by
      have hrc : RC1 gb.1 := RC1.fr F1 (by decide) h.b1
      have F2 : Fr (PC 4 [2, 16]) g gb := F1
      refine ⟨trivial, ?_, hv2, ⟨hrc, ?_, ?_, ?_, ?_, hM⟩, ?_, ?_, ?_, hvf⟩
      · have := fr_SM F1 (by decide) h.s
        exact this
      · rw [nst_e (hev.2 6 (by decide))]; exact RCs.fr F1 (by decide) (by decide) h.r.2.1
      · rw [ntw_e (hev.2 9 (by decide))]; exact RCt.fr F1 (by decide) (by decide) h.r.2.2.1
      · rw [npk_e (hev.2 15 (by decide))]; exact RCp.fr F1 (by decide) (by decide) h.r.2.2.2.1
      · rw [nqk_e (hev.2 20 (by decide))]; exact RCq.fr F1 (by decide) (by decide) h.r.2.2.2.2.1
      · intro n k v hz hk
        rw [wM_C (cI_cls hk)]
        obtain ⟨c2, i⟩ := n
        by_cases c0 : c2 = 0
        · subst c0
          by_cases i4 : i = 4
          · subst i4
            simp only [cI] at hk
            simp at hk
            obtain ⟨rfl, hk⟩ := hk
            rw [gI_set, if_neg (by simp), hz4]; exact hk
          · have hk' : cI V (0, i) k = some v := by
              rw [← hk]
              simp only [cI, if_true, nst_e (hev.2 6 (by decide)), ntw_e (hev.2 9 (by decide)), npk_e (hev.2 15 (by decide)), nqk_e (hev.2 20 (by decide)), i4, if_false]
            have hk2 : k = 2 := by
              by_cases e : k = 2
              · exact e
              · simp [cI, e] at hk'
            subst hk2
            rw [f0 i i4]; exact h.i hk' hz
        by_cases c2e : c2 = 2
        · subst c2e
          simp only [cI] at hk
          simp at hk
          rw [gI_set, if_neg (by simp), hm0 i k hk.1.1 hk.1.2]; exact hk.2
        by_cases c9 : c2 = 9
        · subst c9
          have hi : i = 0 := hz (by simp)
          subst hi
          by_cases e : k = 12
          · subst e
            simp [cI] at hk
            rw [gI_set, if_pos ⟨rfl, rfl⟩, ← e24]; exact hk
          · rw [gI_set, if_neg (by simp [e]), fr_I F1 (by decide) (by decide)]
            refine h.i (v := v) ?_
            rw [← hk]
            simp [cI, e, hev.2 0 (by decide), hev.2 5 (by decide), hev.2 4 (by decide), hev.2 2 (by decide)]
        · have hcl := cI_cls hk
          have h16 : c2 ≠ 16 := fun w => by subst w; exact absurd (show 16 ∈ [0, 2, 3, 4, 5, 6, 7, 9, 20, 23, 24, 25, 26, 27, 28] from hcl) (by decide)
          rw [fr_I F (by simp [c2e, c9, h16]) c0]
          rw [cI_ev hev (C := [0, 2, 9]) (by decide) (n := (c2, i)) (by simp [c0, c2e, c9])] at hk
          exact h.i hk hz
      · have := (h.h.cg (g1 := setI gb (9, 0) 12 (nI (nms V + 1))) (hev.h (by decide) (by decide)) (fun k => fr_I F (by decide) (by decide)) (fun k => fr_I F (by decide) (by decide)) (fun k => fr_I F (by decide) (by decide)))
        exact this.w
      · obtain ⟨d1, d2⟩ := h.c
        have x1 : gc (wM (setI gb (9, 0) 12 (nI (nms V + 1))) (sndV V a b c)) = gc gb := rfl
        have x2 : gs (wM (setI gb (9, 0) 12 (nI (nms V + 1))) (sndV V a b c)) = gs gb := rfl
        have x3 : cnt (sndV V a b c) = if nms V < 400 then cnt V + 1 else cnt V := by
          unfold cnt
          rw [ek, nst_e (hev.2 6 (by decide)), ntw_e (hev.2 9 (by decide)), npk_e (hev.2 15 (by decide)), nqk_e (hev.2 20 (by decide))]
          split <;> omega
        unfold CB
        rw [x1, x2, x3]
        by_cases w : nms V < 400
        · rw [if_pos w]; omega
        · rw [if_neg w]
          rcases hor with w2 | w2
          · exact absurd w2 w
          · rw [w2]; exact ⟨d1, d2⟩
    exact hme.unw
  by_cases hn : nms V < 400
  · have ekn : kp V = nms V := by unfold kp; rw [if_pos (by omega)]
    rw [if_pos hn] at ek
    have hnm : (2, kp V) ∉ gL g := h.r.2.2.2.2.2.2 (kp V) (Nat.le_refl _)
    have F1 : ∀ f3 : Int32, Fr (fun m => m = (2, kp V)) g (setI (setI (setI (setI (newN g (2, kp V) 0 4) (2, kp V) 0 a) (2, kp V) 1 b) (2, kp V) 2 c) (2, kp V) 3 f3) := fun f3 => ((((Fr.nN (g := g) (n := (2, kp V)) (l := 0) (s := 4)).tr (Fr.sI (k := 0) (v := a))).tr (Fr.sI (k := 1) (v := b))).tr (Fr.sI (k := 2) (v := c))).tr (Fr.sI (k := 3) (v := f3)) |>.mono (fun m hm => by rcases hm with (((e | e) | e) | e) | e <;> exact e)
    have hga := F1 (V 10 5)
    generalize hgae : setI (setI (setI (setI (newN g (2, kp V) 0 4) (2, kp V) 0 a) (2, kp V) 1 b) (2, kp V) 2 c) (2, kp V) 3 (V 10 5) = ga at hga
    have hgc : gc ga = gc g + 1 ∧ gs ga = gs g + 4 := by rw [← hgae]; exact ⟨rfl, rfl⟩
    have hgv : gI ga (2, kp V) 0 = a ∧ gI ga (2, kp V) 1 = b ∧ gI ga (2, kp V) 2 = c ∧ gI ga (2, kp V) 3 = V 10 5 := by rw [← hgae]; simp [gI_set]
    have A2 : Fr (PC 5 [2]) g ga := hga.mono (fun m hm => Or.inr (by rw [hm]; simp))
    have s1 : gI ga (0, 4) 2 = nI (kp V) := (congrFun (A2 (0, 4) (PC.n0 (by decide) (by decide))).1 2).trans h.c4
    obtain ⟨g2, b1, b2, b3, b4, b5, b6⟩ := addJ (z := z) s1 (LR.fr A2 (by decide) (by decide) (by decide) h.r.2.2.2.2.2.1) (by decide) (by omega) (by decide)
    have Fb : Fr (PC 4 [2, 16]) g g2 := (hga.tr b4).mono (fun m hm => by
      rcases hm with e | e | e
      · exact Or.inr (by rw [e]; simp)
      · exact Or.inl e
      · exact Or.inr (by rw [e]; simp))
    obtain ⟨g3, e1, e2⟩ := fin g2 Fb (by
        rw [ek]
        refine ⟨b3, fun i hi q => ?_⟩
        have q1 := (b4 (2, i) (fun w => by rcases w with w | w <;> simp at w)).2.2.2.mp q
        have q2 := (hga (2, i) (fun w => by have := congrArg Prod.snd w; simp at this; omega)).2.2.2.mp q1
        exact h.r.2.2.2.2.2.2 i (by omega) q2) (by rw [ek]; exact b2) (fun i k hi hk => by
        rw [(b4 (2, i) (fun w => by rcases w with w | w <;> simp at w)).1]
        by_cases e : i = kp V
        · rw [e]
          unfold sndV
          rw [if_pos hn, vs_ne (by decide), ekn]
          obtain ⟨v0, v1, v2, v3⟩ := hgv
          rw [ekn] at v0 v1 v2 v3
          rcases (by omega : k = 0 ∨ k = 1 ∨ k = 2 ∨ k = 3) with rfl | rfl | rfl | rfl
          · rw [v0]; simp [vs]
          · rw [v1]; simp [vs]
          · rw [v2]; simp [vs]
          · rw [v3]; simp [vs]
        · rw [(hga (2, i) (fun w => e (congrArg Prod.snd w))).1, h.m0 (by omega) hk]
          unfold sndV
          rw [if_pos hn, vs_ne (by decide), vs_nk (by omega), vs_nk (by omega), vs_nk (by omega), vs_nk (by omega)]) (by omega) (by omega) (Or.inl hn)
    refine ⟨g3, ?_, e2⟩
    rw [← e1]
    have f10 : ∀ g4 : Hp, Fr (fun m => m = (2, kp V)) g g4 → getI (some (9, 0)) 9 10 g4 = some (V 10 5) := fun g4 hf => by
      rw [gi_C, congrFun (hf (9, 0) (fun w => by have := congrArg Prod.fst w; simp at this)).1 10, h.f10]
    simp only [f_X8_send, gr_C h.b1, cRef, Option.bind_some, ick_X, sizeJ h.c4]
    rw [show (400 : Int32) = nI 400 from rfl, if_neg (fun w => by have := (nI_leI (by omega) (by omega)).mp w; omega), lsz_e h.c4 (by omega), mkO_X hnm]
    simp only [Option.bind_some, nnl_X, f_X1_init, nnu, pI_X, flds, List.length]
    rw [show (0 + 1 + 1 + 1 + 1 : Nat) = 4 from rfl, f10 _ Fr.nN]
    simp only [Option.bind_some, ick_X, hgae, b1]
  · rw [if_neg hn] at ek
    obtain ⟨g3, e1, e2⟩ := fin g (show Fr (PC 4 [2, 16]) g g from fun m hm => ⟨rfl, rfl, rfl, Iff.rfl⟩) (by rw [ek]; exact h.r.2.2.2.2.2) (by rw [ek]; exact h.c4) (fun i k hi hk => by
        rw [h.m0 (by omega) hk]
        unfold sndV
        rw [if_neg hn, vs_ne (by decide)]) (by omega) (by omega) (Or.inr rfl)
    refine ⟨g3, ?_, e2⟩
    rw [← e1]
    have e400 : kp V = 400 := by unfold kp; split <;> omega
    simp only [f_X8_send, gr_C h.b1, cRef, Option.bind_some, ick_X, sizeJ h.c4]
    rw [e400, if_pos (by decide)]
    rfl
end SEN
