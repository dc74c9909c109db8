/-! warn: the class -/
def PCl (m : Nm) : Prop := m.1 ≠ 10 ∧ m.1 < 40
theorem PC.cl {j : Nat} {C : List Nat} (hC : noM C = true) {m : Nm} (h : PC j C m) : PCl m := by
  rcases h with h | h
  · rw [h]; exact ⟨show 0 ≠ 10 by decide, show 0 < 40 by decide⟩
  · have := List.all_eq_true.mp hC m.1 h
    simpa [PCl] using this
theorem Fr.rf {P : Nm → Prop} (g : Hp) : Fr P g g := fun _ _ => ⟨rfl, rfl, rfl, Iff.rfl⟩
theorem Fr.cl {j : Nat} {C : List Nat} {g g2 : Hp} (h : Fr (PC j C) g g2) (hC : noM C = true) : Fr PCl g g2 := h.mono (fun _ hm => PC.cl hC hm)
theorem Fr.t {P : Nm → Prop} {a b c : Hp} (h : Fr P a b) (h2 : Fr P b c) : Fr P a c := (h.tr h2).mono (fun _ hm => hm.elim id id)
theorem Ch.cl {C : List Nat} {g g2 : Hp} (h : Ch C g g2) (hC : noM C = true) : Fr PCl g g2 := fun m hm => by
  have hn : m.1 ∉ C := noM_x hC (by unfold PCl at hm; omega)
  exact ⟨funext fun k => h.i hn, congrFun h.r m, congrFun h.n m, by rw [h.l]⟩
theorem fr_mmP {g g2 : Hp} {V : VV} (hf : Fr PCl g g2) (hg : wM g V = g) : wM g2 V = g2 := by
  have e : ∀ n k, gI (wM g V) n k = gI g n k := fun n k => by rw [hg]
  have : (fun (n : Nm) k => if n.2 = 0 ∧ (n.1 = 10 ∨ 40 ≤ n.1) then V n.1 k else gI g2 n k) = g2.2.1 := by
    funext n k
    by_cases hn : n.2 = 0 ∧ (n.1 = 10 ∨ 40 ≤ n.1)
    · rw [if_pos hn]
      have h1 := e n k
      have h2 := congrFun (hf n (fun w => by unfold PCl at w; omega)).1 k
      have h3 : gI (wM g V) n k = V n.1 k := by simp [wM, gI, hn]
      show _ = gI g2 n k
      rw [h2, ← h1, h3]
    · rw [if_neg hn]; rfl
  unfold wM
  rw [this]
theorem bt_c {f f' : Nat → Bool} (h : ∀ k, 1 ≤ k → k < 5 → f k = f' k) : bt f = bt f' := by
  unfold bt
  rw [h 1 (by decide) (by decide), h 2 (by decide) (by decide), h 3 (by decide) (by decide), h 4 (by decide) (by decide)]
section WAC
variable {z : Nat}
theorem IN.w55 {g g1 : Hp} {V : VV} (h : IN g V) {q t l : Nat} (hq : q < nqk V) (ht : t < 6) (h5 : l < 5) {v : Int32} (hv : v = 0 ∨ v = 1 ∨ v = 2) (hch : Ch [27, 28] g g1) (h27 : ∀ i k, i < nqk V → k < 6 → gI g1 (27, i) k = nI (bt (toldF (vs V 55 (30 * q + 5 * t + l) v) i k))) (h28 : ∀ i k, i < nqk V → k < 6 → gI g1 (28, i) k = nI (bt (backF (vs V 55 (30 * q + 5 * t + l) v) i k))) : IN g1 (vs V 55 (30 * q + 5 * t + l) v) := by
  have hev : Ev [55] [] V (vs V 55 (30 * q + 5 * t + l) v) := (Ev.rf _ _ V).s (by decide) (by decide)
  have nq : nqk (vs V 55 (30 * q + 5 * t + l) v) = nqk V := nqk_e (hev.2 20 (by decide))
  refine (h.upd hch hev (by decide) (by decide) (h.v.s55 hv) (fun n k v hz hn hk => ?_) (h.h.cg (hev.h (by decide) (by decide)) (fun k => hch.i (by decide)) (fun k => hch.i (by decide)) (fun k => hch.i (by decide))) ?_).unw
  · obtain ⟨c, i⟩ := n
    simp only [List.mem_cons, List.not_mem_nil, or_false] at hn
    rcases hn with rfl | rfl
    · simp only [cI, nq] at hk
      simp at hk
      rw [h27 i k hk.1.1 hk.1.2]; exact hk.2
    · simp only [cI, nq] at hk
      simp at hk
      rw [h28 i k hk.1.1 hk.1.2]; exact hk.2
  · unfold VF
    rw [nq, nst_e (hev.2 6 (by decide)), hev.1 60 (by decide) (by decide), hev.1 43 (by decide) (by decide), hev.1 44 (by decide) (by decide)]
    refine ⟨h.vf.1, fun q2 h3 h4 j hj => ?_⟩
    rw [vs_nk (by omega)]
    exact h.vf.2 q2 h3 h4 j hj
theorem tell8 {g : Hp} {V : VV} (h : IN g V) {q t l : Nat} (hq : q < nqk V) (ht : t < 6) (h1 : 1 ≤ l) (h5 : l < 5) (e : V 55 (30 * q + 5 * t + l) = 0) : ∃ g1, f_X3_tell z (some (4, q)) (nI t) (nI l) g = some ((), g1) ∧ IN g1 (vs V 55 (30 * q + 5 * t + l) 1) ∧ Ch [27, 28] g g1 := by
  obtain ⟨-, r4, r5, -, n27, n28⟩ := h.r.2.2.2.2.1.2.1 q hq
  have hch : Ch [27, 28] g (setI g (27, q) t (nI (bt (fun k => if k = l then true else toldF V q t k)))) := Ch.set (by simp)
  refine ⟨_, ?_, h.w55 hq ht h5 (Or.inr (Or.inl rfl)) hch (fun i k hi hk => ?_) (fun i k hi hk => ?_), hch⟩
  · simp only [f_X3_tell, gR_X, show gR g (4, q) 4 = some (27, q) from r4, Option.bind_some, ald_X (show gN g (27, q) = 6 from n27) (by decide) (by decide) ht (by decide), h.q27 hq ht, bt_set _ h1 h5, ast_X (show gN g (27, q) = 6 from n27) (by decide) (by decide) ht (by decide)]
  · by_cases w : i = q ∧ k = t
    · obtain ⟨rfl, rfl⟩ := w
      rw [gI_set, if_pos ⟨rfl, rfl⟩]
      congr 1
      refine bt_c (fun j hj1 hj2 => ?_)
      by_cases ej : j = l
      · subst ej
        rw [if_pos rfl]; unfold toldF; rw [vs_eq]; rfl
      · rw [if_neg ej]; unfold toldF; rw [vs_nk (by omega)]
    · rw [gI_set, if_neg (fun c => w ⟨congrArg Prod.snd c.1, c.2⟩), h.q27 hi hk]
      congr 1
      refine bt_c (fun j hj1 hj2 => ?_)
      unfold toldF
      rw [vs_nk (by omega)]
  · rw [gI_set, if_neg (by simp), h.q28 hi hk]
    congr 1
    refine bt_c (fun j hj1 hj2 => ?_)
    unfold backF
    by_cases w : 30 * i + 5 * k + j = 30 * q + 5 * t + l
    · rw [w, vs_eq, e]; rfl
    · rw [vs_nk w]
theorem back8 {g : Hp} {V : VV} (h : IN g V) {q t l : Nat} (hq : q < nqk V) (ht : t < 6) (h1 : 1 ≤ l) (h5 : l < 5) (e : V 55 (30 * q + 5 * t + l) = 1) : ∃ g1, f_X3_takeBack z (some (4, q)) (nI t) (nI l) g = some ((), g1) ∧ IN g1 (vs V 55 (30 * q + 5 * t + l) 2) ∧ Ch [27, 28] g g1 := by
  obtain ⟨-, r4, r5, -, n27, n28⟩ := h.r.2.2.2.2.1.2.1 q hq
  have hch : Ch [27, 28] g (setI g (28, q) t (nI (bt (fun k => if k = l then true else backF V q t k)))) := Ch.set (by simp)
  refine ⟨_, ?_, h.w55 hq ht h5 (Or.inr (Or.inr rfl)) hch (fun i k hi hk => ?_) (fun i k hi hk => ?_), hch⟩
  · simp only [f_X3_takeBack, gR_X, show gR g (4, q) 5 = some (28, q) from r5, Option.bind_some, ald_X (show gN g (28, q) = 6 from n28) (by decide) (by decide) ht (by decide), h.q28 hq ht, bt_set _ h1 h5, ast_X (show gN g (28, q) = 6 from n28) (by decide) (by decide) ht (by decide)]
  · rw [gI_set, if_neg (by simp), h.q27 hi hk]
    congr 1
    refine bt_c (fun j hj1 hj2 => ?_)
    unfold toldF
    by_cases w : 30 * i + 5 * k + j = 30 * q + 5 * t + l
    · rw [w, vs_eq, e]; rfl
    · rw [vs_nk w]
  · by_cases w : i = q ∧ k = t
    · obtain ⟨rfl, rfl⟩ := w
      rw [gI_set, if_pos ⟨rfl, rfl⟩]
      congr 1
      refine bt_c (fun j hj1 hj2 => ?_)
      by_cases ej : j = l
      · subst ej
        rw [if_pos rfl]; unfold backF; rw [vs_eq]; rfl
      · rw [if_neg ej]; unfold backF; rw [vs_nk (by omega)]
    · rw [gI_set, if_neg (fun c => w ⟨congrArg Prod.snd c.1, c.2⟩), h.q28 hi hk]
      congr 1
      refine bt_c (fun j hj1 hj2 => ?_)
      unfold backF
      rw [vs_nk (by omega)]
theorem st_f {V : VV} {q t l : Nat} (e : V 55 (30 * q + 5 * t + l) = 0) : stV V false q t l = sndV (vs V 55 (30 * q + 5 * t + l) 1) (nI t) (nI q) (nI l) := by
  unfold stV
  rw [e, snd_vs, if_neg (by decide), show (0 : Int32) + 1 = 1 from by decide]
theorem st_t {V : VV} {q t l : Nat} (e : V 55 (30 * q + 5 * t + l) = 1) : stV V true q t l = sndV (vs V 55 (30 * q + 5 * t + l) 2) (nI t) (nI q) (0 - nI l) := by
  unfold stV
  rw [e, snd_vs, if_pos rfl, show (1 : Int32) + 1 = 2 from by decide]
theorem nms55 {V : VV} {k : Nat} {v : Int32} : nms (vs V 55 k v) = nms V := nms_e (by rw [vs_ne (by decide)])
theorem tellL {q t : Nat} {fe : Int32} : ∀ (m n : Nat) (g : Hp) (V : VV) (v5 : Int32), m ≤ 4 → m < n → IN g V → q < nqk V → t < ntw V → nms V + m ≤ 1999990 → ∃ g2, f_X8_tellFelt_26_L z fe (some (4, q)) (some (9, 0)) (nI t) (nI q) n (nI (5 - m)) v5 g = some (5, v5 + (wL false q t fe m V).2, g2) ∧ IN g2 (wL false q t fe m V).1 ∧ Fr PCl g g2
  | m, 0, _, _, _, _, h, _, _, _, _ => absurd h (Nat.not_lt_zero _)
  | 0, n + 1, g, V, v5, _, _, h, _, _, _ => by
    refine ⟨g, ?_, h, Fr.rf g⟩
    show f_X8_tellFelt_26_b z fe (some (4, q)) (some (9, 0)) (nI t) (nI q) (f_X8_tellFelt_26_L z fe (some (4, q)) (some (9, 0)) (nI t) (nI q) n) (nI 5) v5 g = _
    unfold f_X8_tellFelt_26_b
    rw [if_pos (by decide), wL_0, Int32.add_zero]
    rfl
  | m + 1, n + 1, g, V, v5, hm, hn, h, hq, ht, hs => by
    have ht6 := h.v.tw.2
    have hl : 5 - (m + 1) = 4 - m := by omega
    have hl2 : 4 - m + 1 = 5 - m := by omega
    have w1 : 1 ≤ 4 - m := by omega
    have w5 : 4 - m < 5 := by omega
    rw [hl]
    show ∃ g2, f_X8_tellFelt_26_b z fe (some (4, q)) (some (9, 0)) (nI t) (nI q) (f_X8_tellFelt_26_L z fe (some (4, q)) (some (9, 0)) (nI t) (nI q) n) (nI (4 - m)) v5 g = _ ∧ _
    unfold f_X8_tellFelt_26_b
    rw [show (4 : Int32) = nI 4 from rfl, if_neg (fun w => by have := (nI_ltI (by omega) (by omega)).mp w; omega), nI_1, hl2]
    simp only [gr_C h.b1, cRef, Option.bind_some, ald_X (show gN g (23, 0) = 6 from h.b1.2.2.2.2.1) (by decide) (by decide) (show 4 - m < 6 by omega) (by decide), h.ne (show 4 - m < 6 by omega), ick_X, (told3 (z := z) h hq (show t < 6 by omega) w1 w5).1]
    have hno : ¬ wA V false q t fe (4 - m) → ∃ g2, f_X8_tellFelt_26_L z fe (some (4, q)) (some (9, 0)) (nI t) (nI q) n (nI (5 - m)) v5 g = some (5, v5 + (wL false q t fe (m + 1) V).2, g2) ∧ IN g2 (wL false q t fe (m + 1) V).1 ∧ Fr PCl g g2 := fun w => by
      rw [wL_n w]
      exact tellL (fe := fe) m n g V v5 (by omega) (by omega) h hq ht (by omega)
    by_cases hf : V 45 (4 - m) ≤ fe
    · rw [if_neg (Int32.not_lt.mpr hf)]
      by_cases e0 : V 55 (30 * q + 5 * t + (4 - m)) = 0
      · have hw : wA V false q t fe (4 - m) := Or.inr ⟨rfl, hf, e0⟩
        have ef : ¬ toldF V q t (4 - m) = true := by unfold toldF; simp [e0]
        obtain ⟨g1, a1, a2, a3⟩ := tell8 (z := z) h hq (show t < 6 by omega) w1 w5 e0
        obtain ⟨g2, b1, b2, b3, -⟩ := send8 (z := z) a2 (show nms (vs V 55 (30 * q + 5 * t + (4 - m)) 1) ≤ 2000000 by rw [nms55]; omega) (nI t) (nI q) (nI (4 - m))
        rw [← st_f e0] at b2
        have s := st_g (V := V) h.v (show nms V ≤ 2000000 by omega) false (wA_c hw)
        have s2 := s.2.2
        obtain ⟨g3, c1, c2, c3⟩ := tellL (fe := fe) m n g2 (stV V false q t (4 - m)) (v5 + 1) (by omega) (by omega) b2 (by rw [s.nq]; exact hq) (by rw [s.nt]; exact ht) (by omega)
        refine ⟨g3, ?_, ?_, ((a3.cl (by decide)).t (b3.cl (by decide))).t c3⟩
        · simp only [if_neg ef, if_true, a1, b1, Option.bind_some, c1, wL_y hw]
          rw [Int32.add_assoc]
        · rw [wL_y hw]; exact c2
      · have ef : toldF V q t (4 - m) = true := by unfold toldF; simp [e0]
        simp only [if_pos ef]
        rw [if_neg (by decide)]
        refine hno (fun w => ?_)
        rcases w with ⟨w, -⟩ | ⟨-, -, w⟩
        · exact absurd w (by decide)
        · exact e0 w
    · rw [if_pos (Int32.not_le.mp hf)]
      refine hno (fun w => ?_)
      rcases w with ⟨w, -⟩ | ⟨-, w, -⟩
      · exact absurd w (by decide)
      · exact hf w
theorem backL {q t : Nat} {fe : Int32} : ∀ (m n : Nat) (g : Hp) (V : VV) (v5 : Int32), m ≤ 4 → m < n → IN g V → q < nqk V → t < ntw V → nms V + m ≤ 1999990 → ∃ g2, f_X8_takeBack_18_L z (some (4, q)) (some (9, 0)) (nI t) (nI q) n (nI (5 - m)) v5 g = some (5, v5 + (wL true q t fe m V).2, g2) ∧ IN g2 (wL true q t fe m V).1 ∧ Fr PCl g g2
  | m, 0, _, _, _, _, h, _, _, _, _ => absurd h (Nat.not_lt_zero _)
  | 0, n + 1, g, V, v5, _, _, h, _, _, _ => by
    refine ⟨g, ?_, h, Fr.rf g⟩
    show f_X8_takeBack_18_b z (some (4, q)) (some (9, 0)) (nI t) (nI q) (f_X8_takeBack_18_L z (some (4, q)) (some (9, 0)) (nI t) (nI q) n) (nI 5) v5 g = _
    unfold f_X8_takeBack_18_b
    rw [if_pos (by decide), wL_0, Int32.add_zero]
    rfl
  | m + 1, n + 1, g, V, v5, hm, hn, h, hq, ht, hs => by
    have ht6 := h.v.tw.2
    have hq5 := h.v.qk.2
    have hl : 5 - (m + 1) = 4 - m := by omega
    have hl2 : 4 - m + 1 = 5 - m := by omega
    have w1 : 1 ≤ 4 - m := by omega
    have w5 : 4 - m < 5 := by omega
    rw [hl]
    show ∃ g2, f_X8_takeBack_18_b z (some (4, q)) (some (9, 0)) (nI t) (nI q) (f_X8_takeBack_18_L z (some (4, q)) (some (9, 0)) (nI t) (nI q) n) (nI (4 - m)) v5 g = _ ∧ _
    unfold f_X8_takeBack_18_b
    rw [show (4 : Int32) = nI 4 from rfl, if_neg (fun w => by have := (nI_ltI (by omega) (by omega)).mp w; omega), nI_1, hl2]
    simp only [ick_X, Option.bind_some, (told3 (z := z) h hq (show t < 6 by omega) w1 w5).1, (told3 (z := z) h hq (show t < 6 by omega) w1 w5).2]
    have hno : ¬ wA V true q t fe (4 - m) → ∃ g2, f_X8_takeBack_18_L z (some (4, q)) (some (9, 0)) (nI t) (nI q) n (nI (5 - m)) v5 g = some (5, v5 + (wL true q t fe (m + 1) V).2, g2) ∧ IN g2 (wL true q t fe (m + 1) V).1 ∧ Fr PCl g g2 := fun w => by
      rw [wL_n w]
      exact backL (fe := fe) m n g V v5 (by omega) (by omega) h hq ht (by omega)
    rcases h.v.tt (q := q) (t := t) (k := 4 - m) (by omega) (by omega) w1 w5 with e0 | e0 | e0
    · have ef : ¬ toldF V q t (4 - m) = true := by unfold toldF; simp [e0]
      simp only [if_neg ef, if_true]
      refine hno (fun w => ?_)
      rcases w with ⟨-, w⟩ | ⟨w, -⟩
      · rw [e0] at w; exact absurd w (by decide)
      · exact absurd w (by decide)
    · have hw : wA V true q t fe (4 - m) := Or.inl ⟨rfl, e0⟩
      have ef : toldF V q t (4 - m) = true := by unfold toldF; simp [e0]
      have eb : ¬ backF V q t (4 - m) = true := by unfold backF; simp [e0]
      obtain ⟨g1, a1, a2, a3⟩ := back8 (z := z) h hq (show t < 6 by omega) w1 w5 e0
      obtain ⟨g2, b1, b2, b3, -⟩ := send8 (z := z) a2 (show nms (vs V 55 (30 * q + 5 * t + (4 - m)) 2) ≤ 2000000 by rw [nms55]; omega) (nI t) (nI q) (0 - nI (4 - m))
      rw [← st_t e0] at b2
      have s := st_g (V := V) h.v (show nms V ≤ 2000000 by omega) true (wA_c hw)
      have s2 := s.2.2
      obtain ⟨g3, c1, c2, c3⟩ := backL (fe := fe) m n g2 (stV V true q t (4 - m)) (v5 + 1) (by omega) (by omega) b2 (by rw [s.nq]; exact hq) (by rw [s.nt]; exact ht) (by omega)
      refine ⟨g3, ?_, ?_, ((a3.cl (by decide)).t (b3.cl (by decide))).t c3⟩
      · simp only [if_pos ef, if_neg eb, if_true]
        rw [if_neg (by decide)]
        simp only [a1, b1, Option.bind_some, c1, wL_y hw]
        rw [Int32.add_assoc]
      · rw [wL_y hw]; exact c2
    · have ef : toldF V q t (4 - m) = true := by unfold toldF; simp [e0]
      have eb : backF V q t (4 - m) = true := by unfold backF; simp [e0]
      simp only [if_pos ef, if_pos eb]
      rw [if_neg (by decide), if_neg (by decide)]
      refine hno (fun w => ?_)
      rcases w with ⟨-, w⟩ | ⟨w, -⟩
      · rw [e0] at w; exact absurd w (by decide)
      · exact absurd w (by decide)
theorem tellF8 (hz : 2000 ≤ z) {g : Hp} {V : VV} (h : IN g V) {q t : Nat} (hq : q < nqk V) (ht : t < ntw V) (hs : nms V + 4 ≤ 1999990) (ho : ¬ ncl V q 144 = 0) : ∃ g2, f_X8_tellFelt z (some (9, 0)) (nI t) (nI q) g = some ((wL false q t (iI (feV V q t)) 4 V).2, g2) ∧ IN g2 (wL false q t (iI (feV V q t)) 4 V).1 ∧ Fr PCl g g2 := by
  obtain ⟨g1, a1, a2, a3⟩ := feltIn8 hz h hq ht ho
  obtain ⟨g2, b1, b2, b3⟩ := tellL (z := z) (q := q) (t := t) (fe := iI (feV V q t)) 4 z g1 V 0 (by decide) (by omega) a3 hq ht hs
  refine ⟨g2, ?_, b2, (a2.cl (by decide)).t b3⟩
  simp only [f_X8_tellFelt, gr_C h.b1, cRef, Option.bind_some, ick_X, getQ h hq, ckc_X, a1]
  rw [show (1 : Int32) = nI (5 - 4) from rfl, b1, Int32.zero_add]
  rfl
theorem backF8 (hz : 2000 ≤ z) {g : Hp} {V : VV} (h : IN g V) {q t : Nat} (fe : Int32) (hq : q < nqk V) (ht : t < ntw V) (hs : nms V + 4 ≤ 1999990) : ∃ g2, f_X8_takeBack z (some (9, 0)) (nI t) (nI q) g = some ((wL true q t fe 4 V).2, g2) ∧ IN g2 (wL true q t fe 4 V).1 ∧ Fr PCl g g2 := by
  obtain ⟨g2, b1, b2, b3⟩ := backL (z := z) (q := q) (t := t) (fe := fe) 4 z g V 0 (by decide) (by omega) h hq ht hs
  refine ⟨g2, ?_, b2, b3⟩
  simp only [f_X8_takeBack, gr_C h.b1, cRef, Option.bind_some, ick_X, getQ h hq, ckc_X]
  rw [show (1 : Int32) = nI (5 - 4) from rfl, b1, Int32.zero_add]
  rfl
theorem towL8 (hz : 2000 ≤ z) {q T : Nat} {o : Bool} : ∀ (m n : Nat) (g : Hp) (V : VV) (v1 : Int32), m ≤ T → m < n → IN g V → q < nqk V → ntw V = T → nms V + 4 * m ≤ 1999990 → o = decide (ncl V q 144 = 0) → ∃ g2, f_X8_warn_24_L z (if o = true then 1 else 0) (nI q) (some (9, 0)) n (nI (T - m)) v1 g = some (nI T, v1 + (wT o q T m V).2, g2) ∧ IN g2 (wT o q T m V).1 ∧ Fr PCl g g2
  | m, 0, _, _, _, _, h, _, _, _, _, _ => absurd h (Nat.not_lt_zero _)
  | 0, n + 1, g, V, v1, _, _, h, _, hT, _, _ => by
    have ht6 := h.v.tw.2
    refine ⟨g, ?_, h, Fr.rf g⟩
    show f_X8_warn_24_b z _ (nI q) (some (9, 0)) (f_X8_warn_24_L z _ (nI q) (some (9, 0)) n) (nI T) v1 g = some (nI T, v1 + 0, g)
    unfold f_X8_warn_24_b
    simp only [gr_C h.b1, cRef, Option.bind_some, ick_X, sizeJ h.c1, hT]
    rw [if_pos ((nI_leI (by omega) (by omega)).mpr (Nat.le_refl _)), Int32.add_zero]
  | m + 1, n + 1, g, V, v1, hm, hn, h, hq, hT, hs, ho => by
    have ht6 := h.v.tw.2
    have hl2 : T - (m + 1) + 1 = T - m := by omega
    have htt : T - (m + 1) < ntw V := by omega
    have s := wL_g (o := o) (q := q) (t := T - (m + 1)) (fe := iI (feV V q (T - (m + 1)))) 4 V h.v (by omega)
    have s2 := s.2.2
    show ∃ g2, f_X8_warn_24_b z _ (nI q) (some (9, 0)) (f_X8_warn_24_L z _ (nI q) (some (9, 0)) n) (nI (T - (m + 1))) v1 g = some (nI T, v1 + ((wL o q (T - (m + 1)) (iI (feV V q (T - (m + 1)))) 4 V).2 + (wT o q T m (wL o q (T - (m + 1)) (iI (feV V q (T - (m + 1)))) 4 V).1).2), g2) ∧ IN g2 (wT o q T m (wL o q (T - (m + 1)) (iI (feV V q (T - (m + 1)))) 4 V).1).1 ∧ Fr PCl g g2
    unfold f_X8_warn_24_b
    simp only [gr_C h.b1, cRef, Option.bind_some, ick_X, sizeJ h.c1, hT]
    rw [if_neg (fun w => by have := (nI_leI (by omega) (by omega)).mp w; omega), nI_1, hl2]
    have fin : ∀ g1, IN g1 (wL o q (T - (m + 1)) (iI (feV V q (T - (m + 1)))) 4 V).1 → Fr PCl g g1 → ∃ g2, f_X8_warn_24_L z (if o = true then 1 else 0) (nI q) (some (9, 0)) n (nI (T - m)) (v1 + (wL o q (T - (m + 1)) (iI (feV V q (T - (m + 1)))) 4 V).2) g1 = some (nI T, v1 + ((wL o q (T - (m + 1)) (iI (feV V q (T - (m + 1)))) 4 V).2 + (wT o q T m (wL o q (T - (m + 1)) (iI (feV V q (T - (m + 1)))) 4 V).1).2), g2) ∧ IN g2 (wT o q T m (wL o q (T - (m + 1)) (iI (feV V q (T - (m + 1)))) 4 V).1).1 ∧ Fr PCl g g2 := fun g1 hi hf => by
      obtain ⟨g2, c1, c2, c3⟩ := towL8 hz (q := q) (T := T) (o := o) m n g1 (wL o q (T - (m + 1)) (iI (feV V q (T - (m + 1)))) 4 V).1 (v1 + (wL o q (T - (m + 1)) (iI (feV V q (T - (m + 1)))) 4 V).2) (by omega) (by omega) hi (by rw [s.nq]; exact hq) (by rw [s.nt]; exact hT) (by omega) (by rw [s.nc]; exact ho)
      refine ⟨g2, ?_, c2, hf.t c3⟩
      rw [c1, Int32.add_assoc]
    cases o with
    | false =>
      obtain ⟨g1, a1, a2, a3⟩ := tellF8 hz h hq htt (by omega) (fun w => by rw [decide_eq_true w] at ho; exact absurd ho (by decide))
      simp only [Bool.false_eq_true, if_false, if_true, a1, Option.bind_some] at fin ⊢
      exact fin g1 a2 a3
    | true =>
      obtain ⟨g1, a1, a2, a3⟩ := backF8 hz h (iI (feV V q (T - (m + 1)))) hq htt (by omega)
      simp only [if_true, a1, Option.bind_some] at fin ⊢
      rw [if_neg (by decide)]
      exact fin g1 a2 a3
theorem qkL8 (hz : 2000 ≤ z) {Q T : Nat} : ∀ (m n : Nat) (g : Hp) (V : VV) (v1 : Int32), m ≤ Q → m < n → IN g V → nqk V = Q → ntw V = T → nms V + 24 * m ≤ 1999990 → ∃ g2, f_X8_warn_4_L z (some (9, 0)) n (nI (Q - m)) v1 g = some (nI Q, v1 + (wQ Q T m V).2, g2) ∧ IN g2 (wQ Q T m V).1 ∧ Fr PCl g g2
  | m, 0, _, _, _, _, h, _, _, _, _ => absurd h (Nat.not_lt_zero _)
  | 0, n + 1, g, V, v1, _, _, h, hQ, _, _ => by
    have hq5 := h.v.qk.2
    refine ⟨g, ?_, h, Fr.rf g⟩
    show f_X8_warn_4_b z (some (9, 0)) (f_X8_warn_4_L z (some (9, 0)) n) (nI Q) v1 g = some (nI Q, v1 + 0, g)
    unfold f_X8_warn_4_b
    simp only [gr_C h.b1, cRef, Option.bind_some, ick_X, sizeJ h.c3, hQ]
    rw [if_pos ((nI_leI (by omega) (by omega)).mpr (Nat.le_refl _)), Int32.add_zero]
  | m + 1, n + 1, g, V, v1, hm, hn, h, hQ, hT, hs => by
    have hq5 := h.v.qk.2
    have ht6 := h.v.tw.2
    have hl2 : Q - (m + 1) + 1 = Q - m := by omega
    have hqq : Q - (m + 1) < nqk V := by omega
    have s := wT_g (o := decide (ncl V (Q - (m + 1)) 144 = 0)) (q := Q - (m + 1)) (T := T) T V h.v (by omega)
    have s2 := s.2.2
    obtain ⟨g1, a1, a2, a3⟩ := isOver8 hz h hqq
    obtain ⟨g2, b1, b2, b3⟩ := towL8 hz (q := Q - (m + 1)) (T := T) (o := decide (ncl V (Q - (m + 1)) 144 = 0)) T z g1 V v1 (Nat.le_refl _) (by omega) a3 hqq hT (by omega) rfl
    obtain ⟨g3, c1, c2, c3⟩ := qkL8 hz (Q := Q) (T := T) m n g2 _ (v1 + (wT (decide (ncl V (Q - (m + 1)) 144 = 0)) (Q - (m + 1)) T T V).2) (by omega) (by omega) b2 (by rw [s.nq]; exact hQ) (by rw [s.nt]; exact hT) (by omega)
    refine ⟨g3, ?_, c2, ((a2.cl (by decide)).t b3).t c3⟩
    show f_X8_warn_4_b z (some (9, 0)) (f_X8_warn_4_L z (some (9, 0)) n) (nI (Q - (m + 1))) v1 g = some (nI Q, v1 + ((wT (decide (ncl V (Q - (m + 1)) 144 = 0)) (Q - (m + 1)) T T V).2 + (wQ Q T m (wT (decide (ncl V (Q - (m + 1)) 144 = 0)) (Q - (m + 1)) T T V).1).2), g3)
    unfold f_X8_warn_4_b
    simp only [gr_C h.b1, cRef, Option.bind_some, ick_X, sizeJ h.c3, hQ]
    rw [if_neg (fun w => by have := (nI_leI (by omega) (by omega)).mp w; omega), a1, nI_1, hl2]
    simp only [Option.bind_some]
    rw [show T - T = 0 from Nat.sub_self T, show nI 0 = (0 : Int32) from rfl] at b1
    simp only [decide_eq_true_eq] at b1
    rw [b1]
    simp only [Option.bind_some]
    rw [c1, Int32.add_assoc]
end WAC
