/-! the law's loop -/
def LQ (X : Option (Int32 × Hp)) : Prop := ∃ g1, X = some (1, g1) ∧ gc g1 ≤ 600000 ∧ gs g1 ≤ 7302250
theorem law_S {A8 A9 : Hp → Option (Int32 × Hp)} (h : OP A8 A9) {g : Hp} {V : VV} (hI : IN g V) (hm : wM g V = g) (hn : nms V ≤ 1000000) {K : Hp → Option (Int32 × Hp)} (hk : ∀ g2 V2, IN g2 V2 → wM g2 V2 = g2 → nms V2 ≤ nms V + 120 → LQ (K g2)) : LQ ((A8 g).bind fun q => (A9 q.2).bind fun w => if q.1 = w.1 then K w.2 else some (0, w.2)) := by
  obtain ⟨r, g1, V2, h1, h2, h3, h4⟩ := h g V hI hm hn
  rw [h1, ob, h2, ob, if_pos rfl]
  exact hk (wM g1 V2) V2 h3 wM_wM h4
theorem law_SL {A8 A9 : Hp → Option (Int64 × Hp)} (h : OPL A8 A9) {g : Hp} {V : VV} (hI : IN g V) (hm : wM g V = g) (hn : nms V ≤ 1000000) {K : Hp → Option (Int32 × Hp)} (hk : ∀ g2 V2, IN g2 V2 → wM g2 V2 = g2 → nms V2 ≤ nms V + 120 → LQ (K g2)) : LQ ((A8 g).bind fun q => (A9 q.2).bind fun w => if (lg_cmp q.1 w.1) = 0 then K w.2 else some (0, w.2)) := by
  obtain ⟨r, g1, V2, h1, h2, h3, h4⟩ := h g V hI hm hn
  rw [h1, ob, h2, ob, if_pos ((lg_cmp_eq r r).mpr rfl)]
  exact hk (wM g1 V2) V2 h3 wM_wM h4
theorem tsw_LQ {x : Int32} {d : Option (Int32 × Hp)} (hd : LQ d) : ∀ (ks : List Int32) (as : List (Option (Int32 × Hp))), (∀ a, a ∈ as → LQ a) → LQ (tsw x ks as d)
  | [], _, _ => hd
  | _ :: _, [], _ => hd
  | k :: ks, a :: as, h => by
    unfold tsw
    by_cases e : x = k
    · rw [if_pos e]; exact h a List.mem_cons_self
    · rw [if_neg e]; exact tsw_LQ hd ks as (fun b hb => h b (List.mem_cons_of_mem _ hb))
theorem aldS_e {L : Nat} {xs : Nat → Int32} {j : Nat} (h : j < L) (hL : L ≤ 3072) : aldS (some (18, 0)) (nI j) L xs = some (xs j) := by
  unfold aldS
  rw [if_pos ⟨rfl, vp_n h (by omega)⟩, nI_cl (by omega)]
theorem bit01 {x : Int32} : (if x = 0 then some (0 : Int32) else some 1) = some (if x = 0 then 0 else 1) := by split <;> rfl
theorem bit_or {x : Int32} : (if x = 0 then (0 : Int32) else 1) = 0 ∨ (if x = 0 then (0 : Int32) else 1) = 1 := by
  by_cases h : x = 0
  · exact Or.inl (if_pos h)
  · exact Or.inr (if_neg h)
section LAL
variable {z : Nat}
theorem cnt_b {V : VV} (h : VI V) : cnt V ≤ 481 := by
  have h1 := h.hv.ns.2
  have h2 := h.tw.2
  have h3 := h.hv.np.2
  have h4 := h.qk.2
  have h5 := kp_b V
  unfold cnt
  omega
theorem law_L (hz : 2000 ≤ z) {L : Nat} (hL : L ≤ 3072) {xs : Nat → Int32} : ∀ (n i : Nat) (g : Hp) (V : VV), IN g V → wM g V = g → nms V ≤ 120 * i → i ≤ L + 6 → L + 6 - i < n → LQ (f_L_law_18_L z L xs (some (10, 0)) (some (9, 0)) (some (18, 0)) n (nI i) g)
  | 0, _, _, _, _, _, _, _, h => absurd h (Nat.not_lt_zero _)
  | n + 1, i, g, V, hI, hm, hn, h1, h2 => by
    show LQ (f_L_law_18_b z L xs (some (10, 0)) (some (9, 0)) (some (18, 0)) (f_L_law_18_L z L xs (some (10, 0)) (some (9, 0)) (some (18, 0)) n) (nI i) g)
    have hal : alnS (some (18, 0)) L = some (nI L) := if_pos rfl
    have e6 : nI L - 6 = iI ((L : Int) - 6) := by rw [show (6 : Int32) = iI 6 from by decide, nI_iI, iI_sub]
    unfold f_L_law_18_b
    rw [hal]
    simp only [Option.bind_some, e6]
    by_cases he : (L : Int) - 6 < i
    · rw [if_pos (by rw [nI_iI]; exact (iI_lt (by omega) (by omega) (by omega) (by omega)).mpr he)]
      have hc := hI.c
      have hb := cnt_b hI.v
      exact ⟨g, rfl, by have := hc.1; omega, by have := hc.2; omega⟩
    · rw [if_neg (fun w => by rw [nI_iI] at w; exact he ((iI_lt (by omega) (by omega) (by omega) (by omega)).mp w))]
      have x0 := aldS_e (xs := xs) (show i < L by omega) hL
      have x1 := aldS_e (xs := xs) (show i + 1 < L by omega) hL
      have x2 := aldS_e (xs := xs) (show i + 2 < L by omega) hL
      have x3 := aldS_e (xs := xs) (show i + 3 < L by omega) hL
      have x4 := aldS_e (xs := xs) (show i + 4 < L by omega) hL
      have x5 := aldS_e (xs := xs) (show i + 5 < L by omega) hL
      have y1 : nI i + 1 = nI (i + 1) := nI_1 i
      have y2 : nI i + 2 = nI (i + 2) := by rw [show (2 : Int32) = nI 2 from rfl, nI_add]
      have y3 : nI i + 3 = nI (i + 3) := by rw [show (3 : Int32) = nI 3 from rfl, nI_add]
      have y4 : nI i + 4 = nI (i + 4) := by rw [show (4 : Int32) = nI 4 from rfl, nI_add]
      have y5 : nI i + 5 = nI (i + 5) := by rw [show (5 : Int32) = nI 5 from rfl, nI_add]
      have y6 : nI i + 6 = nI (i + 6) := by rw [show (6 : Int32) = nI 6 from rfl, nI_add]
      have hn2 : nms V ≤ 1000000 := by omega
      have hrec : ∀ g2 V2, IN g2 V2 → wM g2 V2 = g2 → nms V2 ≤ nms V + 120 → LQ (f_L_law_18_L z L xs (some (10, 0)) (some (9, 0)) (some (18, 0)) n (nI (i + 6)) g2) := fun g2 V2 k1 k2 k3 => law_L hz hL n (i + 6) g2 V2 k1 k2 (by omega) (by omega) (by omega)
      simp only [x0, x1, x2, x3, x4, x5, y1, y2, y3, y4, y5, y6, ob, bit01, ick_X]
      refine tsw_LQ (hrec g V hI hm (by omega)) _ _ ?_
      refine List.forall_mem_cons.mpr ⟨law_S (op_rule hz _ _) hI hm hn2 hrec, ?_⟩
      refine List.forall_mem_cons.mpr ⟨law_S (op_station _) hI hm hn2 hrec, ?_⟩
      refine List.forall_mem_cons.mpr ⟨law_S (op_town _) hI hm hn2 hrec, ?_⟩
      refine List.forall_mem_cons.mpr ⟨law_S (op_deaf _ _ bit_or) hI hm hn2 hrec, ?_⟩
      refine List.forall_mem_cons.mpr ⟨law_S (op_travel hz _ _) hI hm hn2 hrec, ?_⟩
      refine List.forall_mem_cons.mpr ⟨law_S (op_later _) hI hm hn2 hrec, ?_⟩
      refine List.forall_mem_cons.mpr ⟨law_S (op_row hz _ _) hI hm hn2 hrec, ?_⟩
      refine List.forall_mem_cons.mpr ⟨law_S (op_lay _ _ _) hI hm hn2 hrec, ?_⟩
      refine List.forall_mem_cons.mpr ⟨law_S (op_tear _) hI hm hn2 hrec, ?_⟩
      refine List.forall_mem_cons.mpr ⟨law_S (op_copy hz _ _ _ _ _) hI hm hn2 hrec, ?_⟩
      refine List.forall_mem_cons.mpr ⟨law_S (op_mean hz _) hI hm hn2 hrec, ?_⟩
      refine List.forall_mem_cons.mpr ⟨law_S (op_first hz _ _ _ _ _) hI hm hn2 hrec, ?_⟩
      refine List.forall_mem_cons.mpr ⟨law_S (op_pick hz _ _ _) hI hm hn2 hrec, ?_⟩
      refine List.forall_mem_cons.mpr ⟨law_S (op_told _ _) hI hm hn2 hrec, ?_⟩
      refine List.forall_mem_cons.mpr ⟨law_S (op_mark _ _) hI hm hn2 hrec, ?_⟩
      refine List.forall_mem_cons.mpr ⟨law_S (op_quake hz _ _) hI hm hn2 hrec, ?_⟩
      refine List.forall_mem_cons.mpr ⟨law_S (op_cell hz _ _) hI hm hn2 hrec, ?_⟩
      refine List.forall_mem_cons.mpr ⟨law_S (op_time hz _ _ _ bit_or) hI hm hn2 hrec, ?_⟩
      refine List.forall_mem_cons.mpr ⟨law_S (op_holds hz _ _ _) hI hm hn2 hrec, ?_⟩
      refine List.forall_mem_cons.mpr ⟨law_S (op_felt hz _ _) hI hm hn2 hrec, ?_⟩
      refine List.forall_mem_cons.mpr ⟨law_S (op_level _ _) hI hm hn2 hrec, ?_⟩
      refine List.forall_mem_cons.mpr ⟨law_S (op_warn hz) hI hm hn2 hrec, ?_⟩
      refine List.forall_mem_cons.mpr ⟨law_S (op_drill _ _) hI hm hn2 hrec, ?_⟩
      refine List.forall_mem_cons.mpr ⟨law_S (op_message _ _) hI hm hn2 hrec, ?_⟩
      refine List.forall_mem_cons.mpr ⟨law_S (op_alarm hz _ _) hI hm hn2 hrec, ?_⟩
      refine List.forall_mem_cons.mpr ⟨law_S (op_late hz _ _) hI hm hn2 hrec, ?_⟩
      refine List.forall_mem_cons.mpr ⟨law_S (op_left hz _ _) hI hm hn2 hrec, ?_⟩
      refine List.forall_mem_cons.mpr ⟨law_S (op_asked) hI hm hn2 hrec, ?_⟩
      refine List.forall_mem_cons.mpr ⟨law_S (op_count _) hI hm hn2 hrec, ?_⟩
      refine List.forall_mem_cons.mpr ⟨law_S (op_finding) hI hm hn2 hrec, ?_⟩
      refine List.forall_mem_cons.mpr ⟨law_S (op_findings _) hI hm hn2 hrec, ?_⟩
      refine List.forall_mem_cons.mpr ⟨law_SL (op_digest hz) hI hm hn2 hrec, ?_⟩
      exact fun a ha => absurd ha (by simp)
end LAL
