/-! what the model reads off a heap -/
def fP (V : VV) (q : Nat) : Nat := (V 51 q).toNatClampNeg
def szF (V : VV) (q c : Nat) : Nat := bl (sg V (fP V q) * (tv (slo V) c (cS V (sP V (fP V q))) + 1))
def lwF (V : VV) (q : Nat) : Nat → Int
  | 0 => -9
  | c + 1 => if lo V q c ≤ hi V q c then (if lwF V q c < 0 ∨ (szF V q c : Int) < lwF V q c then (szF V q c : Int) else lwF V q c) else lwF V q c
def hgF (V : VV) (q : Nat) : Nat → Int
  | 0 => -9
  | c + 1 => if lo V q c ≤ hi V q c then (if hgF V q c < 0 ∨ hgF V q c < (szF V q c : Int) then (szF V q c : Int) else hgF V q c) else hgF V q c
def lsF (V : VV) (q t : Nat) : Nat → Nat
  | 0 => 0
  | c + 1 => if lo V q c ≤ hi V q c then max (lsF V q t c) (bl (tv (slo V) c (cT V t) + 1)) else lsF V q t c
def feV (V : VV) (q t : Nat) : Int := if lwF V q 144 < 0 then -9 else if lwF V q 144 ≤ lsF V q t 144 then 0 else lwF V q 144 - lsF V q t 144
def cmF (V : VV) (q t : Nat) : Nat → Int
  | 0 => 1000000000
  | c + 1 => if lo V q c ≤ hi V q c then min (cmF V q t c) (lo V q c + TV V c (cT V t)) else cmF V q t c
def cxF (V : VV) (q t : Nat) : Nat → Int
  | 0 => -1000000000
  | c + 1 => if lo V q c ≤ hi V q c then max (cxF V q t c) (hi V q c + TV V c (cT V t)) else cxF V q t c
def cntF (V : VV) (q : Nat) : Nat → Nat
  | 0 => 0
  | p + 1 => if V 50 p = nI q then cntF V q p + 1 else cntF V q p
def clS (V : VV) (q : Nat) (i : Int32) : Nat → Nat → Int32
  | 0, _ => -9
  | m + 1, k => if lo V q (143 - m) ≤ hi V q (143 - m) then (if nI k = i then nI (143 - m) else clS V q i m (k + 1)) else clS V q i m k
theorem HV.ns {V : VV} (h : HV V) : V 10 6 = nI (nst V) ∧ nst V ≤ 10 := h.1
theorem HV.np {V : VV} (h : HV V) : V 10 15 = nI (npk V) ∧ npk V ≤ 60 := h.2.1
theorem HV.sl {V : VV} (h : HV V) : V 10 3 = nI (slo V) ∧ slo V ≤ 400 := h.2.2.1
theorem HV.er {V : VV} (h : HV V) : V 10 4 = nI (err V) ∧ err V ≤ 50 := h.2.2.2.1
theorem HV.no {V : VV} (h : HV V) : V 10 5 = nI (nw V) ∧ nw V ≤ 100000 := h.2.2.2.2.1
theorem HV.st {V : VV} (h : HV V) {s : Nat} (hs : s < nst V) : V 41 s = nI (cS V s) ∧ cS V s < 144 ∧ (V 60 s = 0 ∨ V 60 s = 1) := h.2.2.2.2.2.1 s hs
theorem HV.pk {V : VV} (h : HV V) {p : Nat} (hp : p < npk V) : V 47 p = nI (sP V p) ∧ sP V p < nst V ∧ V 48 p = nI (tk V p) ∧ tk V p ≤ nw V := h.2.2.2.2.2.2 p hp
theorem VI.hv {V : VV} (h : VI V) : HV V := h.1
theorem VI.tw {V : VV} (h : VI V) : V 10 9 = nI (ntw V) ∧ ntw V ≤ 6 := h.2.1
theorem VI.qk {V : VV} (h : VI V) : V 10 20 = nI (nqk V) ∧ nqk V ≤ 5 := h.2.2.1
theorem VI.ms {V : VV} (h : VI V) : V 10 24 = nI (nms V) := h.2.2.2.1
theorem VI.sz {V : VV} (h : VI V) {s : Nat} (hs : s < nst V) : V 43 s = -9 ∨ ∃ m, m ≤ 30 ∧ V 43 s = nI m := h.2.2.2.2.1 s hs
theorem VI.to {V : VV} (h : VI V) {t : Nat} (ht : t < ntw V) : V 42 t = nI (cT V t) ∧ cT V t < 144 := h.2.2.2.2.2.1 t ht
theorem VI.pq {V : VV} (h : VI V) {p : Nat} (hp : p < npk V) : V 49 p = nI (sg V p) ∧ 1 ≤ sg V p ∧ sg V p ≤ 1000000 ∧ (V 50 p = -9 ∨ ∃ q, q < nqk V ∧ V 50 p = nI q) := h.2.2.2.2.2.2.1 p hp
theorem VI.fp {V : VV} (h : VI V) {q : Nat} (hq : q < nqk V) : fP V q < npk V ∧ V 51 q = nI (fP V q) ∧ V 50 (fP V q) = nI q := by
  obtain ⟨p, hp, e1, e2⟩ := h.2.2.2.2.2.2.2.1 q hq
  have hp60 := h.hv.np.2
  have ep : fP V q = p := by unfold fP; rw [e1]; exact nI_cl (by omega)
  rw [ep]
  exact ⟨hp, e1, e2⟩
theorem VI.un {V : VV} (h : VI V) {p p2 : Nat} (hp : p < npk V) (hp2 : p2 < npk V) (e : V 50 p = V 50 p2) (e2 : V 50 p ≠ -9) (e3 : sP V p = sP V p2) : p = p2 := h.2.2.2.2.2.2.2.2.1 p p2 hp hp2 e e2 e3
theorem VI.tt {V : VV} (h : VI V) {q t k : Nat} (hq : q < 5) (ht : t < 6) (h1 : 1 ≤ k) (h2 : k < 5) : V 55 (30 * q + 5 * t + k) = 0 ∨ V 55 (30 * q + 5 * t + k) = 1 ∨ V 55 (30 * q + 5 * t + k) = 2 := h.2.2.2.2.2.2.2.2.2 q t k hq ht h1 h2
theorem szF_b {V : VV} (h : VI V) {q c : Nat} (hq : q < nqk V) (hc : c < 144) : 1 ≤ szF V q c ∧ szF V q c ≤ 31 ∧ sg V (fP V q) * (tv (slo V) c (cS V (sP V (fP V q))) + 1) < 2 ^ 31 := by
  obtain ⟨h3, h3'⟩ := h.hv.sl
  obtain ⟨hp, e1, e2⟩ := h.fp hq
  unfold szF
  generalize fP V q = p at hp e1 e2 ⊢
  obtain ⟨a1, a2, a3, a4⟩ := h.hv.pk hp
  obtain ⟨b1, b2, b3, b4⟩ := h.pq hp
  have ht := tv_lt h3' hc (h.hv.st a2).2.1
  have hm : sg V p * (tv (slo V) c (cS V (sP V p)) + 1) ≤ 1000000 * 312 := Nat.mul_le_mul b3 (by omega)
  have h0 : 1 * 1 ≤ sg V p * (tv (slo V) c (cS V (sP V p)) + 1) := Nat.mul_le_mul b2 (by omega)
  generalize sg V p * (tv (slo V) c (cS V (sP V p)) + 1) = w at hm h0 ⊢
  refine ⟨?_, bl_le.mp (by omega), by omega⟩
  rcases Nat.eq_zero_or_pos (bl w) with e | e
  · have := (bl_le (w := w) (k := 0)).mpr (by omega); omega
  · exact e
theorem lwF_b {V : VV} (h : VI V) {q : Nat} (hq : q < nqk V) : ∀ n, n ≤ 144 → -9 ≤ lwF V q n ∧ lwF V q n ≤ 31 ∧ (lwF V q n < 0 → lwF V q n = -9) ∧ (lwF V q n < 0 ↔ ncl V q n = 0) ∧ -9 ≤ hgF V q n ∧ hgF V q n ≤ 31 ∧ (hgF V q n < 0 → hgF V q n = -9)
  | 0, _ => by simp [lwF, hgF, ncl]
  | n + 1, hn => by
    obtain ⟨a1, a2, a3, a4, a5, a6, a7⟩ := lwF_b h hq n (by omega)
    obtain ⟨b1, b2, -⟩ := szF_b h hq (c := n) (by omega)
    unfold lwF hgF ncl
    by_cases hh : lo V q n ≤ hi V q n
    · simp only [if_pos hh]
      refine ⟨?_, ?_, ?_, ?_, ?_, ?_, ?_⟩ <;> (try split) <;> omega
    · simp only [if_neg hh]
      exact ⟨a1, a2, a3, a4, a5, a6, a7⟩
theorem lsF_b {V : VV} (h : VI V) {q t : Nat} (ht : t < ntw V) : ∀ n, n ≤ 144 → lsF V q t n ≤ 31
  | 0, _ => by simp [lsF]
  | n + 1, hn => by
    have ih := lsF_b h (q := q) ht n (by omega)
    obtain ⟨⟨-, -, ⟨-, h3⟩, -⟩, -, -, -, -, h6, -⟩ := h
    have hb : bl (tv (slo V) n (cT V t) + 1) ≤ 31 := bl_le.mp (by have := tv_lt h3 (show n < 144 by omega) (h6 t ht).2; omega)
    unfold lsF
    split <;> omega
section MRD
variable {g : Hp} {V V2 : VV} {z : Nat}
theorem has9 (h : SM g) (hV : HV V) {q c : Nat} (hP : HP V q V2 144) (hc : c < 144) : f_X9_has z (some (10, 0)) (nI c) (wM g V2) = some ((if lo V q c ≤ hi V q c then 1 else 0), wM g V2) := by
  obtain ⟨e1, x, e2, e3, e4, e5, e6⟩ := hP c hc
  have hhb : -400 ≤ hi V q c ∧ hi V q c ≤ 1000000000 := hiP_b hV (q := q) hc _ (Nat.le_refl _)
  have hvc : ∀ r, r = 52 ∨ r = 53 → vp_in (nI c) (mLen r) := fun r hr => by rcases hr with e | e <;> subst e <;> exact vp_n (N := 144) hc (by decide)
  unfold f_X9_has
  simp only [gr_M h, mRef, Option.bind_some]
  rw [al_M h (by decide) (by decide) (hvc 52 (Or.inl rfl)), al_M h (by decide) (by decide) (hvc 53 (Or.inr rfl))]
  simp only [Option.bind_some, nI_cl (show c < 2147483648 by omega), e1, e2]
  by_cases h5 : hi V q c < x
  · rw [if_pos ((iI_lt (by omega) (by omega) (by omega) (by omega)).mpr h5), if_neg (fun w => by have := e5.mpr w; omega)]
    exact rtZ_0
  · rw [if_neg (fun w => h5 ((iI_lt (by omega) (by omega) (by omega) (by omega)).mp w)), if_pos (e5.mp (by omega))]
    exact rtZ_1
theorem sizeAt9 (hz : 2000 ≤ z) (h : SM g) (hV : VI V) (hE : EqR V V2) {q c : Nat} (hq : q < nqk V) (hc : c < 144) : f_X9_sizeAt z (some (10, 0)) (nI q) (nI c) (wM g V2) = some (nI (szF V q c), wM g V2) := by
  have hb := (szF_b hV hq hc).2.2
  obtain ⟨h3, h3'⟩ := hV.hv.sl
  have h2 := hV.hv.np.2
  have hq5 := hV.qk.2
  have ns10 := hV.hv.ns.2
  obtain ⟨hp, e1, e2⟩ := hV.fp hq
  generalize hpe : fP V q = p at hp e1 e2 hb
  have ep := hpe
  obtain ⟨a1, a2, a3, a4⟩ := hV.hv.pk hp
  obtain ⟨b1, b2, b3, b4⟩ := hV.pq hp
  have c1 := hV.hv.st a2
  unfold f_X9_sizeAt
  simp only [gr_M h, mRef, Option.bind_some]
  rw [al_M h (by decide) (by decide) (vp_n (N := 5) (by omega) (by decide))]
  simp only [Option.bind_some, nI_cl (show q < 2147483648 by omega), hE 51 (by decide) (by decide), e1]
  rw [al_M h (by decide) (by decide) (vp_n (N := 60) (by omega) (by decide))]
  simp only [Option.bind_some, nI_cl (show p < 2147483648 by omega), hE 49 (by decide) (by decide), b1]
  rw [al_M h (by decide) (by decide) (vp_n (N := 60) (by omega) (by decide))]
  simp only [Option.bind_some, nI_cl (show p < 2147483648 by omega), hE 47 (by decide) (by decide), a1]
  rw [al_M h (by decide) (by decide) (vp_n (N := 10) (by omega) (by decide))]
  simp only [Option.bind_some, nI_cl (show sP V p < 2147483648 by omega), hE 41 (by decide) (by decide), c1.1, ick_M]
  rw [travels9 hz (by rw [hE 10 (by decide) (by decide)]; exact h3) h3' hc c1.2.1]
  simp only [Option.bind_some, nI_1, pk_mul]
  rw [bits9 hb hz]
  unfold szF
  rw [ep]
  rfl
theorem sizeOf9_L (hz : 2000 ≤ z) (h : SM g) (hV : VI V) (hE : EqR V V2) {q : Nat} (hq : q < nqk V) (hP : HP V q V2 144) (b : Bool) : ∀ (n c : Nat), c ≤ 144 → 144 - c < n →
    f_X9_sizeOf_6_L z (some (10, 0)) (nI q) (if b = true then 1 else 0) n (nI c) (iI (if b = true then hgF V q c else lwF V q c)) (wM g V2) = some (144, iI (if b = true then hgF V q 144 else lwF V q 144), wM g V2)
  | 0, c, _, h2 => absurd h2 (Nat.not_lt_zero _)
  | n + 1, c, h1, h2 => by
    have ih := sizeOf9_L hz h hV hE hq hP b n (c + 1)
    obtain ⟨l1, l2, l3, -, l5, l6, l7⟩ := lwF_b hV hq c h1
    show f_X9_sizeOf_6_b z (some (10, 0)) (nI q) _ (f_X9_sizeOf_6_L z (some (10, 0)) (nI q) _ n) (nI c) _ (wM g V2) = _
    unfold f_X9_sizeOf_6_b
    rw [show (144 : Int32) = nI 144 from rfl]
    by_cases he : 144 ≤ c
    · have e : c = 144 := by omega
      rw [if_pos ((nI_leI (by omega) (by omega)).mpr he)]
      subst e
      rfl
    · rw [if_neg (fun w => he ((nI_leI (by omega) (by omega)).mp w))]
      have ih := ih (by omega) (by omega)
      obtain ⟨s1, s2, -⟩ := szF_b hV hq (c := c) (by omega)
      rw [ick_M, has9 h hV.hv hP (by omega)]
      simp only [Option.bind_some]
      by_cases hh : lo V q c ≤ hi V q c
      · simp only [if_pos hh]
        rw [if_neg (by decide), ick_M, sizeAt9 hz h hV hE hq (by omega)]
        simp only [Option.bind_some]
        rw [nI_iI (szF V q c), show (0 : Int32) = iI 0 from by decide]
        cases b with
        | true =>
          simp only [if_true] at ih ⊢
          by_cases h3 : hgF V q c < 0
          · rw [if_pos ((iI_lt (by omega) (by omega) (by omega) (by omega)).mpr h3), nI_1]
            have e : hgF V q (c + 1) = szF V q c := by simp [hgF, hh, h3]
            rw [e] at ih
            exact ih
          · rw [if_neg (fun w => h3 ((iI_lt (by omega) (by omega) (by omega) (by omega)).mp w)), if_neg (by decide)]
            by_cases h4 : (szF V q c : Int) ≤ hgF V q c
            · rw [if_pos ((iI_le (by omega) (by omega) (by omega) (by omega)).mpr h4), nI_1]
              have e : hgF V q (c + 1) = hgF V q c := by simp [hgF, hh, h3]; omega
              rw [e] at ih
              exact ih
            · rw [if_neg (fun w => h4 ((iI_le (by omega) (by omega) (by omega) (by omega)).mp w)), nI_1]
              have e : hgF V q (c + 1) = szF V q c := by simp [hgF, hh, h3]; omega
              rw [e] at ih
              exact ih
        | false =>
          simp only [Bool.false_eq_true, if_false] at ih ⊢
          by_cases h3 : lwF V q c < 0
          · rw [if_pos ((iI_lt (by omega) (by omega) (by omega) (by omega)).mpr h3), nI_1]
            have e : lwF V q (c + 1) = szF V q c := by simp [lwF, hh, h3]
            rw [e] at ih
            exact ih
          · rw [if_neg (fun w => h3 ((iI_lt (by omega) (by omega) (by omega) (by omega)).mp w)), if_pos (by decide)]
            by_cases h4 : lwF V q c ≤ (szF V q c : Int)
            · rw [if_pos ((iI_le (by omega) (by omega) (by omega) (by omega)).mpr h4), nI_1]
              have e : lwF V q (c + 1) = lwF V q c := by simp [lwF, hh, h3]; omega
              rw [e] at ih
              exact ih
            · rw [if_neg (fun w => h4 ((iI_le (by omega) (by omega) (by omega) (by omega)).mp w)), nI_1]
              have e : lwF V q (c + 1) = szF V q c := by simp [lwF, hh, h3]; omega
              rw [e] at ih
              exact ih
      · simp only [if_neg hh]
        rw [if_pos (by decide), nI_1]
        have e1 : hgF V q (c + 1) = hgF V q c := by simp [hgF, hh]
        have e2 : lwF V q (c + 1) = lwF V q c := by simp [lwF, hh]
        rw [e1, e2] at ih
        exact ih
theorem sizeOf9 (hz : 2000 ≤ z) (h : SM g) (hV : VI V) (hE : EqR V V2) {q : Nat} (hq : q < nqk V) (hP : HP V q V2 144) : f_X9_sizeOf z (some (10, 0)) (nI q) 0 (wM g V2) = some (iI (lwF V q 144), wM g V2) ∧ f_X9_sizeOf z (some (10, 0)) (nI q) 1 (wM g V2) = some (iI (hgF V q 144), wM g V2) := by
  have h1 := sizeOf9_L hz h hV hE hq hP false z 0 (by omega) (by omega)
  have h2 := sizeOf9_L hz h hV hE hq hP true z 0 (by omega) (by omega)
  simp only [Bool.false_eq_true, if_false, if_true] at h1 h2
  have e1 : iI (lwF V q 0) = -9 := by show iI (-9) = -9; decide
  have e2 : iI (hgF V q 0) = -9 := by show iI (-9) = -9; decide
  rw [e1, show nI 0 = (0 : Int32) from rfl] at h1
  rw [e2, show nI 0 = (0 : Int32) from rfl] at h2
  constructor
  · unfold f_X9_sizeOf
    rw [h1]; rfl
  · unfold f_X9_sizeOf
    rw [h2]; rfl
theorem feels9_L (hz : 2000 ≤ z) (h : SM g) (hV : VI V) (hE : EqR V V2) {q t : Nat} (ht : t < ntw V) (hP : HP V q V2 144) (p3 p2 : Int32) : ∀ (n c : Nat), c ≤ 144 → 144 - c < n →
    f_X9_feels_13_L z p3 (some (10, 0)) (nI t) p2 n (nI c) (nI (lsF V q t c)) (wM g V2) = some (144, nI (lsF V q t 144), wM g V2)
  | 0, c, _, h2 => absurd h2 (Nat.not_lt_zero _)
  | n + 1, c, h1, h2 => by
    have ih := feels9_L hz h hV hE ht hP p3 p2 n (c + 1)
    have l1 := lsF_b hV (q := q) ht c h1
    show f_X9_feels_13_b z p3 (some (10, 0)) (nI t) p2 (f_X9_feels_13_L z p3 (some (10, 0)) (nI t) p2 n) (nI c) _ (wM g V2) = _
    unfold f_X9_feels_13_b
    rw [show (144 : Int32) = nI 144 from rfl]
    by_cases he : 144 ≤ c
    · have e : c = 144 := by omega
      rw [if_pos ((nI_leI (by omega) (by omega)).mpr he)]
      subst e
      rfl
    · rw [if_neg (fun w => he ((nI_leI (by omega) (by omega)).mp w))]
      have ih := ih (by omega) (by omega)
      obtain ⟨h3, h3'⟩ := hV.hv.sl
      have h6 := hV.to ht
      have htw := hV.tw.2
      have htl := tv_lt h3' (show c < 144 by omega) h6.2
      have hbl : bl (tv (slo V) c (cT V t) + 1) ≤ 31 := bl_le.mp (by omega)
      rw [ick_M, has9 h hV.hv hP (by omega)]
      simp only [Option.bind_some]
      by_cases hh : lo V q c ≤ hi V q c
      · simp only [if_pos hh]
        rw [if_neg (by decide)]
        simp only [gr_M h, mRef, Option.bind_some]
        rw [al_M h (by decide) (by decide) (vp_n (N := 6) (by omega) (by decide))]
        simp only [Option.bind_some, nI_cl (show t < 2147483648 by omega), hE 42 (by decide) (by decide), h6.1, ick_M]
        rw [travels9 hz (by rw [hE 10 (by decide) (by decide)]; exact h3) h3' (by omega) h6.2]
        simp only [Option.bind_some, nI_1]
        rw [bits9 (by omega) hz]
        simp only [Option.bind_some]
        have e : lsF V q t (c + 1) = max (lsF V q t c) (bl (tv (slo V) c (cT V t) + 1)) := by simp [lsF, hh]
        by_cases h4 : bl (tv (slo V) c (cT V t) + 1) ≤ lsF V q t c
        · rw [if_pos ((nI_leI (by omega) (by omega)).mpr h4)]
          rw [e, show max (lsF V q t c) (bl (tv (slo V) c (cT V t) + 1)) = lsF V q t c by omega] at ih
          exact ih
        · rw [if_neg (fun w => h4 ((nI_leI (by omega) (by omega)).mp w))]
          rw [e, show max (lsF V q t c) (bl (tv (slo V) c (cT V t) + 1)) = bl (tv (slo V) c (cT V t) + 1) by omega] at ih
          exact ih
      · simp only [if_neg hh]
        rw [if_pos (by decide)]
        simp only [Option.bind_some]
        rw [show (0 : Int32) = nI 0 from rfl, if_pos ((nI_leI (by omega) (by omega)).mpr (Nat.zero_le _)), nI_1]
        rw [show lsF V q t (c + 1) = lsF V q t c by simp [lsF, hh]] at ih
        exact ih
theorem feels9 (hz : 2000 ≤ z) (h : SM g) (hV : VI V) (hE : EqR V V2) {q t : Nat} (hq : q < nqk V) (ht : t < ntw V) (hP : HP V q V2 144) : f_X9_feels z (some (10, 0)) (nI t) (nI q) (wM g V2) = some (iI (feV V q t), wM g V2) := by
  have h1 := feels9_L hz h hV hE ht hP (iI (lwF V q 144)) (nI q) z 0 (by omega) (by omega)
  obtain ⟨l1, l2, l3, -⟩ := lwF_b hV hq 144 (by omega)
  have l4 := lsF_b hV (q := q) ht 144 (by omega)
  unfold f_X9_feels
  rw [ick_M, (sizeOf9 hz h hV hE hq hP).1]
  simp only [Option.bind_some]
  have e0 : nI (lsF V q t 0) = (0 : Int32) := rfl
  rw [e0, show nI 0 = (0 : Int32) from rfl] at h1
  rw [h1]
  simp only [Option.bind_some]
  rw [show (0 : Int32) = iI 0 from by decide, nI_iI]
  unfold feV
  by_cases h5 : lwF V q 144 < 0
  · rw [if_neg (fun w => by have := (iI_le (by omega) (by omega) (by omega) (by omega)).mp w; omega), if_pos h5]
    rfl
  · rw [if_pos ((iI_le (by omega) (by omega) (by omega) (by omega)).mpr (by omega)), if_neg h5]
    by_cases h6 : lwF V q 144 ≤ lsF V q t 144
    · rw [if_pos ((iI_le (by omega) (by omega) (by omega) (by omega)).mpr h6), if_pos h6]
    · rw [if_neg (fun w => h6 ((iI_le (by omega) (by omega) (by omega) (by omega)).mp w)), if_neg h6, iI_sub]
end MRD
