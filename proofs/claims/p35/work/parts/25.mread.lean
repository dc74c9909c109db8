/-! what the model reads off a heap -/
def fP (V : VV) (q : Nat) : Nat := (V 51 q).toNatClampNeg
def szF (V : VV) (q c : Nat) : Nat := bl (sg V (fP V q) * (tv (slo V) c (cS V (sP V (fP V q))) + 1))
def lwF (V : VV) (q : Nat) : Nat → Int
  | 0 => -9
  | c + 1 => if lo V q c ≤ hi V q c then (if lwF V q c < 0 ∨ (szF V q c : Int) < lwF V q c then (szF V q c : Int) else lwF V q c) else lwF V q c
def hgF (V : VV) (q : Nat) : Nat → Int
  | 0 => -9
  | c + 1 => if lo V q c ≤ hi V q c then (if hgF V q c < 0 ∨ hgF V q c < (szF V q c : Int) then (szF V q c : Int) else hgF V q c) else hgF V q c
def lsF (V : VV) (q t : Nat) : Nat → Nat
  | 0 => 0
  | c + 1 => if lo V q c ≤ hi V q c then max (lsF V q t c) (bl (tv (slo V) c (cT V t) + 1)) else lsF V q t c
def feV (V : VV) (q t : Nat) : Int := if lwF V q 144 < 0 then -9 else if lwF V q 144 ≤ lsF V q t 144 then 0 else lwF V q 144 - lsF V q t 144
def cmF (V : VV) (q t : Nat) : Nat → Int
  | 0 => 1000000000
  | c + 1 => if lo V q c ≤ hi V q c then min (cmF V q t c) (lo V q c + TV V c (cT V t)) else cmF V q t c
def cxF (V : VV) (q t : Nat) : Nat → Int
  | 0 => -1000000000
  | c + 1 => if lo V q c ≤ hi V q c then max (cxF V q t c) (hi V q c + TV V c (cT V t)) else cxF V q t c
def cntF (V : VV) (q : Nat) : Nat → Nat
  | 0 => 0
  | p + 1 => if V 50 p = nI q then cntF V q p + 1 else cntF V q p
def clS (V : VV) (q : Nat) (i : Int32) : Nat → Nat → Int32
  | 0, _ => -9
  | m + 1, k => if lo V q (143 - m) ≤ hi V q (143 - m) then (if nI k = i then nI (143 - m) else clS V q i m (k + 1)) else clS V q i m k
theorem HV.ns {V : VV} (h : HV V) : V 10 6 = nI (nst V) ∧ nst V ≤ 10 := h.1
theorem HV.np {V : VV} (h : HV V) : V 10 15 = nI (npk V) ∧ npk V ≤ 60 := h.2.1
theorem HV.sl {V : VV} (h : HV V) : V 10 3 = nI (slo V) ∧ slo V ≤ 400 := h.2.2.1
theorem HV.er {V : VV} (h : HV V) : V 10 4 = nI (err V) ∧ err V ≤ 50 := h.2.2.2.1
theorem HV.no {V : VV} (h : HV V) : V 10 5 = nI (nw V) ∧ nw V ≤ 100000 := h.2.2.2.2.1
theorem HV.st {V : VV} (h : HV V) {s : Nat} (hs : s < nst V) : V 41 s = nI (cS V s) ∧ cS V s < 144 ∧ (V 60 s = 0 ∨ V 60 s = 1) := h.2.2.2.2.2.1 s hs
theorem HV.pk {V : VV} (h : HV V) {p : Nat} (hp : p < npk V) : V 47 p = nI (sP V p) ∧ sP V p < nst V ∧ V 48 p = nI (tk V p) ∧ tk V p ≤ nw V := h.2.2.2.2.2.2 p hp
theorem VI.hv {V : VV} (h : VI V) : HV V := h.1
theorem VI.tw {V : VV} (h : VI V) : V 10 9 = nI (ntw V) ∧ ntw V ≤ 6 := h.2.1
theorem VI.qk {V : VV} (h : VI V) : V 10 20 = nI (nqk V) ∧ nqk V ≤ 5 := h.2.2.1
theorem VI.ms {V : VV} (h : VI V) : V 10 24 = nI (nms V) := h.2.2.2.1
theorem VI.sz {V : VV} (h : VI V) {s : Nat} (hs : s < nst V) : V 43 s = -9 ∨ ∃ m, m ≤ 30 ∧ V 43 s = nI m := h.2.2.2.2.1 s hs
theorem VI.to {V : VV} (h : VI V) {t : Nat} (ht : t < ntw V) : V 42 t = nI (cT V t) ∧ cT V t < 144 := h.2.2.2.2.2.1 t ht
theorem VI.pq {V : VV} (h : VI V) {p : Nat} (hp : p < npk V) : V 49 p = nI (sg V p) ∧ 1 ≤ sg V p ∧ sg V p ≤ 1000000 ∧ (V 50 p = -9 ∨ ∃ q, q < nqk V ∧ V 50 p = nI q) := h.2.2.2.2.2.2.1 p hp
theorem VI.fp {V : VV} (h : VI V) {q : Nat} (hq : q < nqk V) : fP V q < npk V ∧ V 51 q = nI (fP V q) ∧ V 50 (fP V q) = nI q := by
  obtain ⟨p, hp, e1, e2⟩ := h.2.2.2.2.2.2.2.1 q hq
  have hp60 := h.hv.np.2
  have ep : fP V q = p := by unfold fP; rw [e1]; exact nI_cl (by omega)
  rw [ep]
  exact ⟨hp, e1, e2⟩
theorem VI.un {V : VV} (h : VI V) {p p2 : Nat} (hp : p < npk V) (hp2 : p2 < npk V) (e : V 50 p = V 50 p2) (e2 : V 50 p ≠ -9) (e3 : sP V p = sP V p2) : p = p2 := h.2.2.2.2.2.2.2.2.1 p p2 hp hp2 e e2 e3
theorem VI.tt {V : VV} (h : VI V) {q t k : Nat} (hq : q < 5) (ht : t < 6) (h1 : 1 ≤ k) (h2 : k < 5) : V 55 (30 * q + 5 * t + k) = 0 ∨ V 55 (30 * q + 5 * t + k) = 1 ∨ V 55 (30 * q + 5 * t + k) = 2 := h.2.2.2.2.2.2.2.2.2 q t k hq ht h1 h2
theorem szF_b {V : VV} (h : VI V) {q c : Nat} (hq : q < nqk V) (hc : c < 144) : 1 ≤ szF V q c ∧ szF V q c ≤ 31 ∧ sg V (fP V q) * (tv (slo V) c (cS V (sP V (fP V q))) + 1) < 2 ^ 31 := by
  obtain ⟨h3, h3'⟩ := h.hv.sl
  obtain ⟨hp, e1, e2⟩ := h.fp hq
  unfold szF
  generalize fP V q = p at hp e1 e2 ⊢
  obtain ⟨a1, a2, a3, a4⟩ := h.hv.pk hp
  obtain ⟨b1, b2, b3, b4⟩ := h.pq hp
  have ht := tv_lt h3' hc (h.hv.st a2).2.1
  have hm : sg V p * (tv (slo V) c (cS V (sP V p)) + 1) ≤ 1000000 * 312 := Nat.mul_le_mul b3 (by omega)
  have h0 : 1 * 1 ≤ sg V p * (tv (slo V) c (cS V (sP V p)) + 1) := Nat.mul_le_mul b2 (by omega)
  generalize sg V p * (tv (slo V) c (cS V (sP V p)) + 1) = w at hm h0 ⊢
  refine ⟨?_, bl_le.mp (by omega), by omega⟩
  rcases Nat.eq_zero_or_pos (bl w) with e | e
  · have := (bl_le (w := w) (k := 0)).mpr (by omega); omega
  · exact e
theorem lwF_b {V : VV} (h : VI V) {q : Nat} (hq : q < nqk V) : ∀ n, n ≤ 144 → -9 ≤ lwF V q n ∧ lwF V q n ≤ 31 ∧ (lwF V q n < 0 → lwF V q n = -9) ∧ (lwF V q n < 0 ↔ ncl V q n = 0) ∧ -9 ≤ hgF V q n ∧ hgF V q n ≤ 31 ∧ (hgF V q n < 0 → hgF V q n = -9)
  | 0, _ => by simp [lwF, hgF, ncl]
  | n + 1, hn => by
    obtain ⟨a1, a2, a3, a4, a5, a6, a7⟩ := lwF_b h hq n (by omega)
    obtain ⟨b1, b2, -⟩ := szF_b h hq (c := n) (by omega)
    unfold lwF hgF ncl
    by_cases hh : lo V q n ≤ hi V q n
    · simp only [if_pos hh]
      refine ⟨?_, ?_, ?_, ?_, ?_, ?_, ?_⟩ <;> (try split) <;> omega
    · simp only [if_neg hh]
      exact ⟨a1, a2, a3, a4, a5, a6, a7⟩
theorem lsF_b {V : VV} (h : VI V) {q t : Nat} (ht : t < ntw V) : ∀ n, n ≤ 144 → lsF V q t n ≤ 31
  | 0, _ => by simp [lsF]
  | n + 1, hn => by
    have ih := lsF_b h (q := q) ht n (by omega)
    obtain ⟨⟨-, -, ⟨-, h3⟩, -⟩, -, -, -, -, h6, -⟩ := h
    have hb : bl (tv (slo V) n (cT V t) + 1) ≤ 31 := bl_le.mp (by have := tv_lt h3 (show n < 144 by omega) (h6 t ht).2; omega)
    unfold lsF
    split <;> omega
section MRD
variable {g : Hp} {V V2 : VV} {z : Nat}
end MRD
