/-! the model lays a heap -/
section MHE
variable {g : Hp} {V : VV} {z : Nat}
theorem EqR.rf (V : VV) : EqR V V := fun _ _ _ => rfl
theorem EqR.tr {a b c : VV} (h : EqR a b) (h2 : EqR b c) : EqR a c := fun k h3 h4 => (h2 k h3 h4).trans (h k h3 h4)
theorem EqR.s2 {V V2 : VV} {k : Nat} {v : Int32} (h : EqR V V2) : EqR V (vs V2 52 k v) := fun c h1 h2 => (vs_ne h1).trans (h c h1 h2)
theorem EqR.s3 {V V2 : VV} {k : Nat} {v : Int32} (h : EqR V V2) : EqR V (vs V2 53 k v) := fun c h1 h2 => (vs_ne h2).trans (h c h1 h2)
/-- only place c of the two rows -/
def At1 (c : Nat) (V V2 : VV) : Prop := ∀ r, r = 52 ∨ r = 53 → ∀ k, k ≠ c → V2 r k = V r k
theorem At1.rf (c : Nat) (V : VV) : At1 c V V := fun _ _ _ _ => rfl
theorem At1.tr {c : Nat} {a b d : VV} (h : At1 c a b) (h2 : At1 c b d) : At1 c a d := fun r hr k hk => (h2 r hr k hk).trans (h r hr k hk)
theorem At1.s {c r : Nat} {V V2 : VV} {v : Int32} (h : At1 c V V2) : At1 c V (vs V2 r c v) := fun r2 hr k hk => (vs_nk hk).trans (h r2 hr k hk)
theorem setHeap9_P (hz : 2000 ≤ z) (h : SM g) (hV : HV V) {q c : Nat} (hc : c < 144) (v2 : Int32) : ∀ (n i : Nat) (V1 : VV), EqR V V1 → i ≤ npk V → npk V - i < n → V1 52 c = iI (loP V q c i) → V1 53 c = iI (hiP V q c i) →
    ∃ V2, f_X9_setHeap_30_L z (nI c) v2 (some (10, 0)) (nI q) n (nI i) (wM g V1) = some (nI (npk V), wM g V2) ∧ EqR V V2 ∧ At1 c V1 V2 ∧ V2 52 c = iI (loP V q c (npk V)) ∧ V2 53 c = iI (hiP V q c (npk V))
  | 0, i, _, _, _, h2, _, _ => absurd h2 (Nat.not_lt_zero _)
  | n + 1, i, V1, hE, h1, h2, h3, h4 => by
    obtain ⟨⟨-, a1⟩, ⟨a2, a3⟩, ⟨a4, a5⟩, ⟨a6, a7⟩, ⟨a8, a9⟩, a10, a11⟩ := id hV
    have e10 : V1 10 = V 10 := hE 10 (by decide) (by decide)
    have hvc : ∀ r, r = 52 ∨ r = 53 → vp_in (nI c) (mLen r) := fun r hr => by rcases hr with e | e <;> subst e <;> exact vp_n (N := 144) hc (by decide)
    have hcl : (nI c).toNatClampNeg = c := nI_cl (by omega)
    show ∃ V2, f_X9_setHeap_30_b z (nI c) v2 (some (10, 0)) (nI q) (f_X9_setHeap_30_L z (nI c) v2 (some (10, 0)) (nI q) n) (nI i) (wM g V1) = some (nI (npk V), wM g V2) ∧ _
    unfold f_X9_setHeap_30_b
    simp only [gi_M, Option.bind_some, e10, a2]
    by_cases he : npk V ≤ i
    · have e : i = npk V := by omega
      rw [if_pos ((nI_leI (by omega) (by omega)).mpr he)]
      subst e
      exact ⟨V1, rfl, hE, At1.rf _ _, h3, h4⟩
    · rw [if_neg (fun w => he ((nI_leI (by omega) (by omega)).mp w))]
      have hv : ∀ r, mLen r = 60 → vp_in (nI i) (mLen r) := fun r hr => by rw [hr]; exact vp_n (by omega) (by decide)
      have hic : (nI i).toNatClampNeg = i := nI_cl (by omega)
      obtain ⟨b1, b2, b3, b4⟩ := a11 i (by omega)
      simp only [gr_M h, mRef, Option.bind_some]
      rw [al_M h (by decide) (by decide) (hv 50 rfl)]
      simp only [Option.bind_some, hic, hE 50 (by decide) (by decide)]
      by_cases h5 : V 50 i = nI q
      · have c1 := a10 _ b2
        have hvs : vp_in (nI (sP V i)) (mLen 41) := vp_n (N := 10) (by omega) (by decide)
        rw [if_pos h5, al_M h (by decide) (by decide) (hv 48 rfl)]
        simp only [Option.bind_some, hic, hE 48 (by decide) (by decide)]
        rw [al_M h (by decide) (by decide) (hv 47 rfl)]
        simp only [Option.bind_some, hic, hE 47 (by decide) (by decide), b1]
        rw [al_M h (by decide) (by decide) hvs]
        simp only [Option.bind_some, nI_cl (show sP V i < 2147483648 by omega), hE 41 (by decide) (by decide), c1.1, ick_M]
        rw [travels9 hz (by rw [e10]; exact a4) a5 hc c1.2.1]
        simp only [Option.bind_some, gr_M h, gi_M, mRef, e10, a6]
        rw [al_M h (by decide) (by decide) (hvc 52 (Or.inl rfl))]
        simp only [Option.bind_some, hcl, h3, b3]
        have htv := TV_b a5 hc c1.2.1
        have hlb := loP_b hV (q := q) hc i h1
        have hhb := hiP_b hV (q := q) hc i h1
        have e1 : nI (tk V i) - nI (tv (slo V) c (cS V (sP V i))) = iI (pkT V i c) := by
          rw [nI_iI, nI_iI, iI_sub]; rfl
        have hpk : -311 ≤ pkT V i c ∧ pkT V i c ≤ 100000 := by unfold pkT; omega
        rw [e1]
        have e2 : iI (pkT V i c) - nI (err V) = iI (pkT V i c - err V) := by rw [nI_iI, iI_sub]
        have e3 : iI (pkT V i c) + nI (err V) = iI (pkT V i c + err V) := by rw [nI_iI, iI_add]
        rw [e2]
        have hm : (if iI (pkT V i c - err V) ≤ iI (loP V q c i) then some (iI (loP V q c i)) else some (iI (pkT V i c - err V))) = some (iI (max (loP V q c i) (pkT V i c - err V))) := by
          rw [← iI_max (by omega) (by omega) (by omega) (by omega)]; split <;> rfl
        rw [hm]
        simp only [Option.bind_some]
        rw [as_M h (by decide) (by decide) (hvc 52 (Or.inl rfl))]
        simp only [Option.bind_some, gr_M h, gi_M, mRef, hcl, vs_ne (show 10 ≠ 52 by decide), e10, a6]
        rw [al_M h (by decide) (by decide) (hvc 53 (Or.inr rfl))]
        simp only [Option.bind_some, hcl, vs_ne (show 53 ≠ 52 by decide), h4, e3]
        have hlo : loP V q c (i + 1) = max (loP V q c i) (pkT V i c - err V) := by simp [loP, h5]
        have hhi : hiP V q c (i + 1) = min (hiP V q c i) (pkT V i c + err V) := by simp [hiP, h5]
        have hgo : ∀ w : Int32, w = iI (hiP V q c (i + 1)) → ∃ V2, f_X9_setHeap_30_L z (nI c) v2 (some (10, 0)) (nI q) n (nI i + 1) (wM g (vs (vs V1 52 c (iI (max (loP V q c i) (pkT V i c - err V)))) 53 c w)) = some (nI (npk V), wM g V2) ∧ EqR V V2 ∧ At1 c V1 V2 ∧ V2 52 c = iI (loP V q c (npk V)) ∧ V2 53 c = iI (hiP V q c (npk V)) := by
          intro w hw
          obtain ⟨V2, k1, k2, k3, k4⟩ := setHeap9_P hz h hV hc v2 n (i + 1) (vs (vs V1 52 c (iI (max (loP V q c i) (pkT V i c - err V)))) 53 c w) hE.s2.s3 (by omega) (by omega) (by rw [vs_ne (by decide), vs_eq, hlo]) (by rw [vs_eq, hw])
          exact ⟨V2, by rw [nI_1]; exact k1, k2, ((At1.rf c V1).s.s).tr k3, k4⟩
        by_cases h7 : iI (hiP V q c i) ≤ iI (pkT V i c + err V)
        · rw [if_pos h7]
          try simp only [gr_M h, mRef, Option.bind_some]
          try rw [al_M h (by decide) (by decide) (hvc 53 (Or.inr rfl))]
          try simp only [Option.bind_some]
          rw [as_M h (by decide) (by decide) (hvc 53 (Or.inr rfl))]
          try simp only [Option.bind_some, hcl]
          refine hgo _ ?_
          rw [hhi, ← iI_min (by omega) (by omega) (by omega) (by omega), if_pos h7]
        · rw [if_neg h7]
          try simp only [gi_M, vs_ne (show 10 ≠ 52 by decide), e10, a6, e3, Option.bind_some]
          rw [as_M h (by decide) (by decide) (hvc 53 (Or.inr rfl))]
          try simp only [Option.bind_some, hcl]
          refine hgo _ ?_
          rw [hhi, ← iI_min (by omega) (by omega) (by omega) (by omega), if_neg h7]
      · rw [if_neg h5, nI_1]
        exact setHeap9_P hz h hV hc v2 n (i + 1) V1 hE (by omega) (by omega) (by rw [h3]; simp [loP, h5]) (by rw [h4]; simp [hiP, h5])
/-- the silent stations: the loop ends where the cell is over -/
theorem setHeap9_S (hz : 2000 ≤ z) (h : SM g) (hV : HV V) {q c : Nat} (hc : c < 144) (v2 : Int32) : ∀ (n i : Nat) (V1 : VV), EqR V V1 → i ≤ nst V → nst V - i < n → V1 52 c = iI (loS V q c i) → V1 53 c = iI (hi V q c) →
    ∃ (V2 : VV) (w : Int32), f_X9_setHeap_162_L z (nI c) v2 (some (10, 0)) (nI q) n (nI i) (wM g V1) = some (w, wM g V2) ∧ EqR V V2 ∧ At1 c V1 V2 ∧ V2 53 c = iI (hi V q c) ∧ ∃ x : Int, V2 52 c = iI x ∧ -1000000000 ≤ x ∧ x ≤ 100100 ∧ (x ≤ hi V q c ↔ lo V q c ≤ hi V q c) ∧ (lo V q c ≤ hi V q c → x = lo V q c)
  | 0, i, _, _, _, h2, _, _ => absurd h2 (Nat.not_lt_zero _)
  | n + 1, i, V1, hE, h1, h2, h3, h4 => by
    obtain ⟨⟨a0, a1⟩, ⟨a2, a3⟩, ⟨a4, a5⟩, ⟨a6, a7⟩, ⟨a8, a9⟩, a10, a11⟩ := id hV
    have e10 : V1 10 = V 10 := hE 10 (by decide) (by decide)
    have hvc : ∀ r, r = 52 ∨ r = 53 → vp_in (nI c) (mLen r) := fun r hr => by rcases hr with e | e <;> subst e <;> exact vp_n (N := 144) hc (by decide)
    have hcl : (nI c).toNatClampNeg = c := nI_cl (by omega)
    have hlb := loS_b hV (q := q) hc i h1
    have hhb : -400 ≤ hi V q c ∧ hi V q c ≤ 1000000000 := hiP_b hV (q := q) hc _ (Nat.le_refl _)
    show ∃ (V2 : VV) (w : Int32), f_X9_setHeap_162_b z (nI c) v2 (some (10, 0)) (nI q) (f_X9_setHeap_162_L z (nI c) v2 (some (10, 0)) (nI q) n) (nI i) (wM g V1) = some (w, wM g V2) ∧ _
    unfold f_X9_setHeap_162_b
    simp only [gi_M, Option.bind_some, e10, a0]
    by_cases he : nst V ≤ i
    · have e : i = nst V := by omega
      rw [if_pos ((nI_leI (by omega) (by omega)).mpr he)]
      subst e
      exact ⟨V1, _, rfl, hE, At1.rf _ _, h4, _, h3, hlb.1, by omega, Iff.rfl, fun _ => rfl⟩
    · rw [if_neg (fun w => he ((nI_leI (by omega) (by omega)).mp w))]
      try simp only [gr_M h, mRef, Option.bind_some]
      try rw [al_M h (by decide) (by decide) (hvc 52 (Or.inl rfl))]
      try simp only [Option.bind_some, hcl, h3]
      try rw [al_M h (by decide) (by decide) (hvc 53 (Or.inr rfl))]
      simp only [Option.bind_some, hcl, h4]
      by_cases h5 : iI (hi V q c) < iI (loS V q c i)
      · rw [if_pos h5]
        have h6 := (iI_lt (by omega) (by omega) (by omega) (by omega)).mp h5
        have h7 : loS V q c i ≤ lo V q c := loS_mono _ h1
        exact ⟨V1, _, rfl, hE, At1.rf _ _, h4, _, h3, hlb.1, by omega, ⟨fun q => by omega, fun q => by omega⟩, fun q => by omega⟩
      · rw [if_neg h5]
        have c1 := a10 i (by omega)
        have hic : (nI i).toNatClampNeg = i := nI_cl (by omega)
        have hvi : vp_in (nI i) (mLen 41) := vp_n (N := 10) (by omega) (by decide)
        have hv60 : vp_in (nI i) 10 := vp_n (N := 10) (by omega) (by decide)
        have htv := TV_b a5 hc c1.2.1
        rw [al_M h (by decide) (by decide) hvi]
        simp only [Option.bind_some, hic, hE 41 (by decide) (by decide), c1.1, ick_M]
        rw [travels9 hz (by rw [e10]; exact a4) a5 hc c1.2.1]
        simp only [Option.bind_some, gr_M h, gi_M, mRef, e10, a6, a8]
        rw [az_M h hv60]
        simp only [Option.bind_some, hic, hE 60 (by decide) (by decide)]
        have e1 : nI (nw V) - nI (tv (slo V) c (cS V i)) - nI (err V) = iI ((nw V : Int) - TV V c (cS V i) - err V) := by
          rw [nI_iI, nI_iI, nI_iI, iI_sub, iI_sub]; rfl
        rw [e1]
        have hgo : ∀ (V3 : VV), EqR V V3 → At1 c V1 V3 → V3 53 c = iI (hi V q c) → V3 52 c = iI (loS V q c (i + 1)) → ∃ (V2 : VV) (w : Int32), f_X9_setHeap_162_L z (nI c) v2 (some (10, 0)) (nI q) n (nI i + 1) (wM g V3) = some (w, wM g V2) ∧ EqR V V2 ∧ At1 c V1 V2 ∧ V2 53 c = iI (hi V q c) ∧ ∃ x : Int, V2 52 c = iI x ∧ -1000000000 ≤ x ∧ x ≤ 100100 ∧ (x ≤ hi V q c ↔ lo V q c ≤ hi V q c) ∧ (lo V q c ≤ hi V q c → x = lo V q c) := by
          intro V3 k1 k2 k3 k4
          obtain ⟨V2, w, j1, j2, j3, j4⟩ := setHeap9_S hz h hV hc v2 n (i + 1) V3 k1 (by omega) (by omega) k4 k3
          exact ⟨V2, w, by rw [nI_1]; exact j1, j2, k2.tr j3, j4⟩
        have hkeep : loS V q c (i + 1) = loS V q c i → ∃ (V2 : VV) (w : Int32), f_X9_setHeap_162_L z (nI c) v2 (some (10, 0)) (nI q) n (nI i + 1) (wM g (vs V1 52 c (iI (loS V q c i)))) = some (w, wM g V2) ∧ EqR V V2 ∧ At1 c V1 V2 ∧ V2 53 c = iI (hi V q c) ∧ ∃ x : Int, V2 52 c = iI x ∧ -1000000000 ≤ x ∧ x ≤ 100100 ∧ (x ≤ hi V q c ↔ lo V q c ≤ hi V q c) ∧ (lo V q c ≤ hi V q c → x = lo V q c) := by
          intro hk
          exact hgo _ hE.s2 ((At1.rf c V1).s) (by rw [vs_ne (by decide)]; exact h4) (by rw [vs_eq, hk])
        by_cases h6 : V 60 i = 0
        · rw [if_pos h6]
          try simp only [gr_M h, mRef, Option.bind_some]
          try rw [al_M h (by decide) (by decide) (hvc 52 (Or.inl rfl))]
          try simp only [Option.bind_some, hcl, h3]
          have hb2 : -2147483648 ≤ (nw V : Int) - TV V c (cS V i) - err V ∧ (nw V : Int) - TV V c (cS V i) - err V < 2147483648 := by omega
          by_cases h7 : iI ((nw V : Int) - TV V c (cS V i) - err V) ≤ iI (loS V q c i)
          · rw [if_pos h7]
            have h8 := (iI_le hb2.1 hb2.2 (by omega) (by omega)).mp h7
            try simp only [gr_M h, mRef, Option.bind_some]
            try rw [al_M h (by decide) (by decide) (hvc 52 (Or.inl rfl))]
            try simp only [Option.bind_some, hcl, h3]
            rw [as_M h (by decide) (by decide) (hvc 52 (Or.inl rfl))]
            try simp only [Option.bind_some, hcl]
            refine hkeep ?_
            conv => lhs; unfold loS
            split <;> omega
          · rw [if_neg h7]
            have h8 : ¬ (nw V : Int) - TV V c (cS V i) - err V ≤ loS V q c i := fun w => h7 ((iI_le hb2.1 hb2.2 (by omega) (by omega)).mpr w)
            rw [hears9 hz h (by rw [e10]; show V 10 15 = nI ((V1 10 15).toNatClampNeg); rw [e10]; exact a2) (by show (V1 10 15).toNatClampNeg ≤ 60; rw [e10]; exact a3) q i]
            have hh : hrd V1 q i (npk V1) = hrd V q i (npk V) := by
              have e1 : npk V1 = npk V := by show (V1 10 15).toNatClampNeg = _; rw [e10]; rfl
              rw [e1]
              have : ∀ p, hrd V1 q i p = hrd V q i p := by
                intro p
                induction p with
                | zero => rfl
                | succ p ih => simp only [hrd, ih, hE 50 (by decide) (by decide), hE 47 (by decide) (by decide)]
              exact this _
            rw [hh]
            try simp only [Option.bind_some]
            by_cases h9 : hrd V q i (npk V) = true
            · simp only [h9, if_true]
              rw [if_neg (by decide)]
              try simp only [gr_M h, mRef, Option.bind_some]
              try rw [al_M h (by decide) (by decide) (hvc 52 (Or.inl rfl))]
              try simp only [Option.bind_some, hcl, h3]
              rw [as_M h (by decide) (by decide) (hvc 52 (Or.inl rfl))]
              try simp only [Option.bind_some, hcl]
              refine hkeep ?_
              conv => lhs; unfold loS
              simp [h9]
            · simp only [h9, Bool.false_eq_true, if_false, if_true]
              rw [as_M h (by decide) (by decide) (hvc 52 (Or.inl rfl))]
              try simp only [Option.bind_some, hcl]
              refine hgo _ hE.s2 ((At1.rf c V1).s) (by rw [vs_ne (by decide)]; exact h4) ?_
              rw [vs_eq]
              congr 1
              conv => rhs; unfold loS
              simp only [h6, h9, true_and, if_true]
              omega
        · rw [if_neg h6]
          try simp only [gr_M h, mRef, Option.bind_some]
          try rw [al_M h (by decide) (by decide) (hvc 52 (Or.inl rfl))]
          try simp only [Option.bind_some, hcl, h3]
          rw [as_M h (by decide) (by decide) (hvc 52 (Or.inl rfl))]
          try simp only [Option.bind_some, hcl]
          refine hkeep ?_
          conv => lhs; unfold loS
          simp [h6]
theorem HP.ext {V V2 V3 : VV} {q n : Nat} (h : HP V q V2 n) (hA : ∀ r, r = 52 ∨ r = 53 → ∀ k, k < n → V3 r k = V2 r k) : HP V q V3 n := by
  intro c hc
  rw [hA 52 (Or.inl rfl) c hc, hA 53 (Or.inr rfl) c hc]
  exact h c hc
theorem setHeap9_C (hz : 2000 ≤ z) (h : SM g) (hV : HV V) (q : Nat) : ∀ (n c : Nat) (V1 : VV), EqR V V1 → c ≤ 144 → 144 - c < n → HP V q V1 c →
    ∃ V2, f_X9_setHeap_4_L z (some (10, 0)) (nI q) n (nI c) (nI (ncl V q c)) (wM g V1) = some (144, nI (ncl V q 144), wM g V2) ∧ EqR V V2 ∧ HP V q V2 144
  | 0, i, _, _, _, h2, _ => absurd h2 (Nat.not_lt_zero _)
  | n + 1, c, V1, hE, h1, h2, h3 => by
    show ∃ V2, f_X9_setHeap_4_b z (some (10, 0)) (nI q) (f_X9_setHeap_4_L z (some (10, 0)) (nI q) n) (nI c) (nI (ncl V q c)) (wM g V1) = some (144, nI (ncl V q 144), wM g V2) ∧ _
    unfold f_X9_setHeap_4_b
    rw [show (144 : Int32) = nI 144 from rfl]
    by_cases he : 144 ≤ c
    · have e : c = 144 := by omega
      rw [if_pos ((nI_leI (by omega) (by omega)).mpr he)]
      subst e
      exact ⟨V1, rfl, hE, h3⟩
    · rw [if_neg (fun w => he ((nI_leI (by omega) (by omega)).mp w))]
      have hvc : ∀ r, r = 52 ∨ r = 53 → vp_in (nI c) (mLen r) := fun r hr => by rcases hr with e | e <;> subst e <;> exact vp_n (N := 144) (by omega) (by decide)
      have hcl : (nI c).toNatClampNeg = c := nI_cl (by omega)
      try simp only [gr_M h, mRef, Option.bind_some]
      rw [as_M h (by decide) (by decide) (hvc 52 (Or.inl rfl))]
      simp only [gr_M h, mRef, Option.bind_some, hcl]
      rw [as_M h (by decide) (by decide) (hvc 53 (Or.inr rfl))]
      try simp only [Option.bind_some, hcl]
      obtain ⟨V2, k1, k2, k3, k4, k5⟩ := setHeap9_P hz h hV (q := q) (c := c) (by omega) (nI (ncl V q c)) z 0 (vs (vs V1 52 c (-1000000000)) 53 c 1000000000) hE.s2.s3 (Nat.zero_le _) (by have := hV.2.1.2; omega) (by rw [vs_ne (by decide), vs_eq]; exact (by decide : (-1000000000 : Int32) = iI (-1000000000))) (by rw [vs_eq]; exact (by decide : (1000000000 : Int32) = iI 1000000000))
      rw [show (0 : Int32) = nI 0 from rfl, k1]
      try simp only [Option.bind_some]
      obtain ⟨V3, w, j1, j2, j3, j4, x, j5, j6, j7, j8, j9⟩ := setHeap9_S hz h hV (q := q) (c := c) (by omega) (nI (ncl V q c)) z 0 V2 k2 (Nat.zero_le _) (by have := hV.1.2; omega) k4 k5
      rw [j1]
      try simp only [gr_M h, mRef, Option.bind_some]
      rw [al_M h (by decide) (by decide) (hvc 52 (Or.inl rfl)), al_M h (by decide) (by decide) (hvc 53 (Or.inr rfl))]
      simp only [Option.bind_some, hcl, j4, j5]
      have hhb : -400 ≤ hi V q c ∧ hi V q c ≤ 1000000000 := hiP_b hV (q := q) (by omega) _ (Nat.le_refl _)
      have hcount : (if iI (hi V q c) < iI x then some (nI 0) else some 1) = some (nI (if lo V q c ≤ hi V q c then 1 else 0)) := by
        by_cases h5 : iI (hi V q c) < iI x
        · rw [if_pos h5]
          have h6 := (iI_lt (by omega) (by omega) (by omega) (by omega)).mp h5
          rw [if_neg (fun w => by have := j8.mpr w; omega)]
        · rw [if_neg h5]
          have h6 : ¬ hi V q c < x := fun w => h5 ((iI_lt (by omega) (by omega) (by omega) (by omega)).mpr w)
          rw [if_pos (j8.mp (by omega))]; rfl
      rw [hcount]
      simp only [Option.bind_some, nI_1, nI_add]
      have hn2 : ncl V q c + (if lo V q c ≤ hi V q c then 1 else 0) = ncl V q (c + 1) := by
        conv => rhs; unfold ncl
        split <;> rfl
      rw [hn2]
      refine setHeap9_C hz h hV q n (c + 1) V3 j2 (by omega) (by omega) ?_
      intro c2 hc2
      by_cases hcc : c2 = c
      · subst hcc
        exact ⟨j4, x, j5, j6, j7, j8, j9⟩
      · have := HP.ext (V3 := V3) h3 (fun r hr k hk => by
          have hkc : k ≠ c := by omega
          rw [j3 r hr k hkc, k3 r hr k hkc, vs_nk hkc, vs_nk hkc])
        exact this c2 (by omega)
theorem setHeap9 (hz : 2000 ≤ z) (h : SM g) (hV : HV V) (q : Nat) : ∃ V2, f_X9_setHeap z (some (10, 0)) (nI q) (wM g V) = some (nI (ncl V q 144), wM g V2) ∧ EqR V V2 ∧ HP V q V2 144 := by
  obtain ⟨V2, k1, k2, k3⟩ := setHeap9_C hz h hV q z 0 V (EqR.rf V) (by omega) (by omega) (fun c hc => absurd hc (Nat.not_lt_zero _))
  refine ⟨V2, ?_, k2, k3⟩
  unfold f_X9_setHeap
  have e : f_X9_setHeap_4_L z (some (10, 0)) (nI q) z 0 0 (wM g V) = some (144, nI (ncl V q 144), wM g V2) := k1
  rw [e]
  rfl
end MHE
