/-! the model's leaves -/
theorem s_l : ∀ n, n < 32 → ((nI n &&& 31).toBitVec.smod 32).toNat = n := by decide +kernel
theorem shr_nI {w n : Nat} (hw : w < 2 ^ 31) (hn : n < 32) : nI w >>> (nI n &&& 31) = nI (w / 2 ^ n) := pk_shrN hw _ n (s_l n hn)
theorem rmI_n {a d : Nat} (ha : a < 2 ^ 31) (h0 : 0 < d) (hd : d < 2 ^ 31) : rmI (nI a) (nI d) = some (nI (a % d)) := by
  unfold rmI
  rw [if_neg (nI_ne0 h0 hd), pk_rem ha h0 hd]
theorem dvI_n {a d : Nat} (ha : a < 2 ^ 31) (h0 : 0 < d) (hd : d < 2 ^ 31) : dvI (nI a) (nI d) = some (nI (a / d)) := by
  unfold dvI
  rw [if_neg (nI_ne0 h0 hd), pk_div ha h0 hd]
section MLE
variable {g : Hp} {V : VV} {z : Nat}
end MLE
