section OPI
variable {z : Nat}
theorem ap_cntA {U : VV} {s t : Nat} {c qv : Int32} (hp : npk U < 60) : cnt (apV U s t c qv) = nst U + ntw U + (npk U + 1) + nqk U + kp U := by
  unfold cnt
  rw [ap_ns, ap_nt, ap_np hp, ap_nq, kp_e (ap_ev.2 24 (by decide))]
end OPI
