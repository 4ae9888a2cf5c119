theorem am_ck (k : Nat) (hk : k < am_mN) : am_chkM k = true := sorry
