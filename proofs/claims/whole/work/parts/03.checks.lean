/-! facts of the tables, each by running through them -/
theorem ro_q1 : ∀ n, 2 ≤ n → n ≤ 5 → ro_all (fun k => ro_all (fun j => cond (Nat.beq (ro_lr n k n j) (ro_R n k j)) (cond (Nat.ble 1 (ro_R n k j)) (Nat.ble (ro_R n k j) n) false) false) n) (ro_fc n) = true :=
  ro_n4 _ (by decide +kernel) (by decide +kernel) (by decide +kernel) (by decide +kernel)
theorem ro_q2 : ∀ n, 2 ≤ n → n ≤ 5 → ro_all (fun k => cond (Nat.beq (ro_rk (ro_R n k) n n) k) (cond (Nat.beq (ro_cd (ro_R n k) n) (ro_C n k)) (cond (Nat.beq (ro_iv (ro_R n k) n n) (ro_H n k)) (cond (Nat.ble (ro_H n k) 10) (cond (Nat.ble (Nat.succ (ro_V n k)) (ro_fc n)) (ro_gd n (fun j => ro_R n k (n - 1 - j))) false) false) false) false) false) (ro_fc n) = true :=
  ro_n4 _ (by decide +kernel) (by decide +kernel) (by decide +kernel) (by decide +kernel)
theorem ro_q3 : ∀ n, 2 ≤ n → n ≤ 5 → ro_all (fun k => ro_all (fun j => Nat.beq (ro_R n k (ro_R n (ro_V n k) j - 1)) (j + 1)) n) (ro_fc n) = true :=
  ro_n4 _ (by decide +kernel) (by decide +kernel) (by decide +kernel) (by decide +kernel)
theorem ro_q4 : ∀ n, 2 ≤ n → n ≤ 5 → ro_all (fun k => ro_all (fun i => ro_all (fun j => cond (Nat.beq (ro_R n k i) (ro_R n k j)) (Nat.beq i j) true) n) n) (ro_fc n) = true :=
  ro_n4 _ (by decide +kernel) (by decide +kernel) (by decide +kernel) (by decide +kernel)
theorem ro_q5 : ∀ n, 2 ≤ n → n ≤ 5 → ro_all (fun k => ro_all (fun i => ro_all (fun j => cond (Nat.beq (ro_rk (ro_sw (ro_R n k) i j) n n) (ro_E n k i j)) (ro_gd n (ro_sw (ro_R n k) i j)) false) n) n) (ro_fc n) = true :=
  ro_n4 _ (by decide +kernel) (by decide +kernel) (by decide +kernel) (by decide +kernel)
theorem ro_q6 : ∀ n, 2 ≤ n → n ≤ 5 → ro_all (fun k => cond (Nat.ble (ro_fc n) (k + 1)) true (Nat.ble (Nat.succ (ro_C n k)) (ro_C n (k + 1)))) (ro_fc n) = true :=
  ro_n4 _ (by decide +kernel) (by decide +kernel) (by decide +kernel) (by decide +kernel)
theorem ro_q7 : ∀ n, 2 ≤ n → n ≤ 5 → ro_all (fun k => cond (ro_rd n n (ro_C n k) 0) (cond (ro_ip n (ro_C n k)) (Nat.ble (Nat.succ (ro_C n k)) (Nat.pow 10 n)) false) false) (ro_fc n) = true :=
  ro_n4 _ (by decide +kernel) (by decide +kernel) (by decide +kernel) (by decide +kernel)
theorem ro_q8 : ∀ n, 2 ≤ n → n ≤ 5 → ro_all (fun k => cond (Nat.beq (ro_gx n k (ro_pr n 0)) (ro_G n 0 k)) (cond (Nat.beq (ro_gx n k (ro_pr n 1)) (ro_G n 1 k)) (cond (Nat.beq (ro_sx n k (ro_pr n 0)) (ro_S n 0 k)) (Nat.beq (ro_sx n k (ro_pr n 1)) (ro_S n 1 k)) false) false) false) (ro_fc n) = true :=
  ro_n4 _ (by decide +kernel) (by decide +kernel) (by decide +kernel) (by decide +kernel)
theorem ro_q9 : ∀ n, 2 ≤ n → n ≤ 5 → ro_all (fun k => cond (Nat.beq (ro_gy n 0 k (n * n)) (ro_G n 0 k)) (cond (Nat.beq (ro_gy n 1 k (n * n)) (ro_G n 1 k)) (cond (Nat.beq (ro_sy n 0 k (n * n)) (ro_S n 0 k)) (Nat.beq (ro_sy n 1 k (n * n)) (ro_S n 1 k)) false) false) false) (ro_fc n) = true :=
  ro_n4 _ (by decide +kernel) (by decide +kernel) (by decide +kernel) (by decide +kernel)
theorem ro_q10 : ∀ n, 2 ≤ n → n ≤ 5 → ro_all (fun k => ro_all (fun p => cond (Nat.beq (ro_H n (ro_e n k p)) (Nat.succ (ro_H n k))) (cond (ro_tb (ro_sx n k p) (ro_e n k p)) false true) true) (ro_np n)) (ro_fc n) = true :=
  ro_n4 _ (by decide +kernel) (by decide +kernel) (by decide +kernel) (by decide +kernel)
theorem ro_q11 : ∀ n, 2 ≤ n → n ≤ 5 → ro_all (fun k => ro_all (fun o => ro_all (fun x => cond (ro_nr o (x / n) (x % n)) (cond (Nat.beq (ro_H n (ro_f n k x)) (Nat.succ (ro_H n k))) (cond (ro_tb (ro_sy n o k x) (ro_f n k x)) false true) true) true) (n * n)) 2) (ro_fc n) = true :=
  ro_n4 _ (by decide +kernel) (by decide +kernel) (by decide +kernel) (by decide +kernel)
theorem ro_q12 : ∀ n, 2 ≤ n → n ≤ 5 → ro_all (fun k => ro_all (fun o => Nat.beq (ro_tx n k (ro_pr n o)) (ro_ty n o k (n * n))) 2) (ro_fc n) = true :=
  ro_n4 _ (by decide +kernel) (by decide +kernel) (by decide +kernel) (by decide +kernel)
theorem ro_q13 : ∀ n, 2 ≤ n → n ≤ 5 → ro_all (fun d => cond (Nat.ble 1 d) (ro_all (fun i => cond (Nat.beq (ro_pI n (ro_bs n d + i)) i) (cond (Nat.beq (ro_pJ n (ro_bs n d + i)) (i + d)) (Nat.ble (Nat.succ (ro_bs n d + i)) (ro_np n)) false) false) (n - d)) true) n = true :=
  ro_n4 _ (by decide +kernel) (by decide +kernel) (by decide +kernel) (by decide +kernel)
theorem ro_q14 : ∀ n, 2 ≤ n → n ≤ 5 → ro_all (fun p => cond (Nat.ble (Nat.succ (ro_pI n p)) n) (Nat.ble (Nat.succ (ro_pJ n p)) n) false) (ro_np n) = true :=
  ro_n4 _ (by decide +kernel) (by decide +kernel) (by decide +kernel) (by decide +kernel)
