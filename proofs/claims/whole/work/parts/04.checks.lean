/-! the greater facts of the tables -/
theorem ro_q20 : ∀ n, 2 ≤ n → n ≤ 5 → ro_all (fun a => ro_all (fun b => ro_gd n (fun i => ro_R n a (ro_R n b i - 1))) (ro_fc n)) (ro_fc n) = true :=
  ro_n4 _ (by decide +kernel) (by decide +kernel) (by decide +kernel) (by decide +kernel)
theorem ro_q21 : ∀ n, 2 ≤ n → n ≤ 5 → ro_all (fun o => ro_all (fun k => cond (Nat.beq (ro_ma n o (ro_fc n - k) (Nat.shiftLeft 1 k)) (ro_U n o k)) (Nat.beq (ro_md n o k (Nat.shiftLeft 1 k)) (ro_D n o k)) false) (ro_fc n)) 2 = true :=
  ro_n4 _ (by decide +kernel) (by decide +kernel) (by decide +kernel) (by decide +kernel)
theorem ro_q22 : ∀ n, 2 ≤ n → n ≤ 5 → ro_all (fun o => ro_all (fun k => Nat.beq (ro_cl n o (10 - ro_H n k) (Nat.shiftLeft 1 k)) (ro_U n o k)) (ro_fc n)) 2 = true :=
  ro_n4 _ (by decide +kernel) (by decide +kernel) (by decide +kernel) (by decide +kernel)
theorem ro_q23 : ∀ n, 2 ≤ n → n ≤ 5 → ro_all (fun o => ro_all (fun k => ro_all (fun j => cond (ro_tb (ro_D n o k) j) (ro_tb (ro_U n o j) k) (cond (ro_tb (ro_U n o j) k) false true)) (ro_fc n)) (ro_fc n)) 2 = true :=
  ro_n4 _ (by decide +kernel) (by decide +kernel) (by decide +kernel) (by decide +kernel)
theorem ro_q24 : ∀ n, 2 ≤ n → n ≤ 5 → ro_all (fun o => ro_all (fun s => cond (ro_tb (ro_U n o s) s) (ro_all (fun j => cond (ro_tb (ro_U n o s) j) (cond (Nat.beq (Nat.lor (ro_U n o s) (ro_U n o j)) (ro_U n o s)) (cond (Nat.beq s j) true (cond (Nat.ble (Nat.succ s) j) (Nat.ble (Nat.succ (ro_H n s)) (ro_H n j)) false)) false) true) (ro_fc n)) false) (ro_fc n)) 2 = true :=
  ro_n4 _ (by decide +kernel) (by decide +kernel) (by decide +kernel) (by decide +kernel)
theorem ro_q25 : ∀ n, 2 ≤ n → n ≤ 5 → ro_all (fun o => ro_all (fun s => ro_all (fun j => cond (ro_tb (ro_S n o s) j) (cond (Nat.ble (Nat.succ s) j) (Nat.beq (ro_H n j) (Nat.succ (ro_H n s))) false) true) (ro_fc n)) (ro_fc n)) 2 = true :=
  ro_n4 _ (by decide +kernel) (by decide +kernel) (by decide +kernel) (by decide +kernel)
theorem ro_q26 : ∀ n, 2 ≤ n → n ≤ 5 → ro_all (fun o => ro_all (fun j => cond (Nat.ble 1 (ro_B n o j)) (Nat.ble (ro_sb n o j j) (ro_B n o j)) false) (ro_fc n)) 2 = true :=
  ro_n4 _ (by decide +kernel) (by decide +kernel) (by decide +kernel) (by decide +kernel)
def ro_mt (n a b : Nat) : Nat := Nat.log2 (Nat.land (ro_D n 1 a) (ro_D n 1 b))
def ro_jn (n a b : Nat) : Nat := Nat.log2 (Nat.sub (Nat.land (ro_U n 1 a) (ro_U n 1 b)) (Nat.land (Nat.land (ro_U n 1 a) (ro_U n 1 b)) (Nat.sub (Nat.land (ro_U n 1 a) (ro_U n 1 b)) 1)))
theorem ro_q27 : ∀ n, 2 ≤ n → n ≤ 5 → ro_all (fun a => ro_all (fun b => cond (Nat.ble (Nat.succ (ro_mt n a b)) (ro_fc n)) (cond (ro_tb (ro_D n 1 a) (ro_mt n a b)) (cond (ro_tb (ro_D n 1 b) (ro_mt n a b)) (Nat.beq (Nat.lor (Nat.land (ro_D n 1 a) (ro_D n 1 b)) (ro_D n 1 (ro_mt n a b))) (ro_D n 1 (ro_mt n a b))) false) false) false) (ro_fc n)) (ro_fc n) = true :=
  ro_n4 _ (by decide +kernel) (by decide +kernel) (by decide +kernel) (by decide +kernel)
theorem ro_q28 : ∀ n, 2 ≤ n → n ≤ 5 → ro_all (fun a => ro_all (fun b => cond (Nat.ble (Nat.succ (ro_jn n a b)) (ro_fc n)) (cond (ro_tb (ro_U n 1 a) (ro_jn n a b)) (cond (ro_tb (ro_U n 1 b) (ro_jn n a b)) (Nat.beq (Nat.lor (Nat.land (ro_U n 1 a) (ro_U n 1 b)) (ro_U n 1 (ro_jn n a b))) (ro_U n 1 (ro_jn n a b))) false) false) false) (ro_fc n)) (ro_fc n) = true :=
  ro_n4 _ (by decide +kernel) (by decide +kernel) (by decide +kernel) (by decide +kernel)
theorem ro_q29 : ∀ n, 2 ≤ n → n ≤ 5 → ro_all (fun a => ro_all (fun b => cond (Nat.ble (Nat.pow 10 n) (Nat.add (Nat.mul 500 a) b)) true (cond (ro_ip n (Nat.add (Nat.mul 500 a) b)) (cond (Nat.ble (Nat.succ (ro_kc n (Nat.add (Nat.mul 500 a) b))) (ro_fc n)) (Nat.beq (ro_C n (ro_kc n (Nat.add (Nat.mul 500 a) b))) (Nat.add (Nat.mul 500 a) b)) false) true)) 500) 200 = true :=
  ro_n4 _ (by decide +kernel) (by decide +kernel) (by decide +kernel) (by decide +kernel)
theorem ro_q30 : ∀ n, 2 ≤ n → n ≤ 5 → ro_all (fun a => ro_all (fun b => cond (Nat.ble (Nat.pow 10 n) (Nat.add (Nat.mul 500 a) b)) true (cond (ro_rd n n (Nat.add (Nat.mul 500 a) b) 0) (cond (Nat.ble (Nat.succ (ro_kc n (Nat.add (Nat.mul 500 a) b))) (ro_fc n)) (Nat.beq (ro_C n (ro_kc n (Nat.add (Nat.mul 500 a) b))) (Nat.add (Nat.mul 500 a) b)) false) true)) 500) 200 = true :=
  ro_n4 _ (by decide +kernel) (by decide +kernel) (by decide +kernel) (by decide +kernel)
