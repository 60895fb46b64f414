/-! the pure pictures of both programs' loops -/
theorem ro_all_s {f : Nat → Bool} : ∀ m, ro_all f m = true → ∀ i, i < m → f i = true := by
  intro m
  induction m with
  | zero => intro _ i hi; exact absurd hi (Nat.not_lt_zero i)
  | succ m ih =>
    intro h i hi
    have h' : cond (f m) (ro_all f m) false = true := h
    cases e : f m with
    | false => rw [e] at h'; exact absurd h' Bool.false_ne_true
    | true =>
      rw [e] at h'
      by_cases q : i = m
      · rw [q]; exact e
      · exact ih h' i (by omega)
theorem ro_n4 (f : Nat → Bool) (h2 : f 2 = true) (h3 : f 3 = true) (h4 : f 4 = true) (h5 : f 5 = true) : ∀ n, 2 ≤ n → n ≤ 5 → f n = true := by
  intro n a b
  have h : n = 2 ∨ n = 3 ∨ n = 4 ∨ n = 5 := by omega
  rcases h with h | h | h | h <;> rw [h] <;> assumption
theorem ro_o2 (f : Nat → Bool) (h0 : f 0 = true) (h1 : f 1 = true) : ∀ o, o < 2 → f o = true := by
  intro o h
  have h : o = 0 ∨ o = 1 := by omega
  rcases h with h | h <;> rw [h] <;> assumption
theorem ro_and {a b : Bool} (h : cond a b false = true) : a = true ∧ b = true := by
  cases a
  · exact absurd h Bool.false_ne_true
  · exact ⟨rfl, h⟩
theorem ro_imp {a b : Bool} (h : cond a b true = true) (ha : a = true) : b = true := by
  rw [ha] at h; exact h
theorem ro_beq {a b : Nat} (h : Nat.beq a b = true) : a = b := Nat.eq_of_beq_eq_true h
theorem ro_ble {a b : Nat} (h : Nat.ble a b = true) : a ≤ b := Nat.le_of_ble_eq_true h
/-- how many j' with i < j' < j hold less than place i -/
noncomputable def ro_ct (r : Nat → Nat) (i j : Nat) : Nat := Nat.rec 0 (fun j ih => cond (Nat.ble (Nat.succ i) j) (cond (Nat.ble (Nat.succ (r j)) (r i)) (Nat.succ ih) ih) ih) j
noncomputable def ro_iv (r : Nat → Nat) (n i : Nat) : Nat := Nat.rec 0 (fun i ih => Nat.add ih (ro_ct r i n)) i
noncomputable def ro_rk (r : Nat → Nat) (n i : Nat) : Nat := Nat.rec 0 (fun i ih => Nat.add (Nat.mul ih (Nat.sub n i)) (ro_ct r i n)) i
noncomputable def ro_cd (r : Nat → Nat) (i : Nat) : Nat := Nat.rec 0 (fun i ih => Nat.add (Nat.mul ih 10) (r i)) i
noncomputable def ro_rs (k c : Nat) : Nat := Nat.rec k (fun c ih => Nat.div ih (Nat.succ c)) c
/-- the number that choice c + 1 writes -/
noncomputable def ro_dg (k c : Nat) : Nat := Nat.succ (Nat.mod (ro_rs k c) (Nat.succ c))
noncomputable def ro_lr (n k c : Nat) : Nat → Nat := Nat.rec (fun _ => 0) (fun c ih j => cond (Nat.beq j (Nat.sub n (Nat.succ c))) (ro_dg k c) (cond (Nat.ble (ro_dg k c) (ih j)) (Nat.succ (ih j)) (ih j))) c
def ro_sw (r : Nat → Nat) (i j x : Nat) : Nat := cond (Nat.beq x j) (r i) (cond (Nat.beq x i) (r j) (r x))
noncomputable def ro_gd (n : Nat) (r : Nat → Nat) : Bool := cond (Nat.ble (Nat.succ (ro_rk r n n)) (ro_fc n)) (Nat.beq (ro_cd r n) (ro_C n (ro_rk r n n))) false
/-- the pairs of places, by their distance -/
def ro_pd (n p : Nat) : Nat := cond (Nat.ble n p) (cond (Nat.ble (2 * n - 3) p) (cond (Nat.ble (3 * n - 6) p) 4 3) 2) (cond (Nat.ble (n - 1) p) 2 1)
def ro_bs (n d : Nat) : Nat := (d - 1) * n - (d - 1) * d / 2
def ro_pI (n p : Nat) : Nat := p - ro_bs n (ro_pd n p)
def ro_pJ (n p : Nat) : Nat := ro_pI n p + ro_pd n p
def ro_np (n : Nat) : Nat := n * (n - 1) / 2
def ro_pr (n o : Nat) : Nat := cond (Nat.beq o 0) (ro_np n) (n - 1)
def ro_e (n k p : Nat) : Nat := ro_E n k (ro_pI n p) (ro_pJ n p)
noncomputable def ro_gx (n k p : Nat) : Nat := Nat.rec 0 (fun p ih => cond (Nat.ble (Nat.succ (ro_H n k)) (ro_H n (ro_e n k p))) (Nat.lor ih (Nat.shiftLeft 1 (ro_e n k p))) ih) p
noncomputable def ro_sx (n k p : Nat) : Nat := Nat.rec 0 (fun p ih => cond (Nat.beq (ro_H n (ro_e n k p)) (Nat.succ (ro_H n k))) (Nat.lor ih (Nat.shiftLeft 1 (ro_e n k p))) ih) p
noncomputable def ro_tx (n k p : Nat) : Nat := Nat.rec 0 (fun p ih => cond (Nat.beq (ro_H n (ro_e n k p)) (Nat.succ (ro_H n k))) (Nat.succ ih) ih) p
def ro_nr (o i j : Nat) : Bool := cond (Nat.ble (Nat.succ i) j) (cond (Nat.beq o 0) true (Nat.beq j (Nat.succ i))) false
def ro_f (n k x : Nat) : Nat := ro_E n k (x / n) (x % n)
noncomputable def ro_gy (n o k x : Nat) : Nat := Nat.rec 0 (fun x ih => cond (ro_nr o (x / n) (x % n)) (cond (Nat.ble (Nat.succ (ro_H n k)) (ro_H n (ro_f n k x))) (Nat.lor ih (Nat.shiftLeft 1 (ro_f n k x))) ih) ih) x
noncomputable def ro_sy (n o k x : Nat) : Nat := Nat.rec 0 (fun x ih => cond (ro_nr o (x / n) (x % n)) (cond (Nat.beq (ro_H n (ro_f n k x)) (Nat.succ (ro_H n k))) (Nat.lor ih (Nat.shiftLeft 1 (ro_f n k x))) ih) ih) x
noncomputable def ro_ty (n o k x : Nat) : Nat := Nat.rec 0 (fun x ih => cond (ro_nr o (x / n) (x % n)) (cond (Nat.beq (ro_H n (ro_f n k x)) (Nat.succ (ro_H n k))) (Nat.succ ih) ih) ih) x
/-- X's marks above: q places are left -/
noncomputable def ro_ma (n o q : Nat) : Nat → Nat := Nat.rec (fun m => m) (fun q ih m => ih (cond (ro_tb m (Nat.sub (ro_fc n) (Nat.succ q))) (Nat.lor m (ro_G n o (Nat.sub (ro_fc n) (Nat.succ q)))) m)) q
/-- X's marks below: r places are left -/
noncomputable def ro_md (n o r : Nat) : Nat → Nat := Nat.rec (fun m => m) (fun r ih m => ih (cond (Nat.beq (Nat.land (ro_G n o r) m) 0) m (Nat.lor m (Nat.shiftLeft 1 r)))) r
/-- Y's climb through one height, through all -/
noncomputable def ro_cq (n o h q : Nat) : Nat → Nat := Nat.rec (fun m => m) (fun q ih m => ih (cond (ro_tb m (Nat.sub (ro_fc n) (Nat.succ q))) (cond (Nat.beq (ro_H n (Nat.sub (ro_fc n) (Nat.succ q))) h) (Nat.lor m (ro_G n o (Nat.sub (ro_fc n) (Nat.succ q)))) m) m)) q
noncomputable def ro_cl (n o r : Nat) : Nat → Nat := Nat.rec (fun m => m) (fun r ih m => ih (ro_cq n o (Nat.sub 10 (Nat.succ r)) (ro_fc n) m)) r
/-- Y's set of digits -/
noncomputable def ro_pm (f : Nat) : Nat → Nat → Nat := Nat.rec (fun s _ => s) (fun _ ih s x => cond (Nat.beq x 0) s (ih (Nat.lor s (Nat.shiftLeft 1 (Nat.mod x 10))) (Nat.div x 10))) f
noncomputable def ro_ip (n c : Nat) : Bool := Nat.beq (ro_pm 5 0 c) (Nat.sub (Nat.shiftLeft 1 (Nat.succ n)) 2)
/-- the digits of c as a row -/
def ro_dr (n c j : Nat) : Nat := Nat.mod (Nat.div c (Nat.pow 10 (Nat.sub (Nat.sub n 1) j))) 10
noncomputable def ro_kc (n c : Nat) : Nat := ro_rk (ro_dr n c) n n
/-- X's reading of a code: i places are left -/
noncomputable def ro_rd (n i : Nat) : Nat → Nat → Bool := Nat.rec (fun x _ => Nat.beq x 0) (fun _ ih x s => cond (Nat.beq (Nat.mod x 10) 0) false (cond (Nat.ble (Nat.succ n) (Nat.mod x 10)) false (cond (ro_tb s (Nat.mod x 10)) false (ih (Nat.div x 10) (Nat.lor s (Nat.shiftLeft 1 (Nat.mod x 10))))))) i
noncomputable def ro_sb (n o j m : Nat) : Nat := Nat.rec 0 (fun s ih => cond (ro_tb (ro_S n o s) j) (Nat.add ih (ro_B n o s)) ih) m
