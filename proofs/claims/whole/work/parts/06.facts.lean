/-! the facts of the tables, as the walks use them -/
theorem ro_c120 (n : Nat) : ro_fc n ≤ 120 ∧ 2 ≤ ro_fc n := by
  unfold ro_fc
  cases Nat.beq n 5
  · cases Nat.beq n 4
    · cases Nat.beq n 3 <;> decide
    · exact ⟨(by decide : 24 ≤ 120), (by decide : 2 ≤ 24)⟩
  · exact ⟨(by decide : 120 ≤ 120), (by decide : 2 ≤ 120)⟩
theorem ro_fR {n : Nat} (h2 : 2 ≤ n) (h5 : n ≤ 5) {k : Nat} (hk : k < ro_fc n) {j : Nat} (hj : j < n) : ro_lr n k n j = ro_R n k j ∧ 1 ≤ ro_R n k j ∧ ro_R n k j ≤ n := by
  have h := ro_and (ro_all_s _ (ro_all_s _ (ro_q1 n h2 h5) k hk) j hj)
  have h' := ro_and h.2
  exact ⟨ro_beq h.1, ro_ble h'.1, ro_ble h'.2⟩
theorem ro_f2 {n : Nat} (h2 : 2 ≤ n) (h5 : n ≤ 5) {k : Nat} (hk : k < ro_fc n) : ro_rk (ro_R n k) n n = k ∧ ro_cd (ro_R n k) n = ro_C n k ∧ ro_iv (ro_R n k) n n = ro_H n k ∧ ro_H n k ≤ 10 ∧ ro_V n k < ro_fc n ∧ ro_gd n (fun j => ro_R n k (n - 1 - j)) = true := by
  have a := ro_and (ro_all_s _ (ro_q2 n h2 h5) k hk)
  have b := ro_and a.2
  have c := ro_and b.2
  have d := ro_and c.2
  have e := ro_and d.2
  exact ⟨ro_beq a.1, ro_beq b.1, ro_beq c.1, ro_ble d.1, ro_ble e.1, e.2⟩
theorem ro_f3 {n : Nat} (h2 : 2 ≤ n) (h5 : n ≤ 5) {k : Nat} (hk : k < ro_fc n) {j : Nat} (hj : j < n) : ro_R n k (ro_R n (ro_V n k) j - 1) = j + 1 :=
  ro_beq (ro_all_s _ (ro_all_s _ (ro_q3 n h2 h5) k hk) j hj)
theorem ro_f4 {n : Nat} (h2 : 2 ≤ n) (h5 : n ≤ 5) {k : Nat} (hk : k < ro_fc n) {i j : Nat} (hi : i < n) (hj : j < n) (e : ro_R n k i = ro_R n k j) : i = j :=
  ro_beq (ro_imp (ro_all_s _ (ro_all_s _ (ro_all_s _ (ro_q4 n h2 h5) k hk) i hi) j hj) (by rw [e]; exact Nat.beq_refl _))
theorem ro_gdd {n : Nat} {r : Nat → Nat} (h : ro_gd n r = true) : ro_rk r n n < ro_fc n ∧ ro_cd r n = ro_C n (ro_rk r n n) := by
  have a := ro_and h
  exact ⟨ro_ble a.1, ro_beq a.2⟩
theorem ro_f5 {n : Nat} (h2 : 2 ≤ n) (h5 : n ≤ 5) {k : Nat} (hk : k < ro_fc n) {i j : Nat} (hi : i < n) (hj : j < n) : ro_rk (ro_sw (ro_R n k) i j) n n = ro_E n k i j ∧ ro_gd n (ro_sw (ro_R n k) i j) = true := by
  have a := ro_and (ro_all_s _ (ro_all_s _ (ro_all_s _ (ro_q5 n h2 h5) k hk) i hi) j hj)
  exact ⟨ro_beq a.1, a.2⟩
theorem ro_fE {n : Nat} (h2 : 2 ≤ n) (h5 : n ≤ 5) {k : Nat} (hk : k < ro_fc n) {i j : Nat} (hi : i < n) (hj : j < n) : ro_E n k i j < ro_fc n := by
  have a := ro_f5 h2 h5 hk hi hj
  rw [← a.1]; exact (ro_gdd a.2).1
theorem ro_f6 {n : Nat} (h2 : 2 ≤ n) (h5 : n ≤ 5) {k : Nat} (hk : k + 1 < ro_fc n) : ro_C n k < ro_C n (k + 1) := by
  have a := ro_all_s _ (ro_q6 n h2 h5) k (by omega)
  have e : Nat.ble (ro_fc n) (k + 1) = false := by
    cases q : Nat.ble (ro_fc n) (k + 1) with
    | false => rfl
    | true => have := ro_ble q; omega
  have a' : cond (Nat.ble (ro_fc n) (k + 1)) true (Nat.ble (Nat.succ (ro_C n k)) (ro_C n (k + 1))) = true := a
  rw [e] at a'
  exact ro_ble a'
theorem ro_Clt {n : Nat} (h2 : 2 ≤ n) (h5 : n ≤ 5) {k : Nat} : ∀ d, k + d + 1 < ro_fc n → ro_C n k < ro_C n (k + d + 1) := by
  intro d
  induction d with
  | zero => intro h; exact ro_f6 h2 h5 h
  | succ d ih => intro h; exact Nat.lt_trans (ih (by omega)) (ro_f6 h2 h5 (by omega))
theorem ro_Cinj {n : Nat} (h2 : 2 ≤ n) (h5 : n ≤ 5) {k l : Nat} (hk : k < ro_fc n) (hl : l < ro_fc n) (e : ro_C n k = ro_C n l) : k = l := by
  rcases Nat.lt_trichotomy k l with h | h | h
  · obtain ⟨d, rfl⟩ : ∃ d, l = k + d + 1 := ⟨l - k - 1, by omega⟩
    have := ro_Clt h2 h5 d hl; omega
  · exact h
  · obtain ⟨d, rfl⟩ : ∃ d, k = l + d + 1 := ⟨k - l - 1, by omega⟩
    have := ro_Clt h2 h5 d hk; omega
theorem ro_f7 {n : Nat} (h2 : 2 ≤ n) (h5 : n ≤ 5) {k : Nat} (hk : k < ro_fc n) : ro_rd n n (ro_C n k) 0 = true ∧ ro_ip n (ro_C n k) = true ∧ ro_C n k < 10 ^ n := by
  have a := ro_and (ro_all_s _ (ro_q7 n h2 h5) k hk)
  have b := ro_and a.2
  exact ⟨a.1, b.1, ro_ble b.2⟩
theorem ro_f8 {n : Nat} (h2 : 2 ≤ n) (h5 : n ≤ 5) {k : Nat} (hk : k < ro_fc n) {o : Nat} (ho : o < 2) : ro_gx n k (ro_pr n o) = ro_G n o k ∧ ro_sx n k (ro_pr n o) = ro_S n o k := by
  have a := ro_and (ro_all_s _ (ro_q8 n h2 h5) k hk)
  have b := ro_and a.2
  have c := ro_and b.2
  have h : o = 0 ∨ o = 1 := by omega
  rcases h with h | h <;> rw [h]
  · exact ⟨ro_beq a.1, ro_beq c.1⟩
  · exact ⟨ro_beq b.1, ro_beq c.2⟩
theorem ro_f9 {n : Nat} (h2 : 2 ≤ n) (h5 : n ≤ 5) {k : Nat} (hk : k < ro_fc n) {o : Nat} (ho : o < 2) : ro_gy n o k (n * n) = ro_G n o k ∧ ro_sy n o k (n * n) = ro_S n o k := by
  have a := ro_and (ro_all_s _ (ro_q9 n h2 h5) k hk)
  have b := ro_and a.2
  have c := ro_and b.2
  have h : o = 0 ∨ o = 1 := by omega
  rcases h with h | h <;> rw [h]
  · exact ⟨ro_beq a.1, ro_beq c.1⟩
  · exact ⟨ro_beq b.1, ro_beq c.2⟩
theorem ro_cf {a : Bool} (h : cond a false true = true) : a = false := by
  cases a
  · rfl
  · exact absurd h Bool.false_ne_true
theorem ro_be {a b : Nat} (h : a = b) : Nat.beq a b = true := by rw [h]; exact Nat.beq_refl _
theorem ro_f10 {n : Nat} (h2 : 2 ≤ n) (h5 : n ≤ 5) {k : Nat} (hk : k < ro_fc n) {p : Nat} (hp : p < ro_np n) (e : ro_H n (ro_e n k p) = ro_H n k + 1) : ro_tb (ro_sx n k p) (ro_e n k p) = false :=
  ro_cf (ro_imp (ro_all_s _ (ro_all_s _ (ro_q10 n h2 h5) k hk) p hp) (ro_be e))
theorem ro_f11 {n : Nat} (h2 : 2 ≤ n) (h5 : n ≤ 5) {k : Nat} (hk : k < ro_fc n) {o : Nat} (ho : o < 2) {x : Nat} (hx : x < n * n) (hn : ro_nr o (x / n) (x % n) = true) (e : ro_H n (ro_f n k x) = ro_H n k + 1) : ro_tb (ro_sy n o k x) (ro_f n k x) = false :=
  ro_cf (ro_imp (ro_imp (ro_all_s _ (ro_all_s _ (ro_all_s _ (ro_q11 n h2 h5) k hk) o ho) x hx) hn) (ro_be e))
theorem ro_f12 {n : Nat} (h2 : 2 ≤ n) (h5 : n ≤ 5) {k : Nat} (hk : k < ro_fc n) {o : Nat} (ho : o < 2) : ro_tx n k (ro_pr n o) = ro_ty n o k (n * n) :=
  ro_beq (ro_all_s _ (ro_all_s _ (ro_q12 n h2 h5) k hk) o ho)
theorem ro_f13 {n : Nat} (h2 : 2 ≤ n) (h5 : n ≤ 5) {d : Nat} (h1 : 1 ≤ d) (hd : d < n) {i : Nat} (hi : i < n - d) : ro_pI n (ro_bs n d + i) = i ∧ ro_pJ n (ro_bs n d + i) = i + d ∧ ro_bs n d + i < ro_np n := by
  have a := ro_imp (ro_all_s _ (ro_q13 n h2 h5) d hd) (Nat.ble_eq_true_of_le h1)
  have b := ro_and (ro_all_s _ a i hi)
  have c := ro_and b.2
  exact ⟨ro_beq b.1, ro_beq c.1, ro_ble c.2⟩
theorem ro_f14 {n : Nat} (h2 : 2 ≤ n) (h5 : n ≤ 5) {p : Nat} (hp : p < ro_np n) : ro_pI n p < n ∧ ro_pJ n p < n := by
  have a := ro_and (ro_all_s _ (ro_q14 n h2 h5) p hp)
  exact ⟨ro_ble a.1, ro_ble a.2⟩
theorem ro_fe {n : Nat} (h2 : 2 ≤ n) (h5 : n ≤ 5) {k : Nat} (hk : k < ro_fc n) {p : Nat} (hp : p < ro_np n) : ro_e n k p < ro_fc n :=
  ro_fE h2 h5 hk (ro_f14 h2 h5 hp).1 (ro_f14 h2 h5 hp).2
theorem ro_f20 {n : Nat} (h2 : 2 ≤ n) (h5 : n ≤ 5) {a : Nat} (ha : a < ro_fc n) {b : Nat} (hb : b < ro_fc n) : ro_gd n (fun i => ro_R n a (ro_R n b i - 1)) = true :=
  ro_all_s _ (ro_all_s _ (ro_q20 n h2 h5) a ha) b hb
theorem ro_f21 {n : Nat} (h2 : 2 ≤ n) (h5 : n ≤ 5) {o : Nat} (ho : o < 2) {k : Nat} (hk : k < ro_fc n) : ro_ma n o (ro_fc n - k) (1 <<< k) = ro_U n o k ∧ ro_md n o k (1 <<< k) = ro_D n o k := by
  have a := ro_and (ro_all_s _ (ro_all_s _ (ro_q21 n h2 h5) o ho) k hk)
  exact ⟨ro_beq a.1, ro_beq a.2⟩
theorem ro_f22 {n : Nat} (h2 : 2 ≤ n) (h5 : n ≤ 5) {o : Nat} (ho : o < 2) {k : Nat} (hk : k < ro_fc n) : ro_cl n o (10 - ro_H n k) (1 <<< k) = ro_U n o k :=
  ro_beq (ro_all_s _ (ro_all_s _ (ro_q22 n h2 h5) o ho) k hk)
theorem ro_f23 {n : Nat} (h2 : 2 ≤ n) (h5 : n ≤ 5) {o : Nat} (ho : o < 2) {k : Nat} (hk : k < ro_fc n) {j : Nat} (hj : j < ro_fc n) : ro_tb (ro_D n o k) j = ro_tb (ro_U n o j) k := by
  have a := ro_all_s _ (ro_all_s _ (ro_all_s _ (ro_q23 n h2 h5) o ho) k hk) j hj
  cases e : ro_tb (ro_D n o k) j with
  | true => exact (ro_imp (b := ro_tb (ro_U n o j) k) (by
      have a' : cond (ro_tb (ro_D n o k) j) (ro_tb (ro_U n o j) k) (cond (ro_tb (ro_U n o j) k) false true) = true := a
      rw [e] at a' ⊢; exact a') e).symm
  | false =>
      have a' : cond (ro_tb (ro_D n o k) j) (ro_tb (ro_U n o j) k) (cond (ro_tb (ro_U n o j) k) false true) = true := a
      rw [e] at a'
      exact (ro_cf a').symm
theorem ro_f24r {n : Nat} (h2 : 2 ≤ n) (h5 : n ≤ 5) {o : Nat} (ho : o < 2) {s : Nat} (hs : s < ro_fc n) : ro_tb (ro_U n o s) s = true :=
  (ro_and (ro_all_s _ (ro_all_s _ (ro_q24 n h2 h5) o ho) s hs)).1
theorem ro_f24 {n : Nat} (h2 : 2 ≤ n) (h5 : n ≤ 5) {o : Nat} (ho : o < 2) {s : Nat} (hs : s < ro_fc n) {j : Nat} (hj : j < ro_fc n) (h : ro_tb (ro_U n o s) j = true) : ro_U n o s ||| ro_U n o j = ro_U n o s ∧ (s = j ∨ (s < j ∧ ro_H n s < ro_H n j)) := by
  have a := ro_and (ro_imp (ro_all_s _ (ro_and (ro_all_s _ (ro_all_s _ (ro_q24 n h2 h5) o ho) s hs)).2 j hj) h)
  refine ⟨ro_beq a.1, ?_⟩
  by_cases e : s = j
  · exact Or.inl e
  · have b := a.2
    have e' : Nat.beq s j = false := by
      cases q : Nat.beq s j with
      | false => rfl
      | true => exact absurd (ro_beq q) e
    rw [e'] at b
    have c := ro_and b
    exact Or.inr ⟨ro_ble c.1, ro_ble c.2⟩
theorem ro_f25 {n : Nat} (h2 : 2 ≤ n) (h5 : n ≤ 5) {o : Nat} (ho : o < 2) {s : Nat} (hs : s < ro_fc n) {j : Nat} (hj : j < ro_fc n) (h : ro_tb (ro_S n o s) j = true) : s < j ∧ ro_H n j = ro_H n s + 1 := by
  have a := ro_and (ro_imp (ro_all_s _ (ro_all_s _ (ro_all_s _ (ro_q25 n h2 h5) o ho) s hs) j hj) h)
  exact ⟨ro_ble a.1, ro_beq a.2⟩
theorem ro_f26 {n : Nat} (h2 : 2 ≤ n) (h5 : n ≤ 5) {o : Nat} (ho : o < 2) {j : Nat} (hj : j < ro_fc n) : 1 ≤ ro_B n o j ∧ ro_sb n o j j ≤ ro_B n o j := by
  have a := ro_and (ro_all_s _ (ro_all_s _ (ro_q26 n h2 h5) o ho) j hj)
  exact ⟨ro_ble a.1, ro_ble a.2⟩
theorem ro_f27 {n : Nat} (h2 : 2 ≤ n) (h5 : n ≤ 5) {a : Nat} (ha : a < ro_fc n) {b : Nat} (hb : b < ro_fc n) : ro_mt n a b < ro_fc n ∧ ro_tb (ro_D n 1 a) (ro_mt n a b) = true ∧ ro_tb (ro_D n 1 b) (ro_mt n a b) = true ∧ (ro_D n 1 a &&& ro_D n 1 b) ||| ro_D n 1 (ro_mt n a b) = ro_D n 1 (ro_mt n a b) := by
  have p := ro_and (ro_all_s _ (ro_all_s _ (ro_q27 n h2 h5) a ha) b hb)
  have q := ro_and p.2
  have r := ro_and q.2
  exact ⟨ro_ble p.1, q.1, r.1, ro_beq r.2⟩
theorem ro_f28 {n : Nat} (h2 : 2 ≤ n) (h5 : n ≤ 5) {a : Nat} (ha : a < ro_fc n) {b : Nat} (hb : b < ro_fc n) : ro_jn n a b < ro_fc n ∧ ro_tb (ro_U n 1 a) (ro_jn n a b) = true ∧ ro_tb (ro_U n 1 b) (ro_jn n a b) = true ∧ (ro_U n 1 a &&& ro_U n 1 b) ||| ro_U n 1 (ro_jn n a b) = ro_U n 1 (ro_jn n a b) := by
  have p := ro_and (ro_all_s _ (ro_all_s _ (ro_q28 n h2 h5) a ha) b hb)
  have q := ro_and p.2
  have r := ro_and q.2
  exact ⟨ro_ble p.1, q.1, r.1, ro_beq r.2⟩
theorem ro_p10 {n : Nat} (h5 : n ≤ 5) : 10 ^ n ≤ 100000 := Nat.pow_le_pow_right (n := 10) (by decide) h5
theorem ro_nble {a b : Nat} (h : b < a) : Nat.ble a b = false := by
  cases q : Nat.ble a b with
  | false => rfl
  | true => have := ro_ble q; omega
theorem ro_f29 {n : Nat} (h2 : 2 ≤ n) (h5 : n ≤ 5) {c : Nat} (hc : c < 10 ^ n) (h : ro_ip n c = true) : ro_kc n c < ro_fc n ∧ ro_C n (ro_kc n c) = c := by
  have hp := ro_p10 h5
  have a := ro_all_s _ (ro_all_s _ (ro_q29 n h2 h5) (c / 500) (by omega)) (c % 500) (Nat.mod_lt _ (by decide))
  have e : Nat.add (Nat.mul 500 (c / 500)) (c % 500) = c := Nat.div_add_mod c 500
  simp only [e] at a
  rw [show Nat.ble (Nat.pow 10 n) c = false from ro_nble hc] at a
  have b := ro_and (ro_imp a h)
  exact ⟨ro_ble b.1, ro_beq b.2⟩
theorem ro_f30 {n : Nat} (h2 : 2 ≤ n) (h5 : n ≤ 5) {c : Nat} (hc : c < 10 ^ n) (h : ro_rd n n c 0 = true) : ro_kc n c < ro_fc n ∧ ro_C n (ro_kc n c) = c := by
  have hp := ro_p10 h5
  have a := ro_all_s _ (ro_all_s _ (ro_q30 n h2 h5) (c / 500) (by omega)) (c % 500) (Nat.mod_lt _ (by decide))
  have e : Nat.add (Nat.mul 500 (c / 500)) (c % 500) = c := Nat.div_add_mod c 500
  simp only [e] at a
  rw [show Nat.ble (Nat.pow 10 n) c = false from ro_nble hc] at a
  have b := ro_and (ro_imp a h)
  exact ⟨ro_ble b.1, ro_beq b.2⟩
/-! bits -/
theorem ro_tbT (m j : Nat) : ro_tb m j = m.testBit j := by
  unfold ro_tb Nat.testBit
  have e : Nat.land (Nat.shiftRight m j) 1 = 1 &&& (m >>> j) := Nat.and_comm _ _
  rw [e]
  have h : 1 &&& (m >>> j) = (m >>> j) % 2 := by rw [Nat.and_comm]; exact Nat.and_one_is_mod _
  rw [h]
  have h2 : (m >>> j) % 2 = 0 ∨ (m >>> j) % 2 = 1 := by omega
  rcases h2 with h2 | h2 <;> rw [h2] <;> rfl
theorem ro_tbo (a b j : Nat) : ro_tb (a ||| b) j = (ro_tb a j || ro_tb b j) := by
  rw [ro_tbT, ro_tbT, ro_tbT, Nat.testBit_or]
theorem ro_tba (a b j : Nat) : ro_tb (a &&& b) j = (ro_tb a j && ro_tb b j) := by
  rw [ro_tbT, ro_tbT, ro_tbT, Nat.testBit_and]
theorem ro_tb1 (k j : Nat) : ro_tb (1 <<< k) j = decide (j = k) := by
  rw [ro_tbT, Nat.one_shiftLeft, Nat.testBit_two_pow]
  by_cases h : j = k
  · simp [h]
  · have h' : ¬ k = j := fun z => h z.symm
    simp [h, h']
theorem ro_tb0 (j : Nat) : ro_tb 0 j = false := by rw [ro_tbT, Nat.zero_testBit]
def ro_bt (m j : Nat) : Int32 := cond (ro_tb m j) 1 0
theorem ro_bt0 {m j : Nat} (h : ro_tb m j = false) : ro_bt m j = 0 := by unfold ro_bt; rw [h]; rfl
theorem ro_bt1 {m j : Nat} (h : ro_tb m j = true) : ro_bt m j = 1 := by unfold ro_bt; rw [h]; rfl
theorem ro_btz {m j : Nat} : ro_bt m j = 0 ↔ ro_tb m j = false := by
  unfold ro_bt
  cases ro_tb m j
  · exact ⟨fun _ => rfl, fun _ => rfl⟩
  · exact ⟨fun h => absurd h (by decide), fun h => absurd h (by decide)⟩
theorem ro_sub {a b j : Nat} (h : a ||| b = b) (hj : ro_tb a j = true) : ro_tb b j = true := by
  rw [← h, ro_tbo, hj]; rfl
theorem ro_sub' {a b j : Nat} (h : a ||| b = a) (hj : ro_tb b j = true) : ro_tb a j = true := by
  rw [← h, ro_tbo, hj]; cases ro_tb a j <;> rfl
theorem ro_ltr {n : Nat} (h2 : 2 ≤ n) (h5 : n ≤ 5) {o : Nat} (ho : o < 2) {s r q : Nat} (hs : s < ro_fc n) (hr : r < ro_fc n) (h : ro_tb (ro_U n o s) r = true) (h' : ro_tb (ro_U n o r) q = true) : ro_tb (ro_U n o s) q = true :=
  ro_sub' (ro_f24 h2 h5 ho hs hr h).1 h'
theorem ro_narB (b : Int32) (h : b = 0 ∨ b = 1) : vp_nar .boolean b = b := by
  rcases h with h | h <;> rw [h] <;> rfl
