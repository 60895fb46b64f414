/-! Y: its constructor -/
theorem ro_pmS (f s x : Nat) : ro_pm (f + 1) s x = cond (Nat.beq x 0) s (ro_pm f (s ||| 1 <<< (x % 10)) (x / 10)) := rfl
theorem ro_or10 {s d : Nat} (hs : s < 1024) (hd : d < 10) : s ||| 1 <<< d < 1024 := by
  have h : 1 <<< d < 2 ^ 10 := by rw [Nat.one_shiftLeft]; exact Nat.pow_lt_pow_right (by decide) hd
  exact Nat.or_lt_two_pow (n := 10) hs h
theorem ro_ful : ∀ n : Nat, n ≤ 5 → ((1 : Int32) <<< ((nI n + 1) &&& (31 : Int32))) - (2 : Int32) = nI (1 <<< (n + 1) - 2) ∧ 1 <<< (n + 1) - 2 < 1024 := by decide +kernel
theorem ro_yip {n : Nat} (h5 : n ≤ 5) {c : Nat} (hc : c < 100000) (post : Int32 → Prop) (gM : Int32) (cs hs un ey ry oy fy : Nat → Int32) (H1 : ro_ip n c = true → post 1) (H0 : ro_ip n c = false → post 0) : wpY_isPermutation post (nI n, gM, cs, hs, un, ey, ry, oy, fy) (nI c) := by
  have F := ro_ful n h5
  have en : ∀ s, s < 1024 → (s = 1 <<< (n + 1) - 2 → post 1) → (s ≠ 1 <<< (n + 1) - 2 → post 0) → (nI s = ((1 : Int32) <<< ((nI n + 1) &&& 31)) - 2 → post 1) ∧ (¬ nI s = ((1 : Int32) <<< ((nI n + 1) &&& 31)) - 2 → post 0) := by
    intro s hs a b
    rw [F.1]
    exact pk_eq s _ a b rfl rfl (by omega) (by omega)
  have g : ∀ f s x, x < 10 ^ f → x < 2 ^ 31 → s < 1024 → (ro_pm f s x = 1 <<< (n + 1) - 2 → post 1) → (ro_pm f s x ≠ 1 <<< (n + 1) - 2 → post 0) → wY_isPermutation_4 post (nI n) gM cs hs un ey ry oy fy (f + 1) (nI s) (nI x) := by
    intro f
    induction f with
    | zero =>
      intro s x hx hx2 hs a b
      have : x = 0 := by simp at hx; exact hx
      subst this
      exact br_t (show nI 0 ≤ 0 by decide) (en s hs a b)
    | succ f ih =>
      intro s x hx hx2 hs a b
      rw [ro_pmS] at a b
      refine pk_le x 0 (fun h => ?_) (fun h => ⟨ro_n10, ?_⟩)
      · rw [ro_be (show x = 0 by omega)] at a b
        exact en s hs a b
      · rw [ro_nbeq (show x ≠ 0 by omega)] at a b
        have hd : x % 10 < 10 := Nat.mod_lt _ (by decide)
        refine nm_r (show nI s ||| ((1 : Int32) <<< ((nI x - nI x / 10 * 10) &&& 31)) = nI (s ||| 1 <<< (x % 10)) from by rw [ro_r10 hx2]; exact (ro_bitsS hs hd).2) ⟨ro_n10, nm_r (ro_d10 hx2) (ih _ _ ?_ (by omega) (ro_or10 hs hd) a b)⟩
        rw [Nat.pow_succ] at hx; omega
  refine ⟨6, g 5 0 c hc (by omega) (by decide) (fun h => H1 (ro_be h)) (fun h => H0 (ro_nbeq h))⟩
theorem ro_C0 {n : Nat} (h2 : 2 ≤ n) (h5 : n ≤ 5) {k : Nat} (hk : k < ro_fc n) : ro_C n 0 ≤ ro_C n k := by
  by_cases q : k = 0
  · rw [q]; exact Nat.le_refl _
  · have := ro_Clt h2 h5 (k := 0) (k - 1) (by omega)
    rw [show 0 + (k - 1) + 1 = k by omega] at this
    omega
def ro_ls : Nat → Nat
  | 0 => 0
  | i + 1 => ro_ls i * 10 + (i + 1)
theorem ro_lsN : ∀ n, n ≤ 5 → 2 ≤ n → ro_ls n = ro_C n 0 ∧ ro_ls n ≤ 10 ^ n := by decide +kernel
section
variable {n : Nat} (ey oy fy : Nat → Int32)
theorem ro_yin183 (h2 : 2 ≤ n) (h5 : n ≤ 5) (cs hs : Nat → Int32) (hT : ∀ k, k < ro_fc n → cs k = nI (ro_C n k)) (hH : ∀ k, k < ro_fc n → hs k = nI (ro_H n k)) (post : SY → Prop) (H : ∀ un ry, ro_TY n cs hs un → post (nI n, (nI (ro_fc n)), cs, hs, un, ey, ry, oy, fy)) :
    ∀ r p un ry, p + r = ro_fc n → (∀ o, o < 2 → ∀ p', p' < ro_fc n → ∀ q, q < ro_fc n → un (14400 * o + 120 * p' + q) = cond (Nat.ble p p') 0 (ro_bt (ro_U n o p') q)) → wY_init_183 post (r + 1) (nI p) (nI n) (nI (ro_fc n)) cs hs un ey ry oy fy := by
  have hc := ro_c120 n
  intro r
  induction r with
  | zero =>
    intro p un ry hp e
    refine br_t (nI_le (by omega) (by omega)) (H un ry ⟨hT, hH, fun o ho p' hp' q hq => ?_⟩)
    rw [e o ho p' hp' q hq, ro_nble (by omega)]; rfl
  | succ r ih =>
    intro p un ry hp e
    refine br_f (nI_ge (by omega) (by omega)) ?_
    have hpc : p < ro_fc n := by omega
    refine ro_ycl (o := 0) _ cs hs ey oy fy h2 h5 hpc (by decide) rfl hT hH _ un ry (fun j hj => ?_) (fun t s a b => ?_)
    · rw [e 0 (by decide) p hpc j hj, Nat.ble_eq_true_of_le (Nat.le_refl p)]; rfl
    refine ro_ycl (o := 1) _ cs hs ey oy fy h2 h5 hpc (by decide) rfl hT hH _ t s (fun j hj => ?_) (fun t' s' a' b' => nm_r (nI_1 p) (ih (p + 1) t' s' (by omega) ?_))
    · rw [b _ (by omega), e 1 (by decide) p hpc j hj, Nat.ble_eq_true_of_le (Nat.le_refl p)]; rfl
    · intro o ho p' hp' q hq
      have ho' : o = 0 ∨ o = 1 := by omega
      by_cases w : p' = p
      · rw [w, ro_nble (by omega)]
        rcases ho' with z | z
        · rw [z, b' _ (by omega)]; exact a q hq
        · rw [z]; exact a' q hq
      · have e' : Nat.ble (p + 1) p' = Nat.ble p p' := by
          by_cases v : p ≤ p'
          · rw [Nat.ble_eq_true_of_le v, Nat.ble_eq_true_of_le (by omega)]
          · rw [ro_nble (by omega), ro_nble (by omega)]
        rw [e', ← e o ho p' hp' q hq]
        rcases ho' with z | z
        · rw [z, b' _ (by omega)]; exact b _ (by omega)
        · rw [z, b' _ (by omega)]; exact b _ (by omega)
theorem ro_yin119 (h2 : 2 ≤ n) (h5 : n ≤ 5) (un : Nat → Int32) (post : SY → Prop)
    (H : ∀ cs hs ry, (∀ k, k < ro_fc n → cs k = nI (ro_C n k)) → (∀ k, k < ro_fc n → hs k = nI (ro_H n k)) → ∃ m, wY_init_183 post m 0 (nI n) (nI (ro_fc n)) cs hs un ey ry oy fy) :
    ∀ d c m cs hs ry, c + d = 10 ^ n → m ≤ ro_fc n → (∀ k, k < m → cs k = nI (ro_C n k)) → (∀ k, k < m → hs k = nI (ro_H n k)) → (∀ k, k < m → ro_C n k < c) → (∀ k, m ≤ k → k < ro_fc n → c ≤ ro_C n k) → wY_init_119 post (nI (10 ^ n)) (d + 1) (nI c) (nI n) (nI m) cs hs un ey ry oy fy := by
  have hc := ro_c120 n
  have hp := ro_p10 h5
  intro d
  induction d with
  | zero =>
    intro c m cs hs ry hcd hm e1 e2 e3 e4
    have hmm : m = ro_fc n := by
      by_cases q : m = ro_fc n
      · exact q
      · have a := e4 m (Nat.le_refl m) (by omega)
        have b := (ro_f7 h2 h5 (k := m) (by omega)).2.2
        omega
    rw [hmm] at e1 e2 ⊢
    exact br_t (nI_le (by omega) (by omega)) (H cs hs ry e1 e2)
  | succ d ih =>
    intro c m cs hs ry hcd hm e1 e2 e3 e4
    refine br_f (nI_ge (by omega) (by omega)) ?_
    refine ro_yip h5 (by omega) _ _ cs hs un ey ry oy fy (fun z => br_f (by decide) ?_) (fun z => br_t rfl (nm_r (nI_1 c) (ih (c + 1) m cs hs ry (by omega) hm e1 e2 (fun k hk => Nat.lt_succ_of_lt (e3 k hk)) (fun k a b => ?_))))
    · have k1 := ro_f29 h2 h5 (show c < 10 ^ n by omega) z
      generalize ro_kc n c = l at k1
      have hml : m ≤ l := by
        by_cases q : m ≤ l
        · exact q
        · have := e3 l (by omega); omega
      have hlm : m = l := by
        by_cases q : m = l
        · exact q
        · have a := ro_Clt h2 h5 (k := m) (l - m - 1) (by omega)
          rw [show m + (l - m - 1) + 1 = l by omega] at a
          have b := e4 m (Nat.le_refl m) (by omega)
          omega
      rw [← hlm] at k1
      have hm1 := k1.1
      have hC := k1.2
      refine ⟨vp_in_nI (by omega) (by decide), nm_e ?_⟩
      refine ro_ysp h2 h5 (by omega) _ _ (upd cs (nI m).toNatClampNeg (nI c)) hs un ey ry oy fy (fun t ht => ?_)
      refine ro_yci h5 (r := ro_R n m) (fun j hj => by have := (ro_fR h2 h5 hm1 hj).2.2; omega) _ (upd cs (nI m).toNatClampNeg (nI c)) hs un ey t oy fy (fun j hj => by rw [ht j hj, ← hC, ro_f31 h2 h5 hm1 hj]) _ ?_
      rw [(ro_f2 h2 h5 hm1).2.2.1]
      refine ⟨vp_in_nI (by omega) (by decide), nm_e (nm_r (nI_1 m) (nm_r (nI_1 c) ?_))⟩
      rw [nI_clamp (by omega)]
      refine ih (c + 1) (m + 1) _ _ t (by omega) (by omega) (fun k hk => ?_) (fun k hk => ?_) (fun k hk => ?_) (fun k a b => ?_)
      · exact ro_u (fun w => by rw [w, hC]) (fun w => e1 k (by omega))
      · exact ro_u (fun w => by rw [w]) (fun w => e2 k (by omega))
      · by_cases w : k = m
        · rw [w]; omega
        · have := e3 k (by omega); omega
      · have w := ro_Clt h2 h5 (k := m) (k - m - 1) (by omega)
        rw [show m + (k - m - 1) + 1 = k by omega] at w
        omega
    · have w := e4 k a b
      by_cases v : c = ro_C n k
      · rw [v, (ro_f7 h2 h5 b).2.1] at z; exact absurd z (by decide)
      · omega
theorem ro_yin (h2 : 2 ≤ n) (h5 : n ≤ 5) (post : SY → Prop) (H : ∀ cs hs un ry, ro_TY n cs hs un → post (nI n, (nI (ro_fc n)), cs, hs, un, ey, ry, oy, fy)) (cs hs ry : Nat → Int32) :
    ∃ m, wY_init_88 post (nI n) 0 cs hs (fun _ => 0) ey ry oy fy m 0 1 1 := by
  have hc := ro_c120 n
  have hp := ro_p10 h5
  have L := ro_lsN n h5 h2
  have f : ∀ m i, i + m = n → wY_init_88 post (nI n) 0 cs hs (fun _ => 0) ey ry oy fy (m + 1) (nI (ro_ls i)) (nI (10 ^ i)) (nI (i + 1)) := by
    intro m
    induction m with
    | zero =>
      intro i hi
      have : i = n := by omega
      rw [this]
      refine br_t (nI_lt (by omega) (by omega)) ⟨10 ^ n - ro_ls n + 1, ?_⟩
      refine ro_yin119 ey oy fy h2 h5 (fun _ => 0) post (fun cs hs ry a b => ⟨ro_fc n + 1, ?_⟩) (10 ^ n - ro_ls n) (ro_ls n) 0 cs hs ry (by omega) (by omega) (fun k hk => by omega) (fun k hk => by omega) (fun k hk => by omega) (fun k a b => by rw [L.1]; exact ro_C0 h2 h5 b)
      exact ro_yin183 ey oy fy h2 h5 cs hs a b post (fun un ry hT => H cs hs un ry hT) (ro_fc n) 0 _ ry (by omega) (fun o ho p' hp' q hq => by rw [Nat.ble_eq_true_of_le (Nat.zero_le p')]; rfl)
    | succ m ih =>
      intro i hi
      refine br_f (nI_nlt (by omega) (by omega)) (nm_r (ro_m10' _ _) (nm_r (show 10 * nI (10 ^ i) = nI (10 ^ (i + 1)) from by rw [show (10 : Int32) = nI 10 from rfl, pk_mul, Nat.pow_succ, Nat.mul_comm]) (nm_r (nI_1 _) (ih (i + 1) (by omega)))))
  exact ⟨n + 1, f n 0 (by omega)⟩
end
