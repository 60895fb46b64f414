/-! ways: sums -/
noncomputable def ro_sm (f : Nat → Nat) (m : Nat) : Nat := Nat.rec 0 (fun s ih => ih + f s) m
theorem ro_smS (f : Nat → Nat) (m : Nat) : ro_sm f (m + 1) = ro_sm f m + f m := rfl
theorem ro_smc {f g : Nat → Nat} : ∀ m, (∀ s, s < m → f s = g s) → ro_sm f m = ro_sm g m := by
  intro m
  induction m with
  | zero => intro _; rfl
  | succ m ih => intro h; rw [ro_smS, ro_smS, ih (fun s hs => h s (by omega)), h m (by omega)]
theorem ro_sm0 {f : Nat → Nat} : ∀ m, (∀ s, s < m → f s = 0) → ro_sm f m = 0 := by
  intro m
  induction m with
  | zero => intro _; rfl
  | succ m ih => intro h; rw [ro_smS, ih (fun s hs => h s (by omega)), h m (by omega)]
theorem ro_smle {f g : Nat → Nat} : ∀ m, (∀ s, s < m → f s ≤ g s) → ro_sm f m ≤ ro_sm g m := by
  intro m
  induction m with
  | zero => intro _; exact Nat.le_refl _
  | succ m ih => intro h; rw [ro_smS, ro_smS]; exact Nat.add_le_add (ih (fun s hs => h s (by omega))) (h m (by omega))
theorem ro_sme {f : Nat → Nat} {j : Nat} : ∀ m, j ≤ m → (∀ s, j ≤ s → s < m → f s = 0) → ro_sm f m = ro_sm f j := by
  intro m
  induction m with
  | zero => intro h _; rw [show j = 0 by omega]
  | succ m ih =>
    intro h e
    by_cases q : j = m + 1
    · rw [q]
    · rw [ro_smS, ih (by omega) (fun s a b => e s a (by omega)), e m (by omega) (by omega), Nat.add_zero]
theorem ro_smi {f g : Nat → Nat} {s0 v : Nat} : ∀ m, s0 < m → (∀ s, s < m → s ≠ s0 → f s = g s) → f s0 = g s0 + v → ro_sm f m = ro_sm g m + v := by
  intro m
  induction m with
  | zero => intro h _ _; omega
  | succ m ih =>
    intro h e e0
    rw [ro_smS, ro_smS]
    by_cases q : s0 = m
    · rw [ro_smc m (fun s hs => e s (by omega) (by omega)), ← q, e0]; omega
    · rw [ih (by omega) (fun s hs hn => e s (by omega) hn) e0, e m (by omega) (fun z => q z.symm)]; omega
/-! the number of ways from p -/
def ro_d1 (j p : Nat) : Nat := cond (Nat.beq j p) 1 0
theorem ro_d11 {j p : Nat} (h : j = p) : ro_d1 j p = 1 := by unfold ro_d1; rw [ro_be h]; rfl
theorem ro_d10' {j p : Nat} (h : j ≠ p) : ro_d1 j p = 0 := by unfold ro_d1; rw [ro_nbeq h]; rfl
noncomputable def ro_wt (n o p m : Nat) : Nat → Nat := Nat.rec (fun _ => 0) (fun j f i => cond (Nat.beq i j) (ro_d1 j p + ro_sm (fun s => cond (ro_tb (ro_S n o s) j) (f s) 0) j) (f i)) m
theorem ro_wtS (n o p j i : Nat) : ro_wt n o p (j + 1) i = cond (Nat.beq i j) (ro_d1 j p + ro_sm (fun s => cond (ro_tb (ro_S n o s) j) (ro_wt n o p j s) 0) j) (ro_wt n o p j i) := rfl
noncomputable def ro_W (n o p j : Nat) : Nat := ro_wt n o p (j + 1) j
theorem ro_wtW (n o p s : Nat) : ∀ d, ro_wt n o p (s + 1 + d) s = ro_W n o p s := by
  intro d
  induction d with
  | zero => rfl
  | succ d ih => rw [show s + 1 + (d + 1) = s + 1 + d + 1 from rfl, ro_wtS, ro_nbeq (by omega)]; exact ih
theorem ro_WE (n o p j : Nat) : ro_W n o p j = ro_d1 j p + ro_sm (fun s => cond (ro_tb (ro_S n o s) j) (ro_W n o p s) 0) j := by
  have h : ro_W n o p j = ro_d1 j p + ro_sm (fun s => cond (ro_tb (ro_S n o s) j) (ro_wt n o p j s) 0) j := by
    show ro_wt n o p (j + 1) j = _
    rw [ro_wtS, Nat.beq_refl]; rfl
  rw [h]
  refine congrArg (ro_d1 j p + ·) (ro_smc j (fun s hs => ?_))
  have e := ro_wtW n o p s (j - (s + 1))
  rw [show s + 1 + (j - (s + 1)) = j by omega] at e
  show cond (ro_tb (ro_S n o s) j) (ro_wt n o p j s) 0 = cond (ro_tb (ro_S n o s) j) (ro_W n o p s) 0
  rw [e]
theorem ro_cz {b : Bool} {x : Nat} (h : b = true → x = 0) : cond b x 0 = 0 := by
  cases b
  · rfl
  · exact h rfl
theorem ro_Wlt {n o p : Nat} : ∀ j, j < p → ro_W n o p j = 0 := by
  intro j
  induction j using Nat.strongRecOn with
  | ind j ih =>
    intro h
    rw [ro_WE, ro_d10' (by omega), ro_sm0 j (fun s hs => ro_cz (fun _ => ih s hs (by omega)))]
theorem ro_WH {n o p : Nat} (h2 : 2 ≤ n) (h5 : n ≤ 5) (ho : o < 2) : ∀ j, j < ro_fc n → ro_H n j < ro_H n p → ro_W n o p j = 0 := by
  intro j
  induction j using Nat.strongRecOn with
  | ind j ih =>
    intro hj h
    rw [ro_WE, ro_d10' (fun z => by rw [z] at h; omega), ro_sm0 j (fun s hs => ro_cz (fun z => ih s hs (by omega) ?_))]
    have := (ro_f25 h2 h5 ho (by omega) hj z).2
    omega
theorem ro_sbE (n o j : Nat) : ∀ m, ro_sb n o j m = ro_sm (fun s => cond (ro_tb (ro_S n o s) j) (ro_B n o s) 0) m := by
  intro m
  induction m with
  | zero => rfl
  | succ m ih =>
    rw [ro_smS, ← ih]
    show cond (ro_tb (ro_S n o m) j) (ro_sb n o j m + ro_B n o m) (ro_sb n o j m) = ro_sb n o j m + cond (ro_tb (ro_S n o m) j) (ro_B n o m) 0
    cases ro_tb (ro_S n o m) j <;> rfl
theorem ro_WB {n o p : Nat} (h2 : 2 ≤ n) (h5 : n ≤ 5) (ho : o < 2) : ∀ j, j < ro_fc n → ro_W n o p j ≤ ro_B n o j := by
  intro j
  induction j using Nat.strongRecOn with
  | ind j ih =>
    intro hj
    have b := ro_f26 h2 h5 ho hj
    rw [ro_WE]
    by_cases q : j = p
    · rw [ro_d11 q, ro_sm0 j (fun s hs => ro_cz (fun _ => ro_Wlt s (by omega)))]
      exact b.1
    · rw [ro_d10' q, Nat.zero_add]
      refine Nat.le_trans ?_ b.2
      rw [ro_sbE]
      refine ro_smle j (fun s hs => ?_)
      show cond (ro_tb (ro_S n o s) j) (ro_W n o p s) 0 ≤ cond (ro_tb (ro_S n o s) j) (ro_B n o s) 0
      cases ro_tb (ro_S n o s) j
      · exact Nat.le_refl _
      · exact ih s hs (by omega)
theorem ro_Wb {n o p : Nat} (h2 : 2 ≤ n) (h5 : n ≤ 5) (ho : o < 2) {j : Nat} (hj : j < ro_fc n) : ro_W n o p j < 2 ^ 31 := by
  have a := ro_WB (p := p) h2 h5 ho j hj
  have b : ro_B n o j ≤ 1048575 := Nat.and_le_right
  omega
/-- what has come to j from those of P -/
noncomputable def ro_ps (n o p : Nat) (P : Nat → Bool) (j : Nat) : Nat := ro_d1 j p + ro_sm (fun s => cond (ro_tb (ro_S n o s) j) (cond (P s) (ro_W n o p s) 0) 0) (ro_fc n)
theorem ro_psW {n o p : Nat} (h2 : 2 ≤ n) (h5 : n ≤ 5) (ho : o < 2) {P : Nat → Bool} {j : Nat} (hj : j < ro_fc n) (h : ∀ s, s < ro_fc n → ro_tb (ro_S n o s) j = true → P s = true) : ro_ps n o p P j = ro_W n o p j := by
  rw [ro_WE]
  unfold ro_ps
  refine congrArg (ro_d1 j p + ·) ?_
  rw [ro_sme (f := fun s => cond (ro_tb (ro_S n o s) j) (cond (P s) (ro_W n o p s) 0) 0) (ro_fc n) (Nat.le_of_lt hj) (fun s a b => ro_cz (fun z => absurd (ro_f25 h2 h5 ho b hj z).1 (by omega)))]
  refine ro_smc j (fun s hs => ?_)
  show cond (ro_tb (ro_S n o s) j) (cond (P s) (ro_W n o p s) 0) 0 = cond (ro_tb (ro_S n o s) j) (ro_W n o p s) 0
  cases e : ro_tb (ro_S n o s) j with
  | false => rfl
  | true => rw [h s (by omega) e]; rfl
theorem ro_psC {n o p : Nat} {P P' : Nat → Bool} {j : Nat} (h : ∀ s, s < ro_fc n → P s = P' s ∨ ro_W n o p s = 0) : ro_ps n o p P j = ro_ps n o p P' j := by
  unfold ro_ps
  refine congrArg (ro_d1 j p + ·) (ro_smc _ (fun s hs => ?_))
  show cond (ro_tb (ro_S n o s) j) (cond (P s) (ro_W n o p s) 0) 0 = cond (ro_tb (ro_S n o s) j) (cond (P' s) (ro_W n o p s) 0) 0
  rcases h s hs with z | z
  · rw [z]
  · rw [z]; cases P s <;> cases P' s <;> rfl
theorem ro_ps0 {n o p : Nat} {P : Nat → Bool} {j : Nat} (h : ∀ s, s < ro_fc n → P s = true → ro_W n o p s = 0) : ro_ps n o p P j = ro_d1 j p := by
  unfold ro_ps
  rw [ro_sm0 _ (fun s hs => ro_cz (fun _ => ro_cz (fun z => h s hs z)))]
  rfl
theorem ro_psI {n o p : Nat} {P P' : Nat → Bool} {j a : Nat} (ha : a < ro_fc n) (h : ∀ s, s ≠ a → P' s = P s) (h0 : P a = false) (h1 : P' a = true) : ro_ps n o p P' j = ro_ps n o p P j + cond (ro_tb (ro_S n o a) j) (ro_W n o p a) 0 := by
  unfold ro_ps
  rw [Nat.add_assoc]
  refine congrArg (ro_d1 j p + ·) (ro_smi (s0 := a) _ ha (fun s hs hn => ?_) ?_)
  · show cond (ro_tb (ro_S n o s) j) (cond (P' s) (ro_W n o p s) 0) 0 = cond (ro_tb (ro_S n o s) j) (cond (P s) (ro_W n o p s) 0) 0
    rw [h s hn]
  · show cond (ro_tb (ro_S n o a) j) (cond (P' a) (ro_W n o p a) 0) 0 = cond (ro_tb (ro_S n o a) j) (cond (P a) (ro_W n o p a) 0) 0 + cond (ro_tb (ro_S n o a) j) (ro_W n o p a) 0
    rw [h0, h1]
    cases ro_tb (ro_S n o a) j <;> simp
/-! X: one passes its ways on -/
theorem ro_sxs1 {n k p : Nat} (h : ro_H n (ro_e n k p) = ro_H n k + 1) : ro_sx n k (p + 1) = ro_sx n k p ||| 1 <<< ro_e n k p := by
  show cond (Nat.beq (ro_H n (ro_e n k p)) (ro_H n k + 1)) (ro_sx n k p ||| 1 <<< ro_e n k p) (ro_sx n k p) = _
  rw [ro_be h]; rfl
theorem ro_sxs0 {n k p : Nat} (h : ro_H n (ro_e n k p) ≠ ro_H n k + 1) : ro_sx n k (p + 1) = ro_sx n k p := by
  show cond (Nat.beq (ro_H n (ro_e n k p)) (ro_H n k + 1)) (ro_sx n k p ||| 1 <<< ro_e n k p) (ro_sx n k p) = _
  rw [ro_nbeq h]; rfl
theorem ro_sxm {n k p j : Nat} (h : ro_tb (ro_sx n k p) j = true) : ∀ d, ro_tb (ro_sx n k (p + d)) j = true := by
  intro d
  induction d with
  | zero => exact h
  | succ d ih =>
    by_cases q : ro_H n (ro_e n k (p + d)) = ro_H n k + 1
    · rw [show p + (d + 1) = p + d + 1 from rfl, ro_sxs1 q, ro_tbo, ih]; rfl
    · rw [show p + (d + 1) = p + d + 1 from rfl, ro_sxs0 q]; exact ih
def ro_ad (F : Nat → Nat) (m a j : Nat) : Nat := F j + cond (ro_tb m j) (F a) 0
theorem ro_adU {n : Nat} {F : Nat → Nat} {m a t : Nat} {f : Nat → Int32} (e : ∀ j, j < ro_fc n → f j = nI (ro_ad F m a j)) (ha : a < ro_fc n) (ht : t < ro_fc n) (za : ro_tb m a = false) (zt : ro_tb m t = false) : ∀ j, j < ro_fc n → upd f t (f t + f a) j = nI (ro_ad F (m ||| 1 <<< t) a j) := by
  intro j hj
  refine ro_u (fun q => ?_) (fun q => ?_)
  · rw [e t ht, e a ha, nI_add, q]
    unfold ro_ad
    rw [za, zt, ro_tbo, ro_tb1, zt, decide_eq_true rfl]
    rfl
  · rw [e j hj]
    unfold ro_ad
    rw [ro_tbo, ro_tb1, decide_eq_false q, Bool.or_false]
theorem ro_xpw {n : Nat} (h2 : 2 ≤ n) (h5 : n ≤ 5) {a : Nat} (ha : a < ro_fc n) {o : Nat} (ho : o < 2) (F : Nat → Nat) (post : SX → Prop) (fC : Int32) (el ic er ra rb rm sm ma mb : Nat → Int32) (hT : ro_TX n ic er) (hF : ∀ j, j < ro_fc n → sm j = nI (F j))
    (H : ∀ t : Nat → Int32, (∀ j, j < ro_fc n → t j = nI (ro_ad F (ro_S n o a) a j)) → post (nI n, fC, el, ic, er, ra, rb, rm, t, ma, mb)) : wpX_passWaysOn post (nI n, fC, el, ic, er, ra, rb, rm, sm, ma, mb) (nI a) (nI o) := by
  have hc := ro_c120 n
  have hp := ro_prb (o := o) h2 h5
  have g : ∀ d p sm, p + d = ro_pr n o → (∀ j, j < ro_fc n → sm j = nI (ro_ad F (ro_sx n a p) a j)) → wX_passWaysOn_9 post (nI a) (nI (ro_pr n o)) (nI n) fC (d + 1) (nI p) el ic er ra rb rm sm ma mb := by
    intro d
    induction d with
    | zero =>
      intro p sm hp' e
      have : p = ro_pr n o := by omega
      rw [this, (ro_f8 h2 h5 ha ho).2] at e
      exact br_t (nI_le (by omega) (by omega)) (H sm e)
    | succ d ih =>
      intro p sm hp' e
      have hpn : p < ro_np n := by omega
      have hE := ro_fe h2 h5 ha hpn
      refine br_f (nI_ge (by omega) (by omega)) ?_
      rw [ro_m10]
      refine ⟨vp_in_nI (by omega) (by decide), nm_r (show er (nI (a * 10 + p)).toNatClampNeg = nI (ro_e n a p) from by rw [nI_clamp (by omega)]; exact hT.2 a ha p hpn) ?_⟩
      have iE : vp_in (nI (ro_e n a p)) 120 := vp_in_nI (by omega) (by decide)
      refine ro_xss h2 h5 ha hE _ fC el ic er ra rb rm sm ma mb hT (fun h => br_f (by decide) ⟨iE, vp_in_nI (by omega) (by decide), iE, nm_e (nm_r (nI_1 p) (ih (p + 1) _ (by omega) ?_))⟩) (fun h => br_t rfl (nm_r (nI_1 p) (ih (p + 1) sm (by omega) ?_)))
      · rw [ro_sxs1 h, nI_clamp (by omega), nI_clamp (by omega)]
        refine ro_adU e ha hE (ro_ntb (fun z => ?_)) (ro_f10 h2 h5 ha hpn h)
        have w := ro_sxm z (d + 1)
        rw [show p + (d + 1) = ro_pr n o by omega, (ro_f8 h2 h5 ha ho).2] at w
        have := (ro_f25 h2 h5 ho ha ha w).1
        omega
      · rw [ro_sxs0 h]; exact e
  unfold wpX_passWaysOn
  refine ro_xcp h2 h5 ho _ fC el ic er ra rb rm sm ma mb ?_
  refine ⟨ro_pr n o + 1, g (ro_pr n o) 0 sm (by omega) (fun j hj => ?_)⟩
  rw [hF j hj]
  unfold ro_ad
  rw [show ro_sx n a 0 = 0 from rfl, ro_tb0]; rfl
theorem ro_xss0 {n : Nat} (post : SX → Prop) (fC : Int32) (el ic er ra rb rm sm ma mb : Nat → Int32) (hC : fC = nI (ro_fc n)) {p : Nat} (hp : p < ro_fc n) (H : ∀ t : Nat → Int32, (∀ j, j < ro_fc n → t j = nI (ro_d1 j p)) → post (nI n, fC, el, ic, er, ra, rb, rm, t, ma, mb)) : wpX_startSums post (nI n, fC, el, ic, er, ra, rb, rm, sm, ma, mb) (nI p) := by
  subst hC
  have hc := ro_c120 n
  have g : ∀ d k sm, k + d = ro_fc n → (∀ j, j < k → sm j = nI (ro_d1 j p)) → wX_startSums_2 post (nI p) (nI n) (nI (ro_fc n)) (d + 1) (nI k) el ic er ra rb rm sm ma mb := by
    intro d
    induction d with
    | zero =>
      intro k sm hk e
      have : k = ro_fc n := by omega
      rw [this] at e
      exact br_t (nI_le (by omega) (by omega)) (H sm e)
    | succ d ih =>
      intro k sm hk e
      have ik : vp_in (nI k) 120 := vp_in_nI (by omega) (by decide)
      refine br_f (nI_ge (by omega) (by omega)) ?_
      refine pk_eq k p (fun h => ⟨ik, nm_e (nm_r (nI_1 k) (ih (k + 1) _ (by omega) (fun j hj => ?_)))⟩) (fun h => ⟨ik, nm_e (nm_r (nI_1 k) (ih (k + 1) _ (by omega) (fun j hj => ?_)))⟩)
      · rw [nI_clamp (by omega)]
        exact ro_u (fun q => by rw [ro_d11 (by omega)]; rfl) (fun q => e j (by omega))
      · rw [nI_clamp (by omega)]
        exact ro_u (fun q => by rw [ro_d10' (by omega)]; rfl) (fun q => e j (by omega))
  exact ⟨ro_fc n + 1, g (ro_fc n) 0 sm (by omega) (fun j hj => by omega)⟩
theorem ro_xways {n : Nat} (h2 : 2 ≤ n) (h5 : n ≤ 5) {p q o : Nat} (hp : p < ro_fc n) (hq : q < ro_fc n) (ho : o < 2) (post : Int32 → SX → Prop) (fC : Int32) (el ic er ra rb rm sm ma mb : Nat → Int32) (hC : fC = nI (ro_fc n)) (hT : ro_TX n ic er) (e0 : el 0 = nI p) (e1 : el 1 = nI q)
    (H : ∀ t : Nat → Int32, post (nI (ro_W n o p q)) (nI n, fC, el, ic, er, ra, rb, rm, t, ma, mb)) : wpX_ways post (nI n, fC, el, ic, er, ra, rb, rm, sm, ma, mb) (nI o) := by
  subst hC
  have hc := ro_c120 n
  have g : ∀ d k sm, q ≤ k + d → k < ro_fc n → (∀ j, j < ro_fc n → sm j = nI (ro_ps n o p (fun s => Nat.ble (s + 1) k) j)) → wX_ways_34 post (nI o) (nI q) (d + 1) (nI k) (nI n) (nI (ro_fc n)) el ic er ra rb rm sm ma mb := by
    have fin : ∀ d k sm, q ≤ k → k < ro_fc n → (∀ j, j < ro_fc n → sm j = nI (ro_ps n o p (fun s => Nat.ble (s + 1) k) j)) → wX_ways_34 post (nI o) (nI q) (d + 1) (nI k) (nI n) (nI (ro_fc n)) el ic er ra rb rm sm ma mb := by
      intro d k sm hqk hk e
      refine br_t (nI_le hqk (by omega)) ⟨vp_in_nI (by omega) (by decide), ?_⟩
      rw [nI_clamp (by omega), e q hq, ro_psW h2 h5 ho hq (fun s hs z => Nat.ble_eq_true_of_le (by have := (ro_f25 h2 h5 ho hs hq z).1; omega))]
      exact H sm
    intro d
    induction d with
    | zero => intro k sm hqk hk e; exact fin 0 k sm hqk hk e
    | succ d ih =>
      intro k sm hqk hk e
      by_cases w : q ≤ k
      · exact fin (d + 1) k sm w hk e
      · refine br_f (nI_ge (by omega) (by omega)) ⟨vp_in_nI (by omega) (by decide), ?_⟩
        have eW : ro_ps n o p (fun s => Nat.ble (s + 1) k) k = ro_W n o p k := ro_psW h2 h5 ho hk (fun s hs z => Nat.ble_eq_true_of_le (ro_f25 h2 h5 ho hs hk z).1)
        have hb := ro_Wb (p := p) h2 h5 ho hk
        refine pk_eq (ro_W n o p k) 0 (fun z => nm_r (nI_1 k) (ih (k + 1) sm (by omega) (by omega) (fun j hj => ?_))) (fun z => ?_) (by rw [nI_clamp (by omega), e k hk, eW]) rfl hb (by decide)
        · rw [e j hj]
          refine congrArg nI (ro_psC (fun s hs => ?_))
          by_cases y : s = k
          · rw [y]; exact Or.inr z
          · refine Or.inl ?_
            show Nat.ble (s + 1) k = Nat.ble (s + 1) (k + 1)
            by_cases v : s + 1 ≤ k
            · rw [Nat.ble_eq_true_of_le v, Nat.ble_eq_true_of_le (by omega)]
            · rw [ro_nble (by omega), ro_nble (by omega)]
        · refine ro_xpw h2 h5 hk ho (ro_ps n o p (fun s => Nat.ble (s + 1) k)) _ _ el ic er ra rb rm sm ma mb hT e (fun t ht => nm_r (nI_1 k) (ih (k + 1) t (by omega) (by omega) (fun j hj => ?_)))
          rw [ht j hj]
          unfold ro_ad
          rw [eW]
          refine congrArg nI (ro_psI hk (fun s hs => ?_) ?_ ?_).symm
          · show Nat.ble (s + 1) (k + 1) = Nat.ble (s + 1) k
            by_cases v : s + 1 ≤ k
            · rw [Nat.ble_eq_true_of_le v, Nat.ble_eq_true_of_le (by omega)]
            · rw [ro_nble (by omega), ro_nble (by omega)]
          · exact ro_nble (by omega)
          · exact Nat.ble_eq_true_of_le (by omega)
  unfold wpX_ways
  refine ro_x01 ho _ _ el ic er ra rb rm sm ma mb (br_f (by decide) (nm_r e0 (nm_r e1 ?_)))
  refine ro_xss0 _ _ el ic er ra rb rm sm ma mb rfl hp (fun t ht => ⟨q + 1, g q p t (by omega) hp (fun j hj => ?_)⟩)
  rw [ht j hj, ro_ps0 (fun s hs z => ro_Wlt s (ro_ble z))]
/-! Y: one passes its ways on -/
theorem ro_syS (n o k x : Nat) : ro_sy n o k (x + 1) = cond (ro_nr o (x / n) (x % n)) (cond (Nat.beq (ro_H n (ro_f n k x)) (ro_H n k + 1)) (ro_sy n o k x ||| 1 <<< ro_f n k x) (ro_sy n o k x)) (ro_sy n o k x) := rfl
theorem ro_sym {n o k x j : Nat} (h : ro_tb (ro_sy n o k x) j = true) : ∀ d, ro_tb (ro_sy n o k (x + d)) j = true := by
  intro d
  induction d with
  | zero => exact h
  | succ d ih =>
    rw [show x + (d + 1) = x + d + 1 from rfl, ro_syS]
    cases ro_nr o ((x + d) / n) ((x + d) % n)
    · exact ih
    · cases Nat.beq (ro_H n (ro_f n k (x + d))) (ro_H n k + 1)
      · exact ih
      · show ro_tb (ro_sy n o k (x + d) ||| 1 <<< ro_f n k (x + d)) j = true
        rw [ro_tbo, ih]; rfl
theorem ro_ypo {n : Nat} (h2 : 2 ≤ n) (h5 : n ≤ 5) {a : Nat} (ha : a < ro_fc n) {o : Nat} (ho : o < 2) (F : Nat → Nat) (post : SY → Prop) (gM : Int32) (cs hs un ey ry oy fy : Nat → Int32) (hM : gM = nI (ro_fc n)) (hY : ro_TY n cs hs un) (hF : ∀ j, j < ro_fc n → fy j = nI (F j))
    (H : ∀ t s : Nat → Int32, (∀ j, j < ro_fc n → t j = nI (ro_ad F (ro_S n o a) a j)) → post (nI n, gM, cs, hs, un, ey, s, oy, t)) : wpY_passOn post (nI n, gM, cs, hs, un, ey, ry, oy, fy) (nI o) (nI a) := by
  subst hM
  have hc := ro_c120 n
  have f : ∀ (J : Int32 → Int32 → Int32 → (Nat → Int32) → (Nat → Int32) → (Nat → Int32) → (Nat → Int32) → (Nat → Int32) → (Nat → Int32) → (Nat → Int32) → Prop) i, i < n → (∀ t s : Nat → Int32, (∀ j, j < ro_fc n → t j = nI (ro_ad F (ro_sy n o a ((i + 1) * n)) a j)) → J (nI (i + 1)) (nI n) (nI (ro_fc n)) cs hs un ey s oy t) → ∀ d j ry fy, j + d = n → (∀ l, l < ro_fc n → fy l = nI (ro_ad F (ro_sy n o a (i * n + j)) a l)) → wY_passOn_13 post J (nI o) (nI a) (nI i) (d + 1) (nI j) (nI n) (nI (ro_fc n)) cs hs un ey ry oy fy := by
    intro J i hi HJ d
    induction d with
    | zero =>
      intro j ry fy hj e
      have : i * n + j = (i + 1) * n := by rw [Nat.succ_mul]; omega
      rw [this] at e
      exact br_t (nI_le (by omega) (by omega)) (nm_r (nI_1 i) (HJ fy ry e))
    | succ d ih =>
      intro j ry fy hj e
      have ix := ro_ix (n := n) (i := i) (j := j) (by omega)
      have eS := ro_syS n o a (i * n + j)
      have hf : ro_f n a (i * n + j) = ro_E n a i j := by unfold ro_f; rw [ix.1, ix.2]
      rw [ix.1, ix.2, hf] at eS
      have hE := ro_fE h2 h5 ha hi (j := j) (by omega)
      have b1 := (ro_f2 h2 h5 ha).2.2.2.1
      have b2 := (ro_f2 h2 h5 hE).2.2.2.1
      have hx : i * n + j < n * n := by
        have : (i + 1) * n ≤ n * n := Nat.mul_le_mul_right n hi
        rw [Nat.succ_mul] at this; omega
      refine br_f (nI_ge (by omega) (by omega)) ?_
      refine ro_ynr ho (by omega) (by omega) _ _ cs hs un ey ry oy fy (fun z => br_f (by decide) ?_) (fun z => br_t rfl (nm_r (nI_1 j) (ih (j + 1) ry fy (by omega) ?_)))
      · refine ro_yex h2 h5 ha hi (by omega) _ _ cs hs un ey ry oy fy rfl hY.1 (fun t => ?_)
        rw [z] at eS
        have iE : vp_in (nI (ro_E n a i j)) 120 := vp_in_nI (by omega) (by decide)
        have ia : vp_in (nI a) 120 := vp_in_nI (by omega) (by decide)
        refine ⟨iE, ia, ?_⟩
        refine pk_eq (ro_H n (ro_E n a i j)) (ro_H n a + 1) (fun y => ⟨iE, ia, iE, nm_e (nm_r (nI_1 j) (ih (j + 1) t _ (by omega) ?_))⟩) (fun y => nm_r (nI_1 j) (ih (j + 1) t fy (by omega) ?_)) (by rw [nI_clamp (by omega)]; exact hY.2.1 _ hE) (by rw [nI_clamp (by omega), hY.2.1 _ ha, nI_1])
        · rw [ro_be y] at eS
          rw [← Nat.add_assoc, eS, nI_clamp (by omega), nI_clamp (by omega)]
          have nn := ro_f11 h2 h5 ha ho hx (by rw [ix.1, ix.2]; exact z) (by rw [hf]; exact y)
          rw [hf] at nn
          refine ro_adU e ha hE (ro_ntb (fun v => ?_)) nn
          have v' := ro_sym v (n * n - (i * n + j))
          rw [show i * n + j + (n * n - (i * n + j)) = n * n by omega, (ro_f9 h2 h5 ha ho).2] at v'
          have := (ro_f25 h2 h5 ho ha ha v').1
          omega
        · rw [ro_nbeq y] at eS
          rw [← Nat.add_assoc, eS]; exact e
      · rw [z] at eS
        rw [← Nat.add_assoc, eS]; exact e
  have g : ∀ d i ry fy, i + d = n → (∀ l, l < ro_fc n → fy l = nI (ro_ad F (ro_sy n o a (i * n)) a l)) → wY_passOn_2 post (nI o) (nI a) (d + 1) (nI i) (nI n) (nI (ro_fc n)) cs hs un ey ry oy fy := by
    intro d
    induction d with
    | zero =>
      intro i ry fy hi e
      have : i = n := by omega
      rw [this, (ro_f9 h2 h5 ha ho).2] at e
      exact br_t (nI_le (by omega) (by omega)) (H fy ry e)
    | succ d ih =>
      intro i ry fy hi e
      refine br_f (nI_ge (by omega) (by omega)) ⟨n + 1, ?_⟩
      exact f _ i (by omega) (fun t s w => ih (i + 1) s t (by omega) w) n 0 ry fy (by omega) e
  refine ⟨n + 1, g n 0 ry fy (by omega) (fun j hj => ?_)⟩
  rw [hF j hj]
  unfold ro_ad
  rw [Nat.zero_mul, show ro_sy n o a 0 = 0 from rfl, ro_tb0]; rfl
def ro_P (n h q s : Nat) : Bool := cond (Nat.ble (ro_H n s + 1) h) true (cond (Nat.beq (ro_H n s) h) (Nat.ble (s + 1) q) false)
theorem ro_P1 {n h q s : Nat} (z : ro_H n s < h) : ro_P n h q s = true := by unfold ro_P; rw [Nat.ble_eq_true_of_le z]; rfl
theorem ro_P2 {n h q s : Nat} (z : ro_H n s = h) : ro_P n h q s = Nat.ble (s + 1) q := by unfold ro_P; rw [ro_nble (by omega), ro_be z]; rfl
theorem ro_P3 {n h q s : Nat} (z : h < ro_H n s) : ro_P n h q s = false := by unfold ro_P; rw [ro_nble (by omega), ro_nbeq (by omega)]; rfl
theorem ro_yways {n : Nat} (h2 : 2 ≤ n) (h5 : n ≤ 5) {p q o : Nat} (hp : p < ro_fc n) (hq : q < ro_fc n) (ho : o < 2) (post : Int32 → SY → Prop) (gM : Int32) (cs hs un ey ry oy fy : Nat → Int32) (hM : gM = nI (ro_fc n)) (hY : ro_TY n cs hs un) (e0 : ey 0 = nI p) (e1 : ey 1 = nI q)
    (H : ∀ t s : Nat → Int32, post (nI (ro_W n o p q)) (nI n, gM, cs, hs, un, ey, s, oy, t)) : wpY_ways post (nI n, gM, cs, hs, un, ey, ry, oy, fy) (nI o) := by
  subst hM
  have hc := ro_c120 n
  have bq := (ro_f2 h2 h5 hq).2.2.2.1
  have bp := (ro_f2 h2 h5 hp).2.2.2.1
  have f : ∀ (J : Int32 → Int32 → Int32 → (Nat → Int32) → (Nat → Int32) → (Nat → Int32) → (Nat → Int32) → (Nat → Int32) → (Nat → Int32) → (Nat → Int32) → Prop) h, h ≤ 10 → (∀ t s : Nat → Int32, (∀ j, j < ro_fc n → t j = nI (ro_ps n o p (ro_P n (h + 1) 0) j)) → J (nI (h + 1)) (nI n) (nI (ro_fc n)) cs hs un ey s oy t) → ∀ d r ry fy, r + d = ro_fc n → (∀ j, j < ro_fc n → fy j = nI (ro_ps n o p (ro_P n h r) j)) → wY_ways_76 post J (nI o) (nI h) (d + 1) (nI r) (nI n) (nI (ro_fc n)) cs hs un ey ry oy fy := by
    intro J h hh HJ d
    induction d with
    | zero =>
      intro r ry fy hr e
      refine br_t (nI_le (by omega) (by omega)) (nm_r (nI_1 h) (HJ fy ry (fun j hj => ?_)))
      rw [e j hj]
      refine congrArg nI (ro_psC (fun s hs => Or.inl ?_))
      rcases Nat.lt_trichotomy (ro_H n s) h with z | z | z
      · rw [ro_P1 z, ro_P1 (by omega)]
      · rw [ro_P2 z, ro_P1 (by omega), Nat.ble_eq_true_of_le (by omega)]
      · rw [ro_P3 z]
        by_cases y : ro_H n s = h + 1
        · rw [ro_P2 y, ro_nble (by omega)]
        · rw [ro_P3 (by omega)]
    | succ d ih =>
      intro r ry fy hr e
      have hrc : r < ro_fc n := by omega
      have br := (ro_f2 h2 h5 hrc).2.2.2.1
      have ir : vp_in (nI r) 120 := vp_in_nI (by omega) (by decide)
      refine br_f (nI_ge (by omega) (by omega)) ⟨ir, ?_⟩
      refine pk_eq (ro_H n r) h (fun z => ⟨ir, ?_⟩) (fun z => nm_r (nI_1 r) (ih (r + 1) ry fy (by omega) (fun j hj => ?_))) (by rw [nI_clamp (by omega)]; exact hY.2.1 r hrc)
      · have eW : ro_ps n o p (ro_P n h r) r = ro_W n o p r := ro_psW h2 h5 ho hrc (fun s hs y => ro_P1 (by have := (ro_f25 h2 h5 ho hs hrc y).2; omega))
        have hb := ro_Wb (p := p) h2 h5 ho hrc
        refine pk_le (ro_W n o p r) 0 (fun y => nm_r (nI_1 r) (ih (r + 1) ry fy (by omega) (fun j hj => ?_))) (fun y => ?_) (by rw [nI_clamp (by omega), e r hrc, eW]) rfl hb (by decide)
        · rw [e j hj]
          refine congrArg nI (ro_psC (fun s hs => ?_))
          by_cases v : s = r
          · rw [v]; exact Or.inr (by omega)
          · refine Or.inl ?_
            rcases Nat.lt_trichotomy (ro_H n s) h with x | x | x
            · rw [ro_P1 x, ro_P1 x]
            · rw [ro_P2 x, ro_P2 x]
              by_cases w : s + 1 ≤ r
              · rw [Nat.ble_eq_true_of_le w, Nat.ble_eq_true_of_le (by omega)]
              · rw [ro_nble (by omega), ro_nble (by omega)]
            · rw [ro_P3 x, ro_P3 x]
        · refine ro_ypo h2 h5 hrc ho (ro_ps n o p (ro_P n h r)) _ _ cs hs un ey ry oy fy rfl hY e (fun t s ht => nm_r (nI_1 r) (ih (r + 1) s t (by omega) (fun j hj => ?_)))
          rw [ht j hj]
          unfold ro_ad
          rw [eW]
          refine congrArg nI (ro_psI hrc (fun s hs => ?_) ?_ ?_).symm
          · rcases Nat.lt_trichotomy (ro_H n s) h with x | x | x
            · rw [ro_P1 x, ro_P1 x]
            · rw [ro_P2 x, ro_P2 x]
              by_cases w : s + 1 ≤ r
              · rw [Nat.ble_eq_true_of_le w, Nat.ble_eq_true_of_le (by omega)]
              · rw [ro_nble (by omega), ro_nble (by omega)]
            · rw [ro_P3 x, ro_P3 x]
          · rw [ro_P2 z]; exact ro_nble (by omega)
          · rw [ro_P2 z]; exact Nat.ble_eq_true_of_le (by omega)
      · rw [e j hj]
        refine congrArg nI (ro_psC (fun s hs => Or.inl ?_))
        rcases Nat.lt_trichotomy (ro_H n s) h with x | x | x
        · rw [ro_P1 x, ro_P1 x]
        · rw [ro_P2 x, ro_P2 x]
          have v : s ≠ r := fun v => by rw [v] at x; omega
          by_cases w : s + 1 ≤ r
          · rw [Nat.ble_eq_true_of_le w, Nat.ble_eq_true_of_le (by omega)]
          · rw [ro_nble (by omega), ro_nble (by omega)]
        · rw [ro_P3 x, ro_P3 x]
  have g : ∀ d h ry fy, h ≤ 10 → ro_H n q ≤ h + d → (∀ j, j < ro_fc n → fy j = nI (ro_ps n o p (ro_P n h 0) j)) → wY_ways_59 post (nI o) (d + 1) (nI h) (nI n) (nI (ro_fc n)) cs hs un ey ry oy fy := by
    have fin : ∀ d h ry fy, h ≤ 10 → ro_H n q ≤ h → (∀ j, j < ro_fc n → fy j = nI (ro_ps n o p (ro_P n h 0) j)) → wY_ways_59 post (nI o) (d + 1) (nI h) (nI n) (nI (ro_fc n)) cs hs un ey ry oy fy := by
      intro d h ry fy hh hd e
      have iq : vp_in (ey 1) 120 := by rw [e1]; exact vp_in_nI (by omega) (by decide)
      have eH : hs (ey 1).toNatClampNeg = nI (ro_H n q) := by rw [e1, nI_clamp (by omega)]; exact hY.2.1 q hq
      refine ⟨iq, br_t (by rw [eH]; exact nI_le hd (by omega)) ⟨iq, ?_⟩⟩
      rw [e1, nI_clamp (by omega), e q hq, ro_psW h2 h5 ho hq (fun s hs z => ro_P1 (by have := (ro_f25 h2 h5 ho hs hq z).2; omega))]
      exact H fy ry
    intro d
    induction d with
    | zero => intro h ry fy hh hd e; exact fin 0 h ry fy hh hd e
    | succ d ih =>
      intro h ry fy hh hd e
      by_cases w : ro_H n q ≤ h
      · exact fin (d + 1) h ry fy hh w e
      · have iq : vp_in (ey 1) 120 := by rw [e1]; exact vp_in_nI (by omega) (by decide)
        have eH : hs (ey 1).toNatClampNeg = nI (ro_H n q) := by rw [e1, nI_clamp (by omega)]; exact hY.2.1 q hq
        refine ⟨iq, br_f (by rw [eH]; exact nI_ge (by omega) (by omega)) ⟨ro_fc n + 1, ?_⟩⟩
        exact f _ h hh (fun t s z => ih (h + 1) s t (by omega) (by omega) z) (ro_fc n) 0 ry fy (by omega) e
  have st : ∀ d r fy, r + d = ro_fc n → (∀ j, j < r → fy j = 0) → wY_ways_14 post (nI o) (nI n) (nI (ro_fc n)) (d + 1) (nI r) cs hs un ey ry oy fy := by
    intro d
    induction d with
    | zero =>
      intro r fy hr e
      have ip : vp_in (ey 0) 120 := by rw [e0]; exact vp_in_nI (by omega) (by decide)
      have eH : hs (ey 0).toNatClampNeg = nI (ro_H n p) := by rw [e0, nI_clamp (by omega)]; exact hY.2.1 p hp
      have ec : (ey 0).toNatClampNeg = p := by rw [e0, nI_clamp (by omega)]
      refine br_t (nI_le (by omega) (by omega)) ⟨ip, nm_e ⟨ip, nm_r eH ⟨11, ?_⟩⟩⟩
      rw [ec]
      refine g 10 (ro_H n p) ry _ bp (by omega) (fun j hj => ?_)
      rw [ro_ps0 (fun s hs z => ?_)]
      · exact ro_u (fun w => by rw [ro_d11 w]; rfl) (fun w => by rw [ro_d10' w]; exact e j (by omega))
      · refine ro_WH h2 h5 ho s hs ?_
        rcases Nat.lt_trichotomy (ro_H n s) (ro_H n p) with x | x | x
        · exact x
        · rw [ro_P2 x, ro_nble (by omega)] at z; exact absurd z (by decide)
        · rw [ro_P3 x] at z; exact absurd z (by decide)
    | succ d ih =>
      intro r fy hr e
      refine br_f (nI_ge (by omega) (by omega)) ⟨vp_in_nI (by omega) (by decide), nm_e (nm_r (nI_1 r) (ih (r + 1) _ (by omega) (fun j hj => ?_)))⟩
      rw [nI_clamp (by omega)]
      exact ro_u (fun w => rfl) (fun w => e j (by omega))
  unfold wpY_ways
  exact ro_y01 ho _ _ cs hs un ey ry oy fy (br_t rfl ⟨ro_fc n + 1, st (ro_fc n) 0 fy (by omega) (fun j hj => by omega)⟩)
theorem i_vc_ways {k : Nat} {u : SX} {v : SY} (I : i_Rel k u v) (hk : k + 4 ≤ 2049) (v1 : Int32) : wpX_ways (fun r u' => wpY_ways (fun r' v' => r' = r ∧ i_Rel (k + 4) u' v') v v1) u v1 := by
  obtain ⟨n, pq, el, ic, er, ra, rb, rm, sm, ma, mb, cs, hs, un, ey, ry, oy, fy, h2, h5, hE, hX, hY, rfl, rfl⟩ := I
  obtain ⟨p1, p2, p3⟩ := hE 0 (by decide)
  obtain ⟨q1, q2, q3⟩ := hE 1 (by decide)
  rcases ro_ar v1 (n := 2) (by decide) with h | ⟨o, ho, rfl⟩
  · unfold wpX_ways
    refine ro_x01b h _ _ el ic er ra rb rm sm ma mb (br_t rfl ?_)
    unfold wpY_ways
    exact ro_y01b h _ _ cs hs un ey ry oy fy (br_f (by decide) ⟨rfl, ro_rel h2 h5 hE hX hY _ _ _ _ _ _ _ _ _⟩)
  · refine ro_xways h2 h5 p1 q1 ho _ _ el ic er ra rb rm sm ma mb rfl hX p2 q2 (fun t => ?_)
    refine ro_yways h2 h5 p1 q1 ho _ _ cs hs un ey ry oy fy rfl hY p3 q3 (fun t' s' => ?_)
    exact ⟨rfl, ro_rel h2 h5 hE hX hY _ _ _ _ _ _ _ _ _⟩
