/-! X: codes, the reading of codes, the keeping of rows -/
theorem ro_m10 (x y : Nat) : nI x * 10 + nI y = nI (x * 10 + y) := by
  rw [show (10 : Int32) = nI 10 from rfl, pk_mul, nI_add]
theorem ro_r10 {x : Nat} (h : x < 2 ^ 31) : nI x - nI x / 10 * 10 = nI (x % 10) := pk_rem (d := 10) h (by decide) (by decide)
theorem ro_d10 {x : Nat} (h : x < 2 ^ 31) : nI x / 10 = nI (x / 10) := pk_div (d := 10) h (by decide) (by decide)
theorem ro_n10 : ¬ (10 : Int32) = 0 := by decide
theorem ro_xcode {n : Nat} (h2 : 2 ≤ n) (h5 : n ≤ 5) {k : Nat} (hk : k < ro_fc n) (post : Int32 → SX → Prop) (fC : Int32) (el ic er ra rb rm sm ma mb : Nat → Int32)
    (H : ∀ t : Nat → Int32, post (nI (ro_C n k)) (nI n, fC, el, ic, er, t, rb, rm, sm, ma, mb)) : wpX_codeOfRank post (nI n, fC, el, ic, er, ra, rb, rm, sm, ma, mb) (nI k) := by
  refine ro_xload_row h2 h5 hk _ fC el ic er ra rb rm sm ma mb (fun t ht => ?_)
  have g : ∀ d i, i + d = n → wX_codeOfRank_13 post (nI n) fC el ic er t rb rm sm ma mb (d + 1) (nI (ro_cd (ro_R n k) i)) (nI i) := by
    intro d
    induction d with
    | zero =>
      intro i hi
      have : i = n := by omega
      rw [this, (ro_f2 h2 h5 hk).2.1]
      exact br_t (nI_le (by omega) (by omega)) (H t)
    | succ d ih =>
      intro i hi
      have ci : (nI i).toNatClampNeg = i := nI_clamp (by omega)
      refine br_f (nI_ge (by omega) (by omega)) ⟨vp_in_nI (by omega) (by omega), nm_r (show nI (ro_cd (ro_R n k) i) * 10 + t (nI i).toNatClampNeg = nI (ro_cd (ro_R n k) (i + 1)) from by rw [ci, ht i (by omega), ro_m10]; rfl) (nm_r (nI_1 i) (ih (i + 1) (by omega)))⟩
  exact ⟨n + 1, g n 0 (by omega)⟩
theorem ro_bits : ro_all (fun s => ro_all (fun d => cond (decide ((nI s >>> (nI d &&& 31)) &&& 1 = 0)) (cond (ro_tb s d) false (decide (nI s ||| ((1 : Int32) <<< (nI d &&& 31)) = nI (s ||| 1 <<< d)))) (cond (ro_tb s d) (decide (nI s ||| ((1 : Int32) <<< (nI d &&& 31)) = nI (s ||| 1 <<< d))) false)) 10) 1024 = true := by decide +kernel
theorem ro_bitsS {s d : Nat} (hs : s < 1024) (hd : d < 10) : ((nI s >>> (nI d &&& 31)) &&& 1 = 0 ↔ ro_tb s d = false) ∧ nI s ||| ((1 : Int32) <<< (nI d &&& 31)) = nI (s ||| 1 <<< d) := by
  have a := ro_all_s _ (ro_all_s _ ro_bits s hs) d hd
  by_cases q : (nI s >>> (nI d &&& 31)) &&& 1 = 0
  · have a' := a
    simp only [q, decide_true, cond_true] at a'
    cases e : ro_tb s d with
    | true => rw [e] at a'; exact absurd a' Bool.false_ne_true
    | false => rw [e] at a'; exact ⟨⟨fun _ => rfl, fun _ => q⟩, of_decide_eq_true a'⟩
  · have a' := a
    simp only [q, decide_false, cond_false] at a'
    cases e : ro_tb s d with
    | true => rw [e] at a'; exact ⟨⟨fun z => absurd z q, fun z => absurd z (by decide)⟩, of_decide_eq_true a'⟩
    | false => rw [e] at a'; exact absurd a' Bool.false_ne_true
theorem ro_or64 {s d : Nat} (hs : s < 64) (hd : d < 6) : s ||| 1 <<< d < 64 := by
  have h : 1 <<< d < 2 ^ 6 := by rw [Nat.one_shiftLeft]; exact Nat.pow_lt_pow_right (by decide) hd
  exact Nat.or_lt_two_pow (n := 6) hs h
theorem ro_rdS (n i x s : Nat) : ro_rd n (i + 1) x s = cond (Nat.beq (x % 10) 0) false (cond (Nat.ble (n + 1) (x % 10)) false (cond (ro_tb s (x % 10)) false (ro_rd n i (x / 10) (s ||| 1 <<< (x % 10))))) := rfl
theorem ro_nbeq {a b : Nat} (h : a ≠ b) : Nat.beq a b = false := by
  cases q : Nat.beq a b with
  | false => rfl
  | true => exact absurd (ro_beq q) h
theorem ro_xrd12 {n : Nat} (h5 : n ≤ 5) (post : Int32 → SX → Prop) (fC : Int32) (el ic er ra rb rm sm ma mb : Nat → Int32) : ∀ i x s rm, i ≤ n → x < 2 ^ 31 → s < 64 →
    (∀ t : Nat → Int32, ro_rd n i x s = false → post 0 (nI n, fC, el, ic, er, ra, rb, t, sm, ma, mb)) →
    (∀ t : Nat → Int32, ro_rd n i x s = true → (∀ j, j < i → t j = nI (x / 10 ^ (i - 1 - j) % 10)) → (∀ j, i ≤ j → t j = rm j) → post 1 (nI n, fC, el, ic, er, ra, rb, t, sm, ma, mb)) →
    wX_readCode_12 post (nI n) fC (i + 1) (nI x) (nI s) (nI i + (-1)) el ic er ra rb rm sm ma mb := by
  intro i
  induction i with
  | zero =>
    intro x s rm hi hx hs Hf Ht
    refine br_t (show nI 0 + (-1) < 0 by decide) ?_
    refine pk_eq x 0 (fun h => Ht rm ?_ (fun j a => by omega) (fun j a => rfl)) (fun h => Hf rm ?_)
    · exact ro_be h
    · exact ro_nbeq h
  | succ i ih =>
    intro x s rm hi hx hs Hf Ht
    rw [pk_m1]
    have hd : x % 10 < 10 := Nat.mod_lt _ (by decide)
    refine br_f (nI_pos (by omega)) ⟨ro_n10, nm_r (ro_r10 hx) ⟨ro_n10, nm_r (ro_d10 hx) ?_⟩⟩
    refine pk_lt (x % 10) 1 (fun h => Hf rm ?_) (fun h => ?_)
    · rw [ro_rdS, ro_be (show x % 10 = 0 by omega)]; rfl
    refine pk_lt n (x % 10) (fun h' => Hf rm ?_) (fun h' => ?_)
    · rw [ro_rdS, ro_nbeq (show x % 10 ≠ 0 by omega), Nat.ble_eq_true_of_le h']; rfl
    have eS : ro_rd n (i + 1) x s = cond (ro_tb s (x % 10)) false (ro_rd n i (x / 10) (s ||| 1 <<< (x % 10))) := by
      rw [ro_rdS, ro_nbeq (show x % 10 ≠ 0 by omega), ro_nble (show x % 10 < n + 1 by omega)]; rfl
    have b := ro_bitsS (show s < 1024 by omega) hd
    have ci : (nI i).toNatClampNeg = i := nI_clamp (by omega)
    refine br_c (fun z => ?_) (fun z => Hf rm ?_)
    · have ez := b.1.mp z
      rw [ez] at eS
      refine nm_r b.2 ⟨vp_in_nI (by omega) (by omega), nm_e (nm_e ?_)⟩
      rw [ci]
      refine ih (x / 10) _ (upd rm i (nI (x % 10))) (by omega) (by omega) (ro_or64 hs (by omega)) (fun t ht => Hf t (by rw [eS]; exact ht)) (fun t ht h1 h3 => Ht t (by rw [eS]; exact ht) (fun j hj => ?_) (fun j hj => ?_))
      · by_cases q : j = i
        · rw [h3 j (by omega), q, pk_us, show i + 1 - 1 - i = 0 by omega]
          simp
        · rw [h1 j (by omega), show i + 1 - 1 - j = (i - 1 - j) + 1 by omega, Nat.pow_succ, Nat.mul_comm, ← Nat.div_div_eq_div_mul]
      · rw [h3 j (by omega), pk_un (by omega)]
    · have ez : ro_tb s (x % 10) = true := by
        cases e : ro_tb s (x % 10) with
        | true => rfl
        | false => exact absurd (b.1.mpr e) z
      rw [eS, ez]; rfl
theorem ro_rdlt (n : Nat) : ∀ i x s, ro_rd n i x s = true → x < 10 ^ i := by
  intro i
  induction i with
  | zero => intro x s h; have := ro_beq (show Nat.beq x 0 = true from h); simp [this]
  | succ i ih =>
    intro x s h
    rw [ro_rdS] at h
    cases e1 : Nat.beq (x % 10) 0 with
    | true => rw [e1] at h; exact absurd h Bool.false_ne_true
    | false =>
      cases e2 : Nat.ble (n + 1) (x % 10) with
      | true => rw [e1, e2] at h; exact absurd h Bool.false_ne_true
      | false =>
        cases e3 : ro_tb s (x % 10) with
        | true => rw [e1, e2, e3] at h; exact absurd h Bool.false_ne_true
        | false =>
          rw [e1, e2, e3] at h
          have := ih _ _ h
          rw [Nat.pow_succ]; omega
theorem ro_neg {x : Int32} (h : x < 0) : x - x / 10 * 10 < 1 := by
  rw [Int32.lt_iff_toInt_lt] at h ⊢
  rw [rem_toInt]
  have h0 : x.toInt < 0 := h
  have e : (10 : Int32).toInt = 10 := by decide
  have e1 : (1 : Int32).toInt = 1 := by decide
  rw [e, e1]
  have e2 : x.toInt.tmod 10 = -((-x.toInt).tmod 10) := by rw [Int.neg_tmod, Int.neg_neg]
  rw [e2, Int.tmod_eq_emod_of_nonneg (by omega)]
  have := Int.emod_nonneg (-x.toInt) (show (10 : Int) ≠ 0 by decide)
  omega
/-- a code is read: it is no permutation's, or its digits stand in the made row -/
theorem ro_xread {n : Nat} (h2 : 2 ≤ n) (h5 : n ≤ 5) (p : Int32) (post : Int32 → SX → Prop) (fC : Int32) (el ic er ra rb rm sm ma mb : Nat → Int32)
    (Hf : ∀ t : Nat → Int32, (∀ k, k < ro_fc n → p ≠ nI (ro_C n k)) → post 0 (nI n, fC, el, ic, er, ra, rb, t, sm, ma, mb))
    (Ht : ∀ (t : Nat → Int32) (c : Nat), p = nI c → ro_kc n c < ro_fc n → ro_C n (ro_kc n c) = c → (∀ j, j < n → t j = nI (ro_dr n c j)) → post 1 (nI n, fC, el, ic, er, ra, rb, t, sm, ma, mb)) : wpX_readCode post (nI n, fC, el, ic, er, ra, rb, rm, sm, ma, mb) p := by
  by_cases h : p < 0
  · refine nm_r (show nI n - 1 = nI (n - 1) from pk_sub (b := 1) (by omega)) ⟨1, ?_⟩
    refine br_f (nI_pos (by omega)) ⟨ro_n10, nm_e ⟨ro_n10, nm_e (br_t (ro_neg h) (Hf rm (fun k hk e => ?_)))⟩⟩
    have := (ro_f7 h2 h5 hk).2.2
    have := ro_p10 h5
    rw [e] at h
    exact nI_pos (by omega) h
  · obtain ⟨c, hc, rfl⟩ := nI_of h
    refine nm_r (show nI n - 1 = nI n + (-1) from by
      obtain ⟨m, rfl⟩ : ∃ m, n = m + 1 := ⟨n - 1, by omega⟩
      rw [pk_m1, nI_pred]) ⟨n + 1, ?_⟩
    refine ro_xrd12 h5 post fC el ic er ra rb rm sm ma mb n c 0 rm (Nat.le_refl n) hc (by decide) (fun t ht => Hf t (fun k hk e => ?_)) (fun t ht h1 h3 => ?_)
    · have a := ro_f7 h2 h5 hk
      have := ro_p10 h5
      rw [(nI_eq hc (by omega)).mp e, a.1] at ht
      exact absurd ht (by decide)
    · have b := ro_f30 h2 h5 (ro_rdlt n n c 0 ht) ht
      exact Ht t c rfl b.1 b.2 (fun j hj => h1 j hj)
def ro_TX (n : Nat) (ic er : Nat → Int32) : Prop := (∀ k, k < ro_fc n → ic k = nI (ro_H n k)) ∧ (∀ k, k < ro_fc n → ∀ p, p < ro_np n → er (k * 10 + p) = nI (ro_e n k p))
theorem ro_xkeep {n : Nat} (h5 : n ≤ 5) {r : Nat → Nat} (hr : ∀ j, j < n → r j < 100) (fC : Int32) (el ic er ra rb rm sm ma mb : Nat → Int32) (e : ∀ j, j < n → rm j = nI (r j)) (hk : ro_rk r n n < ro_fc n) (hT : ro_TX n ic er) {d : Nat} (hd : d < 2) (post : Int32 → SX → Prop)
    (H : post (nI (ro_H n (ro_rk r n n))) (nI n, fC, (upd el d (nI (ro_rk r n n))), ic, er, ra, rb, rm, sm, ma, mb)) : wpX_keepMade post (nI n, fC, el, ic, er, ra, rb, rm, sm, ma, mb) (nI d) := by
  have hc := ro_c120 n
  refine ro_xrk fC el ic er ra rb rm sm ma mb h5 hr e _ ?_
  refine ⟨vp_in_nI hd (by decide), nm_e ⟨vp_in_nI (by omega) (by decide), ?_⟩⟩
  rw [nI_clamp (by omega), nI_clamp (by omega), hT.1 _ hk]
  exact H
/-! X: the tables are filled -/
theorem ro_bsS : ∀ n, n ≤ 5 → ∀ d, d < n → 1 ≤ d → ro_bs n d + (n - d) = ro_bs n (d + 1) := by decide
theorem ro_bs1 (n : Nat) : ro_bs n 1 = 0 := by simp [ro_bs]
theorem ro_bsN : ∀ n, n ≤ 5 → 2 ≤ n → ro_bs n n = ro_np n ∧ ro_np n ≤ 10 := by decide
theorem ro_swb {n : Nat} {t : Nat → Int32} {i j : Nat} : upd (upd (upd (upd t i (t j)) j (t i)) i (upd (upd t i (t j)) j (t i) j)) j (upd (upd t i (t j)) j (t i) i) = t := by
  funext x
  by_cases hj : x = j
  · subst hj
    rw [pk_us]
    by_cases hi : i = x
    · subst hi; rw [pk_us]
    · rw [pk_un hi, pk_us]
  · rw [pk_un hj]
    by_cases hi : x = i
    · subst hi; rw [pk_us, pk_us]
    · rw [pk_un hi, pk_un hj, pk_un hi]
theorem ro_xft38 {n : Nat} (h2 : 2 ≤ n) (h5 : n ≤ 5) {k : Nat} (hk : k < ro_fc n) {d : Nat} (h1 : 1 ≤ d) (hd : d < n) (post : SX → Prop) (J27 : Int32 → Int32 → Int32 → Int32 → (Nat → Int32) → (Nat → Int32) → (Nat → Int32) → (Nat → Int32) → (Nat → Int32) → (Nat → Int32) → (Nat → Int32) → (Nat → Int32) → (Nat → Int32) → Prop) (fC : Int32) (el ic er ra rb rm sm ma mb : Nat → Int32) (e : ∀ j, j < n → rm j = nI (ro_R n k j)) (er0 : Nat → Int32)
    (HJ : ∀ t : Nat → Int32, (∀ p, p < ro_bs n (d + 1) → t (k * 10 + p) = nI (ro_e n k p)) → (∀ x, x < k * 10 → t x = er0 x) → J27 (nI (ro_bs n (d + 1))) (nI (d + 1)) (nI n) fC el ic t ra rb rm sm ma mb) :
    ∀ m i er, i + m = n - d → (∀ p, p < ro_bs n d + i → er (k * 10 + p) = nI (ro_e n k p)) → (∀ x, x < k * 10 → er x = er0 x) → wX_fillTables_38 post J27 (nI k) (nI d) (m + 1) (nI (ro_bs n d + i)) (nI i) (nI n) fC el ic er ra rb rm sm ma mb := by
  have hc := ro_c120 n
  intro m
  induction m with
  | zero =>
    intro i er hi e1 e2
    have h := ro_bsS n h5 d hd h1
    have hi' : ro_bs n d + i = ro_bs n (d + 1) := by omega
    rw [hi'] at e1 ⊢
    refine br_t ?_ (nm_r (nI_1 d) (HJ er e1 e2))
    rw [pk_sub (by omega)]; exact nI_le (by omega) (by omega)
  | succ m ih =>
    intro i er hi e1 e2
    have f := ro_f13 h2 h5 h1 hd (i := i) (by omega)
    have g := ro_bsN n h5 h2
    have sE := ro_swE e (i := i) (j := i + d) (by omega) (by omega)
    refine br_f ?_ ?_
    · rw [pk_sub (by omega)]; exact nI_ge (by omega) (by omega)
    rw [nI_add]
    refine ro_xex h5 (i := i) (j := i + d) (by omega) (by omega) _ _ fC el ic er ra rb rm sm ma mb ?_
    refine ro_xrk fC el ic er ra rb (upd (upd rm i (rm (i + d))) (i + d) (rm i)) sm ma mb h5 (r := ro_sw (ro_R n k) i (i + d)) ?_ sE _ ?_
    · intro j hj
      have a1 := (ro_fR h2 h5 hk (j := i) (by omega)).2.2
      have a2 := (ro_fR h2 h5 hk (j := i + d) (by omega)).2.2
      have a3 := (ro_fR h2 h5 hk hj).2.2
      unfold ro_sw
      cases Nat.beq j (i + d)
      · cases Nat.beq j i
        · exact (by omega : ro_R n k j < 100)
        · exact (by omega : ro_R n k (i + d) < 100)
      · exact (by omega : ro_R n k i < 100)
    have eR : ro_rk (ro_sw (ro_R n k) i (i + d)) n n = ro_e n k (ro_bs n d + i) := by
      rw [(ro_f5 h2 h5 hk (i := i) (j := i + d) (by omega) (by omega)).1]
      unfold ro_e
      rw [f.1, f.2.1]
    rw [eR, ro_m10]
    refine ⟨vp_in_nI (by omega) (by decide), nm_e ?_⟩
    rw [nI_clamp (by omega)]
    refine ro_xex h5 (i := i) (j := i + d) (by omega) (by omega) _ _ fC el ic (upd er (k * 10 + (ro_bs n d + i)) (nI (ro_e n k (ro_bs n d + i)))) ra rb (upd (upd rm i (rm (i + d))) (i + d) (rm i)) sm ma mb ?_
    rw [ro_swb (n := n)]
    refine nm_r (nI_1 _) (nm_r (nI_1 i) ?_)
    refine ih (i + 1) _ (by omega) ?_ ?_
    · intro p hp
      exact ro_u (fun q => by rw [show p = ro_bs n d + i by omega]) (fun q => e1 p (by omega))
    · intro x hx
      exact ro_u (fun q => by omega) (fun _ => e2 x hx)
theorem ro_xft {n : Nat} (h2 : 2 ≤ n) (h5 : n ≤ 5) {k : Nat} (hk : k < ro_fc n) (post : SX → Prop) (fC : Int32) (el ic er ra rb rm sm ma mb : Nat → Int32)
    (H : ∀ t s : Nat → Int32, (∀ p, p < ro_np n → t (k * 10 + p) = nI (ro_e n k p)) → (∀ x, x < k * 10 → t x = er x) → post (nI n, fC, el, (upd ic k (nI (ro_H n k))), t, ra, rb, s, sm, ma, mb)) : wpX_fillTables post (nI n, fC, el, ic, er, ra, rb, rm, sm, ma, mb) (nI k) := by
  have hc := ro_c120 n
  refine ro_xload_made h2 h5 hk _ fC el ic er ra rb rm sm ma mb (fun s hs => ?_)
  refine ro_xci fC el ic er ra rb s sm ma mb h5 (r := ro_R n k) (fun j hj => by have := (ro_fR h2 h5 hk hj).2.2; omega) hs _ ?_
  rw [(ro_f2 h2 h5 hk).2.2.1]
  refine ⟨vp_in_nI (by omega) (by decide), nm_e ?_⟩
  rw [nI_clamp (by omega)]
  have g : ∀ m d t, d + m = n → 1 ≤ d → (∀ p, p < ro_bs n d → t (k * 10 + p) = nI (ro_e n k p)) → (∀ x, x < k * 10 → t x = er x) → wX_fillTables_27 post (nI k) (m + 1) (nI (ro_bs n d)) (nI d) (nI n) fC el (upd ic k (nI (ro_H n k))) t ra rb s sm ma mb := by
    intro m
    induction m with
    | zero =>
      intro d t hd h1 e1 e2
      have hd' : d = n := by omega
      rw [hd', (ro_bsN n h5 h2).1] at e1
      rw [hd']
      exact br_t (nI_le (by omega) (by omega)) (H t s e1 e2)
    | succ m ih =>
      intro d t hd h1 e1 e2
      refine br_f (nI_ge (by omega) (by omega)) ⟨n - d + 1, ?_⟩
      exact ro_xft38 h2 h5 hk h1 (by omega) post _ fC el (upd ic k (nI (ro_H n k))) t ra rb s sm ma mb hs er (fun t' a b => ih (d + 1) t' (by omega) (by omega) a b) (n - d) 0 t (by omega) e1 e2
  refine ⟨n - 1 + 1, ?_⟩
  have h := g (n - 1) 1 er (by omega) (by omega) (fun p hp => by rw [ro_bs1] at hp; omega) (fun x hx => rfl)
  rw [ro_bs1] at h
  exact h
def ro_fa : Nat → Nat
  | 0 => 1
  | i + 1 => ro_fa i * (i + 2)
theorem ro_faN : ∀ n, n ≤ 5 → 2 ≤ n → ro_fa (n - 1) = ro_fc n := by decide
theorem ro_xin {n : Nat} (h2 : 2 ≤ n) (h5 : n ≤ 5) (post : SX → Prop) (fC : Int32) (el ra rb sm ma mb : Nat → Int32)
    (H : ∀ ic er rm : Nat → Int32, ro_TX n ic er → post (nI n, (nI (ro_fc n)), el, ic, er, ra, rb, rm, sm, ma, mb)) : ∀ ic er rm : Nat → Int32, ∃ m, wX_init_100 post (nI n) fC el ic er ra rb rm sm ma mb m 1 2 := by
  have hc := ro_c120 n
  have g : ∀ m k ic er rm, k + m = ro_fc n → (∀ k', k' < k → ic k' = nI (ro_H n k')) → (∀ k', k' < k → ∀ p, p < ro_np n → er (k' * 10 + p) = nI (ro_e n k' p)) → wX_init_125 post (m + 1) (nI k) (nI n) (nI (ro_fc n)) el ic er ra rb rm sm ma mb := by
    intro m
    induction m with
    | zero =>
      intro k ic er rm hk e1 e2
      have : k = ro_fc n := by omega
      rw [this] at e1 e2 ⊢
      exact br_t (nI_le (by omega) (by omega)) (H ic er rm ⟨e1, e2⟩)
    | succ m ih =>
      intro k ic er rm hk e1 e2
      refine br_f (nI_ge (by omega) (by omega)) ?_
      refine ro_xft h2 h5 (k := k) (by omega) _ (nI (ro_fc n)) el ic er ra rb rm sm ma mb (fun t s a b => ?_)
      refine nm_r (nI_1 k) (ih (k + 1) _ t s (by omega) ?_ ?_)
      · intro k' hk'
        exact ro_u (fun q => by rw [q]) (fun q => e1 k' (by omega))
      · intro k' hk' p hp
        have := (ro_bsN n h5 h2).2
        by_cases q : k' = k
        · rw [q]; exact a p hp
        · rw [b _ (by omega)]; exact e2 k' (by omega) p hp
  intro ic er rm
  have f : ∀ m i, i + 1 + m = n → wX_init_100 post (nI n) fC el ic er ra rb rm sm ma mb (m + 1) (nI (ro_fa i)) (nI (i + 2)) := by
    intro m
    induction m with
    | zero =>
      intro i hi
      have e := ro_faN n h5 h2
      rw [show n - 1 = i by omega] at e
      refine br_t (nI_lt (by omega) (by omega)) ⟨ro_fc n + 1, ?_⟩
      rw [e]
      exact g (ro_fc n) 0 ic er rm (by omega) (fun _ h => by omega) (fun _ h => by omega)
    | succ m ih =>
      intro i hi
      exact br_f (nI_nlt (by omega) (by omega)) (nm_r (pk_mul _ _) (nm_r (nI_1 _) (ih (i + 1) (by omega))))
  exact ⟨n - 1 + 1, f (n - 1) 0 (by omega)⟩
