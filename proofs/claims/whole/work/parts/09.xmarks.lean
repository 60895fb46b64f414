/-! X: steps and marks -/
theorem ro_prb {n o : Nat} (h2 : 2 ≤ n) (h5 : n ≤ 5) : ro_pr n o ≤ ro_np n ∧ ro_np n ≤ 10 := by
  have a := (ro_bsN n h5 h2).2
  refine ⟨?_, a⟩
  unfold ro_pr
  cases Nat.beq o 0
  · have h : n = 2 ∨ n = 3 ∨ n = 4 ∨ n = 5 := by omega
    rcases h with h | h | h | h <;> rw [h] <;> decide
  · exact Nat.le_refl _
theorem ro_xcp {n : Nat} (h2 : 2 ≤ n) (h5 : n ≤ 5) {o : Nat} (ho : o < 2) (post : Int32 → Prop) (fC : Int32) (el ic er ra rb rm sm ma mb : Nat → Int32) (H : post (nI (ro_pr n o))) : wpX_countPairs post (nI n, fC, el, ic, er, ra, rb, rm, sm, ma, mb) (nI o) := by
  have e1 : nI n - 1 = nI (n - 1) := pk_sub (b := 1) (by omega)
  have h : o = 0 ∨ o = 1 := by omega
  rcases h with h | h <;> subst h
  · refine br_t rfl ⟨by decide, ?_⟩
    have hb : n * (n - 1) < 2 ^ 31 := Nat.lt_of_le_of_lt (Nat.mul_le_mul h5 (show n - 1 ≤ 5 by omega)) (by decide)
    rw [e1, pk_mul, show (2 : Int32) = nI 2 from rfl, pk_div hb (by decide) (by decide)]
    exact H
  · refine br_f (by decide) ?_
    rw [e1]
    exact H
theorem ro_xst {n : Nat} (h2 : 2 ≤ n) (h5 : n ≤ 5) {a b : Nat} (ha : a < ro_fc n) (hb : b < ro_fc n) (post : Int32 → Prop) (fC : Int32) (el ic er ra rb rm sm ma mb : Nat → Int32) (hT : ro_TX n ic er) (H0 : ro_H n b ≤ ro_H n a → post 0) (H1 : ro_H n a < ro_H n b → post 1) : wpX_isStep post (nI n, fC, el, ic, er, ra, rb, rm, sm, ma, mb) (nI a) (nI b) := by
  have hc := ro_c120 n
  have p := (ro_f2 h2 h5 ha).2.2.2.1
  have q := (ro_f2 h2 h5 hb).2.2.2.1
  refine ⟨vp_in_nI (by omega) (by decide), vp_in_nI (by omega) (by decide), ?_⟩
  exact pk_le (ro_H n b) (ro_H n a) H0 H1 (by rw [nI_clamp (by omega)]; exact hT.1 b hb) (by rw [nI_clamp (by omega)]; exact hT.1 a ha)
theorem ro_xss {n : Nat} (h2 : 2 ≤ n) (h5 : n ≤ 5) {a b : Nat} (ha : a < ro_fc n) (hb : b < ro_fc n) (post : Int32 → Prop) (fC : Int32) (el ic er ra rb rm sm ma mb : Nat → Int32) (hT : ro_TX n ic er) (H1 : ro_H n b = ro_H n a + 1 → post 1) (H0 : ro_H n b ≠ ro_H n a + 1 → post 0) : wpX_isSingleStep post (nI n, fC, el, ic, er, ra, rb, rm, sm, ma, mb) (nI a) (nI b) := by
  have hc := ro_c120 n
  have p := (ro_f2 h2 h5 ha).2.2.2.1
  have q := (ro_f2 h2 h5 hb).2.2.2.1
  refine ⟨vp_in_nI (by omega) (by decide), vp_in_nI (by omega) (by decide), ?_⟩
  exact pk_eq (ro_H n b) (ro_H n a + 1) H1 H0 (by rw [nI_clamp (by omega)]; exact hT.1 b hb) (by rw [nI_clamp (by omega), hT.1 a ha, nI_1])
theorem ro_gxs1 {n k p : Nat} (h : ro_H n k < ro_H n (ro_e n k p)) : ro_gx n k (p + 1) = ro_gx n k p ||| 1 <<< ro_e n k p := by
  show cond (Nat.ble (ro_H n k + 1) (ro_H n (ro_e n k p))) (ro_gx n k p ||| 1 <<< ro_e n k p) (ro_gx n k p) = _
  rw [Nat.ble_eq_true_of_le h]; rfl
theorem ro_gxs0 {n k p : Nat} (h : ro_H n (ro_e n k p) ≤ ro_H n k) : ro_gx n k (p + 1) = ro_gx n k p := by
  show cond (Nat.ble (ro_H n k + 1) (ro_H n (ro_e n k p))) (ro_gx n k p ||| 1 <<< ro_e n k p) (ro_gx n k p) = _
  rw [ro_nble (Nat.lt_succ_of_le h)]; rfl
theorem ro_gxm {n k p j : Nat} (h : ro_tb (ro_gx n k p) j = true) : ∀ d, ro_tb (ro_gx n k (p + d)) j = true := by
  intro d
  induction d with
  | zero => exact h
  | succ d ih =>
    by_cases q : ro_H n k < ro_H n (ro_e n k (p + d))
    · rw [show p + (d + 1) = p + d + 1 from rfl, ro_gxs1 q, ro_tbo, ih]; rfl
    · rw [show p + (d + 1) = p + d + 1 from rfl, ro_gxs0 (by omega)]; exact ih
/-- marks as the bits of a number -/
def ro_mk (n : Nat) (mk : Nat → Int32) (m : Nat) : Prop := ∀ j, j < ro_fc n → mk j = ro_bt m j
theorem ro_mk1 {n m t : Nat} {mk : Nat → Int32} (h : ro_mk n mk m) : ro_mk n (upd mk t (vp_nar .boolean 1)) (m ||| 1 <<< t) := by
  intro j hj
  rw [ro_narB 1 (Or.inr rfl)]
  refine ro_u (fun q => ?_) (fun q => ?_)
  · refine (ro_bt1 ?_).symm
    rw [ro_tbo, ro_tb1, q]; simp
  · rw [h j hj]
    unfold ro_bt
    rw [ro_tbo, ro_tb1, decide_eq_false q, Bool.or_false]
theorem ro_mk0 {n m t : Nat} {mk : Nat → Int32} (h : ro_mk n mk m) (h0 : ro_tb m t = false) : ro_mk n (upd mk t (vp_nar .boolean 0)) m := by
  intro j hj
  rw [ro_narB 0 (Or.inl rfl)]
  refine ro_u (fun q => ?_) (fun q => h j hj)
  rw [q]; exact (ro_bt0 h0).symm
theorem ro_or0 (m : Nat) : m ||| 0 = m := Nat.or_zero m
theorem ro_xsf_marks {n : Nat} (h2 : 2 ≤ n) (h5 : n ≤ 5) {a : Nat} (ha : a < ro_fc n) {o : Nat} (ho : o < 2) (m : Nat) (post : SX → Prop) (fC : Int32) (el ic er ra rb rm sm ma mb : Nat → Int32) (hT : ro_TX n ic er) (hm : ro_mk n ma m)
    (H : ∀ t, ro_mk n t (m ||| ro_G n o a) → post (nI n, fC, el, ic, er, ra, rb, rm, sm, t, mb)) : wpX_markStepsFrom__marks post (nI n, fC, el, ic, er, ra, rb, rm, sm, ma, mb) (nI a) (nI o) := by
  have hc := ro_c120 n
  have hp := ro_prb (o := o) h2 h5
  have g : ∀ d p ma, p + d = ro_pr n o → ro_mk n ma (m ||| ro_gx n a p) → wX_markStepsFrom__marks_10 post (nI a) (nI (ro_pr n o)) (nI n) fC (d + 1) (nI p) el ic er ra rb rm sm ma mb := by
    intro d
    induction d with
    | zero =>
      intro p ma hp' e
      have : p = ro_pr n o := by omega
      rw [this, (ro_f8 h2 h5 ha ho).1] at e
      exact br_t (nI_le (by omega) (by omega)) (H ma e)
    | succ d ih =>
      intro p ma hp' e
      have hpn : p < ro_np n := by omega
      have hE := ro_fe h2 h5 ha hpn
      refine br_f (nI_ge (by omega) (by omega)) ?_
      rw [ro_m10]
      refine ⟨vp_in_nI (by omega) (by decide), nm_r (show er (nI (a * 10 + p)).toNatClampNeg = nI (ro_e n a p) from by rw [nI_clamp (by omega)]; exact hT.2 a ha p hpn) ?_⟩
      refine ro_xst h2 h5 ha hE _ fC el ic er ra rb rm sm ma mb hT (fun h => br_t rfl (nm_r (nI_1 p) (ih (p + 1) ma (by omega) ?_))) (fun h => br_f (by decide) ⟨vp_in_nI (by omega) (by decide), nm_e (nm_r (nI_1 p) (ih (p + 1) _ (by omega) ?_))⟩)
      · rw [ro_gxs0 h]; exact e
      · rw [ro_gxs1 h, nI_clamp (by omega), ← Nat.or_assoc]; exact ro_mk1 e
  unfold wpX_markStepsFrom__marks
  refine ro_xcp h2 h5 ho _ fC el ic er ra rb rm sm ma mb ?_
  exact ⟨ro_pr n o + 1, g (ro_pr n o) 0 ma (by omega) (by rw [show ro_gx n a 0 = 0 from rfl, ro_or0]; exact hm)⟩
theorem ro_xma_marks {n : Nat} (h2 : 2 ≤ n) (h5 : n ≤ 5) {k : Nat} (hk : k < ro_fc n) {o : Nat} (ho : o < 2) (post : SX → Prop) (fC : Int32) (el ic er ra rb rm sm ma mb : Nat → Int32) (hT : ro_TX n ic er) (hC : fC = nI (ro_fc n))
    (H : ∀ t, ro_mk n t (ro_U n o k) → post (nI n, fC, el, ic, er, ra, rb, rm, sm, t, mb)) : wpX_markAbove__marks post (nI n, fC, el, ic, er, ra, rb, rm, sm, ma, mb) (nI k) (nI o) := by
  subst hC
  have hc := ro_c120 n
  have g : ∀ q r ma m, r + q = ro_fc n → ro_mk n ma m → ro_ma n o q m = ro_U n o k → wX_markAbove__marks_36 post (nI o) (q + 1) (nI r) (nI n) (nI (ro_fc n)) el ic er ra rb rm sm ma mb := by
    intro q
    induction q with
    | zero =>
      intro r ma m hr e1 e2
      have e2' : m = ro_U n o k := e2
      rw [e2'] at e1
      exact br_t (nI_le (by omega) (by omega)) (H ma e1)
    | succ q ih =>
      intro r ma m hr e1 e2
      have hrq : ro_fc n - (q + 1) = r := by omega
      have e2' : ro_ma n o q (cond (ro_tb m (ro_fc n - (q + 1))) (m ||| ro_G n o (ro_fc n - (q + 1))) m) = ro_U n o k := e2
      rw [hrq] at e2'
      refine br_f (nI_ge (by omega) (by omega)) ⟨vp_in_nI (by omega) (by decide), ?_⟩
      rw [nI_clamp (by omega), e1 r (by omega), ro_btz]
      refine br_c (fun z => nm_r (nI_1 r) (ih (r + 1) ma m (by omega) e1 ?_)) (fun z => ?_)
      · rw [z] at e2'; exact e2'
      · have z' : ro_tb m r = true := by
          cases w : ro_tb m r with
          | true => rfl
          | false => exact absurd w z
        refine ro_xsf_marks h2 h5 (by omega) ho m _ _ el ic er ra rb rm sm ma mb hT e1 (fun t ht => nm_r (nI_1 r) (ih (r + 1) t (m ||| ro_G n o r) (by omega) ht ?_))
        rw [z'] at e2'; exact e2'
  have f : ∀ q r ma, r + q = ro_fc n → (∀ j, j < r → ma j = ro_bt (1 <<< k) j) → wX_markAbove__marks_3 post (nI k) (nI o) (nI n) (nI (ro_fc n)) (q + 1) (nI r) el ic er ra rb rm sm ma mb := by
    intro q
    induction q with
    | zero =>
      intro r ma hr e
      have hrc : r = ro_fc n := by omega
      rw [hrc] at e
      exact br_t (nI_le (by omega) (by omega)) ⟨ro_fc n - k + 1, g (ro_fc n - k) k ma (1 <<< k) (by omega) e (ro_f21 h2 h5 ho hk).1⟩
    | succ q ih =>
      intro r ma hr e
      have inr : vp_in (nI r) 120 := vp_in_nI (by omega) (by decide)
      refine br_f (nI_ge (by omega) (by omega)) ?_
      refine pk_eq r k (fun h => ⟨inr, nm_e (nm_r (nI_1 r) (ih (r + 1) _ (by omega) ?_))⟩) (fun h => ⟨inr, nm_e (nm_r (nI_1 r) (ih (r + 1) _ (by omega) ?_))⟩)
      · intro j hj
        rw [nI_clamp (by omega), ro_narB 1 (Or.inr rfl)]
        refine ro_u (fun p => (ro_bt1 ?_).symm) (fun p => e j (by omega))
        rw [ro_tb1, p, h]; exact decide_eq_true rfl
      · intro j hj
        rw [nI_clamp (by omega), ro_narB 0 (Or.inl rfl)]
        refine ro_u (fun p => (ro_bt0 ?_).symm) (fun p => e j (by omega))
        rw [ro_tb1, p]; exact decide_eq_false h
  exact ⟨ro_fc n + 1, f (ro_fc n) 0 ma (by omega) (fun j hj => by omega)⟩
theorem ro_xsm_marks {n : Nat} (h2 : 2 ≤ n) (h5 : n ≤ 5) {a : Nat} (ha : a < ro_fc n) {o : Nat} (ho : o < 2) (m : Nat) (post : Int32 → Prop) (fC : Int32) (el ic er ra rb rm sm ma mb : Nat → Int32) (hT : ro_TX n ic er) (hm : ro_mk n ma m)
    (H0 : ro_G n o a &&& m = 0 → post 0) (H1 : ro_G n o a &&& m ≠ 0 → post 1) : wpX_stepsToMarked__marks post (nI n, fC, el, ic, er, ra, rb, rm, sm, ma, mb) (nI a) (nI o) := by
  have hc := ro_c120 n
  have hp := ro_prb (o := o) h2 h5
  have g : ∀ d p, p + d = ro_pr n o → ro_gx n a p &&& m = 0 → wX_stepsToMarked__marks_10 post (nI a) (nI (ro_pr n o)) (nI n) fC el ic er ra rb rm sm ma mb (d + 1) (nI p) := by
    intro d
    induction d with
    | zero =>
      intro p hp' e
      have : p = ro_pr n o := by omega
      rw [this, (ro_f8 h2 h5 ha ho).1] at e
      exact br_t (nI_le (by omega) (by omega)) (H0 e)
    | succ d ih =>
      intro p hp' e
      have hpn : p < ro_np n := by omega
      have hE := ro_fe h2 h5 ha hpn
      refine br_f (nI_ge (by omega) (by omega)) ?_
      rw [ro_m10]
      refine ⟨vp_in_nI (by omega) (by decide), nm_r (show er (nI (a * 10 + p)).toNatClampNeg = nI (ro_e n a p) from by rw [nI_clamp (by omega)]; exact hT.2 a ha p hpn) ?_⟩
      refine ro_xst h2 h5 ha hE _ fC el ic er ra rb rm sm ma mb hT (fun h => br_t rfl (nm_r (nI_1 p) (ih (p + 1) (by omega) ?_))) (fun h => br_f (by decide) ⟨vp_in_nI (by omega) (by decide), ?_⟩)
      · rw [ro_gxs0 h]; exact e
      · rw [nI_clamp (by omega), hm _ hE, ro_btz]
        refine br_c (fun z => nm_r (nI_1 p) (ih (p + 1) (by omega) ?_)) (fun z => H1 (fun y => ?_))
        · rw [ro_gxs1 h, Nat.and_or_distrib_right, e, Nat.zero_or]
          apply Nat.eq_of_testBit_eq
          intro j
          rw [← ro_tbT, ← ro_tbT, ro_tba, ro_tb1, ro_tb0]
          by_cases w : j = ro_e n a p
          · rw [w, z, Bool.and_false]
          · rw [decide_eq_false w, Bool.false_and]
        · have z' : ro_tb m (ro_e n a p) = true := by
            cases w : ro_tb m (ro_e n a p) with
            | true => rfl
            | false => exact absurd w z
          have w : ro_tb (ro_gx n a (p + 1)) (ro_e n a p) = true := by
            rw [ro_gxs1 h, ro_tbo, ro_tb1, decide_eq_true rfl, Bool.or_true]
          have w2 := ro_gxm w d
          rw [show p + 1 + d = ro_pr n o by omega, (ro_f8 h2 h5 ha ho).1] at w2
          have w3 : ro_tb (ro_G n o a &&& m) (ro_e n a p) = true := by rw [ro_tba, w2, z']; rfl
          rw [y, ro_tb0] at w3
          exact absurd w3 Bool.false_ne_true
  unfold wpX_stepsToMarked__marks
  refine ro_xcp h2 h5 ho _ fC el ic er ra rb rm sm ma mb ?_
  exact ⟨ro_pr n o + 1, g (ro_pr n o) 0 (by omega) (Nat.zero_and m)⟩
theorem ro_xmb_marks {n : Nat} (h2 : 2 ≤ n) (h5 : n ≤ 5) {k : Nat} (hk : k < ro_fc n) {o : Nat} (ho : o < 2) (post : SX → Prop) (fC : Int32) (el ic er ra rb rm sm ma mb : Nat → Int32) (hT : ro_TX n ic er) (hC : fC = nI (ro_fc n))
    (H : ∀ t, ro_mk n t (ro_D n o k) → post (nI n, fC, el, ic, er, ra, rb, rm, sm, t, mb)) : wpX_markBelow__marks post (nI n, fC, el, ic, er, ra, rb, rm, sm, ma, mb) (nI k) (nI o) := by
  subst hC
  have hc := ro_c120 n
  have g : ∀ r ma m, r ≤ k → ro_mk n ma m → (∀ j, j < r → ro_tb m j = false) → ro_md n o r m = ro_D n o k → wX_markBelow__marks_38 post (nI o) (nI n) (nI (ro_fc n)) (r + 1) (nI r + (-1)) el ic er ra rb rm sm ma mb := by
    intro r
    induction r with
    | zero =>
      intro ma m hr e1 e0 e2
      have e2' : m = ro_D n o k := e2
      rw [e2'] at e1
      exact br_t (show nI 0 + (-1) < 0 by decide) (H ma e1)
    | succ r ih =>
      intro ma m hr e1 e0 e2
      have e2' : ro_md n o r (cond (Nat.beq (ro_G n o r &&& m) 0) m (m ||| 1 <<< r)) = ro_D n o k := e2
      rw [pk_m1]
      have inr : vp_in (nI r) 120 := vp_in_nI (by omega) (by decide)
      refine br_f (nI_pos (by omega)) ?_
      refine ro_xsm_marks h2 h5 (by omega) ho m _ _ el ic er ra rb rm sm ma mb hT e1 (fun z => ⟨inr, nm_e (nm_e (ih _ m (by omega) ?_ (fun j hj => e0 j (by omega)) ?_))⟩) (fun z => ⟨inr, nm_e (nm_e (ih _ (m ||| 1 <<< r) (by omega) ?_ ?_ ?_))⟩)
      · rw [nI_clamp (by omega)]; exact ro_mk0 e1 (e0 r (by omega))
      · rw [ro_be z] at e2'; exact e2'
      · rw [nI_clamp (by omega)]; exact ro_mk1 e1
      · intro j hj
        rw [ro_tbo, e0 j (by omega), ro_tb1, decide_eq_false (by omega)]; rfl
      · rw [ro_nbeq z] at e2'; exact e2'
  have f : ∀ q r ma, r + q = ro_fc n → (∀ j, j < r → ma j = ro_bt (1 <<< k) j) → wX_markBelow__marks_3 post (nI k) (nI o) (nI n) (nI (ro_fc n)) (q + 1) (nI r) el ic er ra rb rm sm ma mb := by
    intro q
    induction q with
    | zero =>
      intro r ma hr e
      have hrc : r = ro_fc n := by omega
      rw [hrc] at e
      refine br_t (nI_le (by omega) (by omega)) (nm_r (show nI k - 1 = nI k + (-1) from ?_) ⟨k + 1, g k ma (1 <<< k) (Nat.le_refl k) e (fun j hj => by rw [ro_tb1]; exact decide_eq_false (by omega)) (ro_f21 h2 h5 ho hk).2⟩)
      rw [Int32.sub_eq_add_neg]
    | succ q ih =>
      intro r ma hr e
      have inr : vp_in (nI r) 120 := vp_in_nI (by omega) (by decide)
      refine br_f (nI_ge (by omega) (by omega)) ?_
      refine pk_eq r k (fun h => ⟨inr, nm_e (nm_r (nI_1 r) (ih (r + 1) _ (by omega) ?_))⟩) (fun h => ⟨inr, nm_e (nm_r (nI_1 r) (ih (r + 1) _ (by omega) ?_))⟩)
      · intro j hj
        rw [nI_clamp (by omega), ro_narB 1 (Or.inr rfl)]
        refine ro_u (fun p => (ro_bt1 ?_).symm) (fun p => e j (by omega))
        rw [ro_tb1, p, h]; exact decide_eq_true rfl
      · intro j hj
        rw [nI_clamp (by omega), ro_narB 0 (Or.inl rfl)]
        refine ro_u (fun p => (ro_bt0 ?_).symm) (fun p => e j (by omega))
        rw [ro_tb1, p]; exact decide_eq_false h
  exact ⟨ro_fc n + 1, f (ro_fc n) 0 ma (by omega) (fun j hj => by omega)⟩
theorem ro_xsf_otherMarks {n : Nat} (h2 : 2 ≤ n) (h5 : n ≤ 5) {a : Nat} (ha : a < ro_fc n) {o : Nat} (ho : o < 2) (m : Nat) (post : SX → Prop) (fC : Int32) (el ic er ra rb rm sm ma mb : Nat → Int32) (hT : ro_TX n ic er) (hm : ro_mk n mb m)
    (H : ∀ t, ro_mk n t (m ||| ro_G n o a) → post (nI n, fC, el, ic, er, ra, rb, rm, sm, ma, t)) : wpX_markStepsFrom__otherMarks post (nI n, fC, el, ic, er, ra, rb, rm, sm, ma, mb) (nI a) (nI o) := by
  have hc := ro_c120 n
  have hp := ro_prb (o := o) h2 h5
  have g : ∀ d p mb, p + d = ro_pr n o → ro_mk n mb (m ||| ro_gx n a p) → wX_markStepsFrom__otherMarks_10 post (nI a) (nI (ro_pr n o)) (nI n) fC (d + 1) (nI p) el ic er ra rb rm sm ma mb := by
    intro d
    induction d with
    | zero =>
      intro p mb hp' e
      have : p = ro_pr n o := by omega
      rw [this, (ro_f8 h2 h5 ha ho).1] at e
      exact br_t (nI_le (by omega) (by omega)) (H mb e)
    | succ d ih =>
      intro p mb hp' e
      have hpn : p < ro_np n := by omega
      have hE := ro_fe h2 h5 ha hpn
      refine br_f (nI_ge (by omega) (by omega)) ?_
      rw [ro_m10]
      refine ⟨vp_in_nI (by omega) (by decide), nm_r (show er (nI (a * 10 + p)).toNatClampNeg = nI (ro_e n a p) from by rw [nI_clamp (by omega)]; exact hT.2 a ha p hpn) ?_⟩
      refine ro_xst h2 h5 ha hE _ fC el ic er ra rb rm sm ma mb hT (fun h => br_t rfl (nm_r (nI_1 p) (ih (p + 1) mb (by omega) ?_))) (fun h => br_f (by decide) ⟨vp_in_nI (by omega) (by decide), nm_e (nm_r (nI_1 p) (ih (p + 1) _ (by omega) ?_))⟩)
      · rw [ro_gxs0 h]; exact e
      · rw [ro_gxs1 h, nI_clamp (by omega), ← Nat.or_assoc]; exact ro_mk1 e
  unfold wpX_markStepsFrom__otherMarks
  refine ro_xcp h2 h5 ho _ fC el ic er ra rb rm sm ma mb ?_
  exact ⟨ro_pr n o + 1, g (ro_pr n o) 0 mb (by omega) (by rw [show ro_gx n a 0 = 0 from rfl, ro_or0]; exact hm)⟩
theorem ro_xma_otherMarks {n : Nat} (h2 : 2 ≤ n) (h5 : n ≤ 5) {k : Nat} (hk : k < ro_fc n) {o : Nat} (ho : o < 2) (post : SX → Prop) (fC : Int32) (el ic er ra rb rm sm ma mb : Nat → Int32) (hT : ro_TX n ic er) (hC : fC = nI (ro_fc n))
    (H : ∀ t, ro_mk n t (ro_U n o k) → post (nI n, fC, el, ic, er, ra, rb, rm, sm, ma, t)) : wpX_markAbove__otherMarks post (nI n, fC, el, ic, er, ra, rb, rm, sm, ma, mb) (nI k) (nI o) := by
  subst hC
  have hc := ro_c120 n
  have g : ∀ q r mb m, r + q = ro_fc n → ro_mk n mb m → ro_ma n o q m = ro_U n o k → wX_markAbove__otherMarks_36 post (nI o) (q + 1) (nI r) (nI n) (nI (ro_fc n)) el ic er ra rb rm sm ma mb := by
    intro q
    induction q with
    | zero =>
      intro r mb m hr e1 e2
      have e2' : m = ro_U n o k := e2
      rw [e2'] at e1
      exact br_t (nI_le (by omega) (by omega)) (H mb e1)
    | succ q ih =>
      intro r mb m hr e1 e2
      have hrq : ro_fc n - (q + 1) = r := by omega
      have e2' : ro_ma n o q (cond (ro_tb m (ro_fc n - (q + 1))) (m ||| ro_G n o (ro_fc n - (q + 1))) m) = ro_U n o k := e2
      rw [hrq] at e2'
      refine br_f (nI_ge (by omega) (by omega)) ⟨vp_in_nI (by omega) (by decide), ?_⟩
      rw [nI_clamp (by omega), e1 r (by omega), ro_btz]
      refine br_c (fun z => nm_r (nI_1 r) (ih (r + 1) mb m (by omega) e1 ?_)) (fun z => ?_)
      · rw [z] at e2'; exact e2'
      · have z' : ro_tb m r = true := by
          cases w : ro_tb m r with
          | true => rfl
          | false => exact absurd w z
        refine ro_xsf_otherMarks h2 h5 (by omega) ho m _ _ el ic er ra rb rm sm ma mb hT e1 (fun t ht => nm_r (nI_1 r) (ih (r + 1) t (m ||| ro_G n o r) (by omega) ht ?_))
        rw [z'] at e2'; exact e2'
  have f : ∀ q r mb, r + q = ro_fc n → (∀ j, j < r → mb j = ro_bt (1 <<< k) j) → wX_markAbove__otherMarks_3 post (nI k) (nI o) (nI n) (nI (ro_fc n)) (q + 1) (nI r) el ic er ra rb rm sm ma mb := by
    intro q
    induction q with
    | zero =>
      intro r mb hr e
      have hrc : r = ro_fc n := by omega
      rw [hrc] at e
      exact br_t (nI_le (by omega) (by omega)) ⟨ro_fc n - k + 1, g (ro_fc n - k) k mb (1 <<< k) (by omega) e (ro_f21 h2 h5 ho hk).1⟩
    | succ q ih =>
      intro r mb hr e
      have inr : vp_in (nI r) 120 := vp_in_nI (by omega) (by decide)
      refine br_f (nI_ge (by omega) (by omega)) ?_
      refine pk_eq r k (fun h => ⟨inr, nm_e (nm_r (nI_1 r) (ih (r + 1) _ (by omega) ?_))⟩) (fun h => ⟨inr, nm_e (nm_r (nI_1 r) (ih (r + 1) _ (by omega) ?_))⟩)
      · intro j hj
        rw [nI_clamp (by omega), ro_narB 1 (Or.inr rfl)]
        refine ro_u (fun p => (ro_bt1 ?_).symm) (fun p => e j (by omega))
        rw [ro_tb1, p, h]; exact decide_eq_true rfl
      · intro j hj
        rw [nI_clamp (by omega), ro_narB 0 (Or.inl rfl)]
        refine ro_u (fun p => (ro_bt0 ?_).symm) (fun p => e j (by omega))
        rw [ro_tb1, p]; exact decide_eq_false h
  exact ⟨ro_fc n + 1, f (ro_fc n) 0 mb (by omega) (fun j hj => by omega)⟩
theorem ro_xsm_otherMarks {n : Nat} (h2 : 2 ≤ n) (h5 : n ≤ 5) {a : Nat} (ha : a < ro_fc n) {o : Nat} (ho : o < 2) (m : Nat) (post : Int32 → Prop) (fC : Int32) (el ic er ra rb rm sm ma mb : Nat → Int32) (hT : ro_TX n ic er) (hm : ro_mk n mb m)
    (H0 : ro_G n o a &&& m = 0 → post 0) (H1 : ro_G n o a &&& m ≠ 0 → post 1) : wpX_stepsToMarked__otherMarks post (nI n, fC, el, ic, er, ra, rb, rm, sm, ma, mb) (nI a) (nI o) := by
  have hc := ro_c120 n
  have hp := ro_prb (o := o) h2 h5
  have g : ∀ d p, p + d = ro_pr n o → ro_gx n a p &&& m = 0 → wX_stepsToMarked__otherMarks_10 post (nI a) (nI (ro_pr n o)) (nI n) fC el ic er ra rb rm sm ma mb (d + 1) (nI p) := by
    intro d
    induction d with
    | zero =>
      intro p hp' e
      have : p = ro_pr n o := by omega
      rw [this, (ro_f8 h2 h5 ha ho).1] at e
      exact br_t (nI_le (by omega) (by omega)) (H0 e)
    | succ d ih =>
      intro p hp' e
      have hpn : p < ro_np n := by omega
      have hE := ro_fe h2 h5 ha hpn
      refine br_f (nI_ge (by omega) (by omega)) ?_
      rw [ro_m10]
      refine ⟨vp_in_nI (by omega) (by decide), nm_r (show er (nI (a * 10 + p)).toNatClampNeg = nI (ro_e n a p) from by rw [nI_clamp (by omega)]; exact hT.2 a ha p hpn) ?_⟩
      refine ro_xst h2 h5 ha hE _ fC el ic er ra rb rm sm ma mb hT (fun h => br_t rfl (nm_r (nI_1 p) (ih (p + 1) (by omega) ?_))) (fun h => br_f (by decide) ⟨vp_in_nI (by omega) (by decide), ?_⟩)
      · rw [ro_gxs0 h]; exact e
      · rw [nI_clamp (by omega), hm _ hE, ro_btz]
        refine br_c (fun z => nm_r (nI_1 p) (ih (p + 1) (by omega) ?_)) (fun z => H1 (fun y => ?_))
        · rw [ro_gxs1 h, Nat.and_or_distrib_right, e, Nat.zero_or]
          apply Nat.eq_of_testBit_eq
          intro j
          rw [← ro_tbT, ← ro_tbT, ro_tba, ro_tb1, ro_tb0]
          by_cases w : j = ro_e n a p
          · rw [w, z, Bool.and_false]
          · rw [decide_eq_false w, Bool.false_and]
        · have z' : ro_tb m (ro_e n a p) = true := by
            cases w : ro_tb m (ro_e n a p) with
            | true => rfl
            | false => exact absurd w z
          have w : ro_tb (ro_gx n a (p + 1)) (ro_e n a p) = true := by
            rw [ro_gxs1 h, ro_tbo, ro_tb1, decide_eq_true rfl, Bool.or_true]
          have w2 := ro_gxm w d
          rw [show p + 1 + d = ro_pr n o by omega, (ro_f8 h2 h5 ha ho).1] at w2
          have w3 : ro_tb (ro_G n o a &&& m) (ro_e n a p) = true := by rw [ro_tba, w2, z']; rfl
          rw [y, ro_tb0] at w3
          exact absurd w3 Bool.false_ne_true
  unfold wpX_stepsToMarked__otherMarks
  refine ro_xcp h2 h5 ho _ fC el ic er ra rb rm sm ma mb ?_
  exact ⟨ro_pr n o + 1, g (ro_pr n o) 0 (by omega) (Nat.zero_and m)⟩
theorem ro_xmb_otherMarks {n : Nat} (h2 : 2 ≤ n) (h5 : n ≤ 5) {k : Nat} (hk : k < ro_fc n) {o : Nat} (ho : o < 2) (post : SX → Prop) (fC : Int32) (el ic er ra rb rm sm ma mb : Nat → Int32) (hT : ro_TX n ic er) (hC : fC = nI (ro_fc n))
    (H : ∀ t, ro_mk n t (ro_D n o k) → post (nI n, fC, el, ic, er, ra, rb, rm, sm, ma, t)) : wpX_markBelow__otherMarks post (nI n, fC, el, ic, er, ra, rb, rm, sm, ma, mb) (nI k) (nI o) := by
  subst hC
  have hc := ro_c120 n
  have g : ∀ r mb m, r ≤ k → ro_mk n mb m → (∀ j, j < r → ro_tb m j = false) → ro_md n o r m = ro_D n o k → wX_markBelow__otherMarks_38 post (nI o) (nI n) (nI (ro_fc n)) (r + 1) (nI r + (-1)) el ic er ra rb rm sm ma mb := by
    intro r
    induction r with
    | zero =>
      intro mb m hr e1 e0 e2
      have e2' : m = ro_D n o k := e2
      rw [e2'] at e1
      exact br_t (show nI 0 + (-1) < 0 by decide) (H mb e1)
    | succ r ih =>
      intro mb m hr e1 e0 e2
      have e2' : ro_md n o r (cond (Nat.beq (ro_G n o r &&& m) 0) m (m ||| 1 <<< r)) = ro_D n o k := e2
      rw [pk_m1]
      have inr : vp_in (nI r) 120 := vp_in_nI (by omega) (by decide)
      refine br_f (nI_pos (by omega)) ?_
      refine ro_xsm_otherMarks h2 h5 (by omega) ho m _ _ el ic er ra rb rm sm ma mb hT e1 (fun z => ⟨inr, nm_e (nm_e (ih _ m (by omega) ?_ (fun j hj => e0 j (by omega)) ?_))⟩) (fun z => ⟨inr, nm_e (nm_e (ih _ (m ||| 1 <<< r) (by omega) ?_ ?_ ?_))⟩)
      · rw [nI_clamp (by omega)]; exact ro_mk0 e1 (e0 r (by omega))
      · rw [ro_be z] at e2'; exact e2'
      · rw [nI_clamp (by omega)]; exact ro_mk1 e1
      · intro j hj
        rw [ro_tbo, e0 j (by omega), ro_tb1, decide_eq_false (by omega)]; rfl
      · rw [ro_nbeq z] at e2'; exact e2'
  have f : ∀ q r mb, r + q = ro_fc n → (∀ j, j < r → mb j = ro_bt (1 <<< k) j) → wX_markBelow__otherMarks_3 post (nI k) (nI o) (nI n) (nI (ro_fc n)) (q + 1) (nI r) el ic er ra rb rm sm ma mb := by
    intro q
    induction q with
    | zero =>
      intro r mb hr e
      have hrc : r = ro_fc n := by omega
      rw [hrc] at e
      refine br_t (nI_le (by omega) (by omega)) (nm_r (show nI k - 1 = nI k + (-1) from ?_) ⟨k + 1, g k mb (1 <<< k) (Nat.le_refl k) e (fun j hj => by rw [ro_tb1]; exact decide_eq_false (by omega)) (ro_f21 h2 h5 ho hk).2⟩)
      rw [Int32.sub_eq_add_neg]
    | succ q ih =>
      intro r mb hr e
      have inr : vp_in (nI r) 120 := vp_in_nI (by omega) (by decide)
      refine br_f (nI_ge (by omega) (by omega)) ?_
      refine pk_eq r k (fun h => ⟨inr, nm_e (nm_r (nI_1 r) (ih (r + 1) _ (by omega) ?_))⟩) (fun h => ⟨inr, nm_e (nm_r (nI_1 r) (ih (r + 1) _ (by omega) ?_))⟩)
      · intro j hj
        rw [nI_clamp (by omega), ro_narB 1 (Or.inr rfl)]
        refine ro_u (fun p => (ro_bt1 ?_).symm) (fun p => e j (by omega))
        rw [ro_tb1, p, h]; exact decide_eq_true rfl
      · intro j hj
        rw [nI_clamp (by omega), ro_narB 0 (Or.inl rfl)]
        refine ro_u (fun p => (ro_bt0 ?_).symm) (fun p => e j (by omega))
        rw [ro_tb1, p]; exact decide_eq_false h
  exact ⟨ro_fc n + 1, f (ro_fc n) 0 mb (by omega) (fun j hj => by omega)⟩
