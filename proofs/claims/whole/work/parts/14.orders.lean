/-! below, interval, steps -/
theorem ro_ntb {m j : Nat} (h : ¬ ro_tb m j = true) : ro_tb m j = false := by
  cases w : ro_tb m j with
  | true => exact absurd w h
  | false => rfl
theorem ro_ntf {m j : Nat} (h : ¬ ro_tb m j = false) : ro_tb m j = true := by
  cases w : ro_tb m j with
  | true => rfl
  | false => exact absurd w h
theorem i_vc_below {k : Nat} {u : SX} {v : SY} (I : i_Rel k u v) (hk : k + 4 ≤ 2049) (v1 : Int32) : wpX_below (fun r u' => wpY_below (fun r' => r' = r ∧ i_Rel (k + 4) u' v) v v1) u v1 := by
  obtain ⟨n, pq, el, ic, er, ra, rb, rm, sm, ma, mb, cs, hs, un, ey, ry, oy, fy, h2, h5, hE, hX, hY, rfl, rfl⟩ := I
  have hc := ro_c120 n
  obtain ⟨p1, p2, p3⟩ := hE 0 (by decide)
  obtain ⟨q1, q2, q3⟩ := hE 1 (by decide)
  unfold wpX_below
  rcases ro_ar v1 (n := 2) (by decide) with h | ⟨o, ho, rfl⟩
  · refine ro_x01b h _ _ el ic er ra rb rm sm ma mb (br_t rfl ?_)
    unfold wpY_below
    exact ro_y01b h _ _ cs hs un ey ry oy fy (br_f (by decide) ⟨rfl, ro_rel h2 h5 hE hX hY _ _ _ _ _ _ _ _ _⟩)
  · refine ro_x01 ho _ _ el ic er ra rb rm sm ma mb (br_f (by decide) ?_)
    rw [p2]
    refine ro_xma_marks h2 h5 p1 ho _ _ el ic er ra rb rm sm ma mb hX rfl (fun t ht => ?_)
    dsimp only
    rw [q2]
    refine ⟨vp_in_nI (by omega) (by decide), ?_⟩
    rw [nI_clamp (by omega), ht _ q1]
    refine br_c (fun w => ?_) (fun w => ?_)
    · unfold wpY_below
      refine ro_y01 ho _ _ cs hs un ey ry oy fy (br_t rfl ?_)
      rw [p3, q3]
      exact ro_yib ho p1 q1 _ _ cs hs un ey ry oy fy hY (br_t w ⟨rfl, ro_rel h2 h5 hE hX hY _ _ _ _ _ _ _ _ _⟩)
    · unfold wpY_below
      refine ro_y01 ho _ _ cs hs un ey ry oy fy (br_t rfl ?_)
      rw [p3, q3]
      exact ro_yib ho p1 q1 _ _ cs hs un ey ry oy fy hY (br_f w ⟨rfl, ro_rel h2 h5 hE hX hY _ _ _ _ _ _ _ _ _⟩)
noncomputable def ro_iz (a b i : Nat) : Nat := Nat.rec 0 (fun i ih => cond (ro_tb a i) (cond (ro_tb b i) (ih + 1) ih) ih) i
theorem ro_izS (a b i : Nat) : ro_iz a b (i + 1) = cond (ro_tb a i) (cond (ro_tb b i) (ro_iz a b i + 1) (ro_iz a b i)) (ro_iz a b i) := rfl
theorem ro_ybw {n : Nat} (h2 : 2 ≤ n) (h5 : n ≤ 5) {o p q r : Nat} (ho : o < 2) (hp : p < ro_fc n) (hq : q < ro_fc n) (hr : r < ro_fc n) (post : Int32 → Prop) (gM : Int32) (cs hs un ey ry oy fy : Nat → Int32) (hY : ro_TY n cs hs un) (e0 : ey 0 = nI p) (e1 : ey 1 = nI q) (H0 : ro_tb (ro_U n o p) r = false → post 0) (H1 : ro_tb (ro_U n o p) r = true → ro_tb (ro_D n o q) r = false → post 0) (H2 : ro_tb (ro_U n o p) r = true → ro_tb (ro_D n o q) r = true → post 1) : wpY_between post (nI n, gM, cs, hs, un, ey, ry, oy, fy) (nI o) (nI r) := by
  unfold wpY_between
  dsimp only
  rw [e0, e1]
  refine ro_yib ho hp hr _ _ cs hs un ey ry oy fy hY ?_
  rw [ro_btz]
  refine br_c H0 (fun w => ?_)
  refine ro_yib ho hr hq _ _ cs hs un ey ry oy fy hY ?_
  rw [ro_btz, ← ro_f23 h2 h5 ho hq hr]
  exact br_c (H1 (ro_ntf w)) (fun z => H2 (ro_ntf w) (ro_ntf z))
theorem i_vc_interval {k : Nat} {u : SX} {v : SY} (I : i_Rel k u v) (hk : k + 4 ≤ 2049) (v1 : Int32) : wpX_interval (fun r u' => wpY_interval (fun r' => r' = r ∧ i_Rel (k + 4) u' v) v v1) u v1 := by
  obtain ⟨n, pq, el, ic, er, ra, rb, rm, sm, ma, mb, cs, hs, un, ey, ry, oy, fy, h2, h5, hE, hX, hY, rfl, rfl⟩ := I
  have hc := ro_c120 n
  obtain ⟨p1, p2, p3⟩ := hE 0 (by decide)
  obtain ⟨q1, q2, q3⟩ := hE 1 (by decide)
  unfold wpX_interval
  rcases ro_ar v1 (n := 2) (by decide) with h | ⟨o, ho, rfl⟩
  · refine ro_x01b h _ _ el ic er ra rb rm sm ma mb (br_t rfl ?_)
    unfold wpY_interval
    exact ro_y01b h _ _ cs hs un ey ry oy fy (br_f (by decide) ⟨rfl, ro_rel h2 h5 hE hX hY _ _ _ _ _ _ _ _ _⟩)
  · refine ro_x01 ho _ _ el ic er ra rb rm sm ma mb (br_f (by decide) ?_)
    rw [p2]
    refine ro_xma_marks h2 h5 p1 ho _ _ el ic er ra rb rm sm ma mb hX rfl (fun t ht => ?_)
    dsimp only
    rw [q2]
    refine ro_xmb_otherMarks h2 h5 q1 ho _ _ el ic er ra rb rm sm t mb hX rfl (fun s hS => ?_)
    have g : ∀ (post : Int32 → SX → Prop), post (nI (ro_iz (ro_U n o (pq 0)) (ro_D n o (pq 1)) (ro_fc n))) (nI n, (nI (ro_fc n)), el, ic, er, ra, rb, rm, sm, t, s) → ∀ d i, i + d = ro_fc n → wX_interval_46 post (nI n) (nI (ro_fc n)) el ic er ra rb rm sm t s (d + 1) (nI (ro_iz (ro_U n o (pq 0)) (ro_D n o (pq 1)) i)) (nI i) := by
      intro post H d
      induction d with
      | zero =>
        intro i hi
        have : i = ro_fc n := by omega
        rw [this]
        exact br_t (nI_le (by omega) (by omega)) H
      | succ d ih =>
        intro i hi
        have eS := ro_izS (ro_U n o (pq 0)) (ro_D n o (pq 1)) i
        have ii : vp_in (nI i) 120 := vp_in_nI (by omega) (by decide)
        have w := ih (i + 1) (by omega)
        refine br_f (nI_ge (by omega) (by omega)) ⟨ii, ?_⟩
        rw [nI_clamp (by omega), ht i (by omega), hS i (by omega), ro_btz, ro_btz]
        refine br_c (fun z => nm_r (nI_1 i) ?_) (fun z => ⟨ii, br_c (fun z' => nm_r (nI_1 i) ?_) (fun z' => nm_r (nI_1 _) (nm_r (nI_1 i) ?_))⟩)
        · rw [eS, z] at w; exact w
        · rw [eS, ro_ntf z, z'] at w; exact w
        · rw [eS, ro_ntf z, ro_ntf z'] at w; exact w
    refine ⟨ro_fc n + 1, g _ ?_ (ro_fc n) 0 (by omega)⟩
    have g' : ∀ (post : Int32 → Prop), post (nI (ro_iz (ro_U n o (pq 0)) (ro_D n o (pq 1)) (ro_fc n))) → ∀ d i, i + d = ro_fc n → wY_interval_16 post (nI o) (nI n) (nI (ro_fc n)) cs hs un ey ry oy fy (d + 1) (nI (ro_iz (ro_U n o (pq 0)) (ro_D n o (pq 1)) i)) (nI i) := by
      intro post H d
      induction d with
      | zero =>
        intro i hi
        have : i = ro_fc n := by omega
        rw [this]
        exact br_t (nI_le (by omega) (by omega)) H
      | succ d ih =>
        intro i hi
        have eS := ro_izS (ro_U n o (pq 0)) (ro_D n o (pq 1)) i
        have w := ih (i + 1) (by omega)
        refine br_f (nI_ge (by omega) (by omega)) ?_
        refine ro_ybw h2 h5 ho p1 q1 (by omega) _ _ cs hs un ey ry oy fy hY p3 q3 (fun z => br_t rfl (nm_r (nI_1 i) ?_)) (fun z z' => br_t rfl (nm_r (nI_1 i) ?_)) (fun z z' => br_f (by decide) (nm_r (nI_1 _) (nm_r (nI_1 i) ?_)))
        · rw [eS, z] at w; exact w
        · rw [eS, z, z'] at w; exact w
        · rw [eS, z, z'] at w; exact w
    unfold wpY_interval
    refine ro_y01 ho _ _ cs hs un ey ry oy fy (br_t rfl ⟨ro_fc n + 1, g' _ ?_ (ro_fc n) 0 (by omega)⟩)
    exact ⟨rfl, ro_rel h2 h5 hE hX hY _ _ _ _ _ _ _ _ _⟩
theorem ro_txS (n k p : Nat) : ro_tx n k (p + 1) = cond (Nat.beq (ro_H n (ro_e n k p)) (ro_H n k + 1)) (ro_tx n k p + 1) (ro_tx n k p) := rfl
theorem ro_tyS (n o k x : Nat) : ro_ty n o k (x + 1) = cond (ro_nr o (x / n) (x % n)) (cond (Nat.beq (ro_H n (ro_f n k x)) (ro_H n k + 1)) (ro_ty n o k x + 1) (ro_ty n o k x)) (ro_ty n o k x) := rfl
theorem i_vc_steps {k : Nat} {u : SX} {v : SY} (I : i_Rel k u v) (hk : k + 4 ≤ 2049) (v1 : Int32) (v2 : Int32) : wpX_steps (fun r => wpY_steps (fun r' v' => r' = r ∧ i_Rel (k + 4) u v') v v1 v2) u v1 v2 := by
  obtain ⟨n, pq, el, ic, er, ra, rb, rm, sm, ma, mb, cs, hs, un, ey, ry, oy, fy, h2, h5, hE, hX, hY, rfl, rfl⟩ := I
  have hc := ro_c120 n
  unfold wpX_steps
  rcases ro_ar v1 (n := 2) (by decide) with h | ⟨e, he, rfl⟩
  · refine ro_x01b h _ _ el ic er ra rb rm sm ma mb (br_t rfl ?_)
    unfold wpY_steps
    exact ro_y01b h _ _ cs hs un ey ry oy fy (br_f (by decide) ⟨rfl, ro_rel h2 h5 hE hX hY _ _ _ _ _ _ _ _ _⟩)
  · refine ro_x01 he _ _ el ic er ra rb rm sm ma mb (br_f (by decide) ?_)
    rcases ro_ar v2 (n := 2) (by decide) with h | ⟨o, ho, rfl⟩
    · refine ro_x01b h _ _ el ic er ra rb rm sm ma mb (br_t rfl ?_)
      unfold wpY_steps
      refine ro_y01 he _ _ cs hs un ey ry oy fy (br_t rfl ?_)
      exact ro_y01b h _ _ cs hs un ey ry oy fy (br_f (by decide) ⟨rfl, ro_rel h2 h5 hE hX hY _ _ _ _ _ _ _ _ _⟩)
    · obtain ⟨p1, p2, p3⟩ := hE e he
      have hp := ro_prb (o := o) h2 h5
      refine ro_x01 ho _ _ el ic er ra rb rm sm ma mb (br_f (by decide) ⟨vp_in_nI he (by decide), ?_⟩)
      refine nm_r (show el (nI e).toNatClampNeg = nI (pq e) from by rw [nI_clamp (by omega)]; exact p2) ?_
      refine ro_xcp h2 h5 ho _ _ el ic er ra rb rm sm ma mb ⟨ro_pr n o + 1, ?_⟩
      generalize pq e = a at p1 p2 p3
      have g : ∀ (post : Int32 → Prop), post (nI (ro_tx n a (ro_pr n o))) → ∀ d p, p + d = ro_pr n o → wX_steps_40 post (nI a) (nI (ro_pr n o)) (nI n) (nI (ro_fc n)) el ic er ra rb rm sm ma mb (d + 1) (nI (ro_tx n a p)) (nI p) := by
        intro post H d
        induction d with
        | zero =>
          intro p hp'
          have : p = ro_pr n o := by omega
          rw [this]
          exact br_t (nI_le (by omega) (by omega)) H
        | succ d ih =>
          intro p hp'
          have hpn : p < ro_np n := by omega
          have hEb := ro_fe h2 h5 p1 hpn
          have w := ih (p + 1) (by omega)
          have eS := ro_txS n a p
          refine br_f (nI_ge (by omega) (by omega)) ?_
          rw [ro_m10]
          refine ⟨vp_in_nI (by omega) (by decide), nm_r (show er (nI (a * 10 + p)).toNatClampNeg = nI (ro_e n a p) from by rw [nI_clamp (by omega)]; exact hX.2 a p1 p hpn) ?_⟩
          refine ro_xss h2 h5 p1 hEb _ _ el ic er ra rb rm sm ma mb hX (fun z => br_f (by decide) (nm_r (nI_1 _) (nm_r (nI_1 p) ?_))) (fun z => br_t rfl (nm_r (nI_1 p) ?_))
          · rw [eS, ro_be z] at w; exact w
          · rw [eS, ro_nbeq z] at w; exact w
      refine g _ ?_ (ro_pr n o) 0 (by omega)
      rw [ro_f12 h2 h5 p1 ho]
      have f : ∀ (post : Int32 → SY → Prop) (J : Int32 → Int32 → Int32 → Int32 → (Nat → Int32) → (Nat → Int32) → (Nat → Int32) → (Nat → Int32) → (Nat → Int32) → (Nat → Int32) → (Nat → Int32) → Prop) i, i < n → (∀ t, J (nI (ro_ty n o a ((i + 1) * n))) (nI (i + 1)) (nI n) (nI (ro_fc n)) cs hs un ey t oy fy) → ∀ d j ry, j + d = n → wY_steps_37 post J (nI e) (nI o) (nI i) (d + 1) (nI (ro_ty n o a (i * n + j))) (nI j) (nI n) (nI (ro_fc n)) cs hs un ey ry oy fy := by
        intro post J i hi HJ d
        induction d with
        | zero =>
          intro j ry hj
          have : i * n + j = (i + 1) * n := by rw [Nat.succ_mul]; omega
          rw [this]
          exact br_t (nI_le (by omega) (by omega)) (nm_r (nI_1 i) (HJ ry))
        | succ d ih =>
          intro j ry hj
          have ix := ro_ix (n := n) (i := i) (j := j) (by omega)
          have eS := ro_tyS n o a (i * n + j)
          have hf : ro_f n a (i * n + j) = ro_E n a i j := by unfold ro_f; rw [ix.1, ix.2]
          rw [ix.1, ix.2, hf] at eS
          have hEb := ro_fE h2 h5 p1 hi (j := j) (by omega)
          have b1 := (ro_f2 h2 h5 p1).2.2.2.1
          have b2 := (ro_f2 h2 h5 hEb).2.2.2.1
          have ee : ey (nI e).toNatClampNeg = nI a := by rw [nI_clamp (by omega)]; exact p3
          refine br_f (nI_ge (by omega) (by omega)) ?_
          refine ro_ynr ho (by omega) (by omega) _ _ cs hs un ey ry oy fy (fun z => br_f (by decide) ⟨vp_in_nI he (by decide), ?_⟩) (fun z => br_t rfl (nm_r (nI_1 j) ?_))
          · rw [ee]
            refine ro_yex h2 h5 p1 hi (by omega) _ _ cs hs un ey ry oy fy rfl hY.1 (fun t => ?_)
            dsimp only
            rw [ee]
            refine ⟨vp_in_nI (by omega) (by decide), vp_in_nI he (by decide), vp_in_nI (by omega) (by decide), ?_⟩
            have w := ih (j + 1) t (by omega)
            rw [← Nat.add_assoc, eS, z] at w
            refine pk_eq (ro_H n (ro_E n a i j)) (ro_H n a + 1) (fun y => nm_r (nI_1 _) (nm_r (nI_1 j) ?_)) (fun y => nm_r (nI_1 j) ?_) (by rw [nI_clamp (by omega)]; exact hY.2.1 _ hEb) (by rw [nI_clamp (by omega), hY.2.1 _ p1, nI_1])
            · rw [ro_be y] at w; exact w
            · rw [ro_nbeq y] at w; exact w
          · have w := ih (j + 1) ry (by omega)
            rw [← Nat.add_assoc, eS, z] at w
            exact w
      have f2 : ∀ (post : Int32 → SY → Prop), (∀ t, post (nI (ro_ty n o a (n * n))) (nI n, (nI (ro_fc n)), cs, hs, un, ey, t, oy, fy)) → ∀ d i ry, i + d = n → wY_steps_25 post (nI e) (nI o) (d + 1) (nI (ro_ty n o a (i * n))) (nI i) (nI n) (nI (ro_fc n)) cs hs un ey ry oy fy := by
        intro post H d
        induction d with
        | zero =>
          intro i ry hi
          have : i = n := by omega
          rw [this]
          exact br_t (nI_le (by omega) (by omega)) (H ry)
        | succ d ih =>
          intro i ry hi
          refine br_f (nI_ge (by omega) (by omega)) ⟨n + 1, ?_⟩
          exact f post _ i (by omega) (fun t => ih (i + 1) t (by omega)) n 0 ry (by omega)
      unfold wpY_steps
      refine ro_y01 he _ _ cs hs un ey ry oy fy (br_t rfl ?_)
      refine ro_y01 ho _ _ cs hs un ey ry oy fy (br_t rfl ⟨n + 1, ?_⟩)
      have w := f2 (fun r' v' => r' = nI (ro_ty n o a (n * n)) ∧ i_Rel (k + 4) (nI n, (nI (ro_fc n)), el, ic, er, ra, rb, rm, sm, ma, mb) v') (fun t => ⟨rfl, ro_rel h2 h5 hE hX hY _ _ _ _ _ _ _ _ _⟩) n 0 ry (by omega)
      rw [Nat.zero_mul] at w
      exact w
