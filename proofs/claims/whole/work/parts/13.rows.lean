/-! exchange, invert, reverse, multiply -/
theorem i_vc_exchange {k : Nat} {u : SX} {v : SY} (I : i_Rel k u v) (hk : k + 4 ≤ 2049) (v1 : Int32) (v2 : Int32) (v3 : Int32) : wpX_exchange (fun r u' => wpY_exchange (fun r' v' => r' = r ∧ i_Rel (k + 4) u' v') v v1 v2 v3) u v1 v2 v3 := by
  obtain ⟨n, pq, el, ic, er, ra, rb, rm, sm, ma, mb, cs, hs, un, ey, ry, oy, fy, h2, h5, hE, hX, hY, rfl, rfl⟩ := I
  have hc := ro_c120 n
  unfold wpX_exchange
  rcases ro_ar v1 (n := 2) (by decide) with h | ⟨e, he, rfl⟩
  · refine ro_x01b h _ _ el ic er ra rb rm sm ma mb (br_t rfl ?_)
    unfold wpY_exchange
    exact ro_y01b h _ _ cs hs un ey ry oy fy (br_f (by decide) ⟨rfl, ro_rel h2 h5 hE hX hY _ _ _ _ _ _ _ _ _⟩)
  · refine ro_x01 he _ _ el ic er ra rb rm sm ma mb (br_f (by decide) ?_)
    rcases ro_ar v2 (n := n) (by omega) with h | ⟨i, hi, rfl⟩
    · refine ro_xplb h _ _ el ic er ra rb rm sm ma mb (br_t rfl ?_)
      unfold wpY_exchange
      refine ro_y01 he _ _ cs hs un ey ry oy fy (br_t rfl ?_)
      exact ro_yplb h _ _ cs hs un ey ry oy fy (br_f (by decide) ⟨rfl, ro_rel h2 h5 hE hX hY _ _ _ _ _ _ _ _ _⟩)
    · refine ro_xpl h5 hi _ _ el ic er ra rb rm sm ma mb (br_f (by decide) ?_)
      rcases ro_ar v3 (n := n) (by omega) with h | ⟨j, hj, rfl⟩
      · refine ro_xplb h _ _ el ic er ra rb rm sm ma mb (br_t rfl ?_)
        unfold wpY_exchange
        refine ro_y01 he _ _ cs hs un ey ry oy fy (br_t rfl ?_)
        refine ro_ypl0 h5 hi _ _ cs hs un ey ry oy fy (br_t rfl ?_)
        exact ro_yplb h _ _ cs hs un ey ry oy fy (br_f (by decide) ⟨rfl, ro_rel h2 h5 hE hX hY _ _ _ _ _ _ _ _ _⟩)
      · obtain ⟨p1, p2, p3⟩ := hE e he
        have f := ro_f5 h2 h5 p1 hi hj
        have hEb := ro_fE h2 h5 p1 hi hj
        refine ro_xpl h5 hj _ _ el ic er ra rb rm sm ma mb (br_f (by decide) ⟨vp_in_nI he (by decide), ?_⟩)
        rw [show el (nI e).toNatClampNeg = nI (pq e) from by rw [nI_clamp (by omega)]; exact p2]
        refine ro_xload_made h2 h5 p1 _ _ el ic er ra rb rm sm ma mb (fun t ht => ?_)
        refine ro_xex h5 hi hj _ _ _ el ic er ra rb t sm ma mb ?_
        refine ro_xkeep h5 (r := ro_sw (ro_R n (pq e)) i j) (fun x hx => ?_) _ el ic er ra rb (upd (upd t i (t j)) j (t i)) sm ma mb (ro_swE ht hi hj) (by rw [f.1]; exact hEb) hX he _ ?_
        · have a1 := (ro_fR h2 h5 p1 hi).2.2
          have a2 := (ro_fR h2 h5 p1 hj).2.2
          have a3 := (ro_fR h2 h5 p1 hx).2.2
          unfold ro_sw
          cases Nat.beq x j
          · cases Nat.beq x i
            · exact (by omega : ro_R n (pq e) x < 100)
            · exact (by omega : ro_R n (pq e) j < 100)
          · exact (by omega : ro_R n (pq e) i < 100)
        rw [f.1]
        unfold wpY_exchange
        refine ro_y01 he _ _ cs hs un ey ry oy fy (br_t rfl ?_)
        refine ro_ypl0 h5 hi _ _ cs hs un ey ry oy fy (br_t rfl ?_)
        refine ro_ypl0 h5 hj _ _ cs hs un ey ry oy fy (br_t rfl ⟨vp_in_nI he (by decide), ?_⟩)
        rw [show ey (nI e).toNatClampNeg = nI (pq e) from by rw [nI_clamp (by omega)]; exact p3]
        refine ro_yex h2 h5 p1 hi hj _ _ cs hs un ey ry oy fy rfl hY.1 (fun s => ?_)
        refine ⟨vp_in_nI he (by decide), nm_e ⟨vp_in_nI he (by decide), ?_⟩⟩
        rw [nI_clamp (show e < 2 ^ 31 by omega), pk_us]
        refine ⟨vp_in_nI (by omega) (by decide), ?_, ro_rel h2 h5 (ro_EleU hE hEb e) hX hY _ _ _ _ _ _ _ _ _⟩
        rw [nI_clamp (by omega)]; exact hY.2.1 _ hEb
theorem ro_inv {n : Nat} (h2 : 2 ≤ n) (h5 : n ≤ 5) {k : Nat} (hk : k < ro_fc n) {t : Nat → Int32} (e : ∀ i, i < n → t (ro_R n k i - 1) = nI (i + 1)) : ∀ j, j < n → t j = nI (ro_R n (ro_V n k) j) := by
  intro j hj
  have hV := (ro_f2 h2 h5 hk).2.2.2.2.1
  have a := (ro_fR h2 h5 hV hj).2
  have b := ro_f3 h2 h5 hk hj
  have c := e (ro_R n (ro_V n k) j - 1) (by omega)
  rw [b, show j + 1 - 1 = j by omega, show ro_R n (ro_V n k) j - 1 + 1 = ro_R n (ro_V n k) j by omega] at c
  exact c
theorem ro_xinv {n : Nat} (h2 : 2 ≤ n) (h5 : n ≤ 5) {k : Nat} (hk : k < ro_fc n) (post : Int32 → SX → Prop) (fC : Int32) (el ic er ra rb rm sm ma mb : Nat → Int32) (x1 : Int32) (hr : ∀ j, j < n → ra j = nI (ro_R n k j))
    (H : ∀ t : Nat → Int32, (∀ j, j < n → t j = nI (ro_R n (ro_V n k) j)) → wpX_keepMade (fun r u => post r u) (nI n, fC, el, ic, er, ra, rb, t, sm, ma, mb) x1) : ∀ d i rm, i + d = n → (∀ i', i' < i → rm (ro_R n k i' - 1) = nI (i' + 1)) → wX_invert_28 post x1 (nI n) fC (d + 1) (nI i) el ic er ra rb rm sm ma mb := by
  intro d
  induction d with
  | zero =>
    intro i rm hi e
    have : i = n := by omega
    rw [this] at e
    exact br_t (nI_le (by omega) (by omega)) (H rm (ro_inv h2 h5 hk e))
  | succ d ih =>
    intro i rm hi e
    have a := (ro_fR h2 h5 hk (j := i) (by omega)).2
    have e1 : ra (nI i).toNatClampNeg - 1 = nI (ro_R n k i - 1) := by
      rw [nI_clamp (by omega), hr i (by omega)]; exact pk_sub (b := 1) a.1
    refine br_f (nI_ge (by omega) (by omega)) ⟨vp_in_nI (by omega) (by decide), ?_⟩
    rw [e1]
    refine ⟨vp_in_nI (by omega) (by decide), nm_e (nm_r (nI_1 i) (ih (i + 1) _ (by omega) (fun i' hi' => ?_)))⟩
    rw [nI_clamp (by omega), nI_1]
    refine ro_u (fun w => ?_) (fun w => e i' ?_)
    · have b := (ro_fR h2 h5 hk (j := i') (by omega)).2
      rw [ro_f4 h2 h5 hk (i := i') (j := i) (by omega) (by omega) (by omega)]
    · by_cases q : i' = i
      · rw [q] at w; exact absurd rfl w
      · omega
theorem ro_ycp_invert {n : Nat} (h5 : n ≤ 5) (post : Int32 → SY → Prop) (gM : Int32) (cs hs un ey ry oy fy : Nat → Int32) (x1 : Int32) (H : ∀ t : Nat → Int32, (∀ j, j < n → t j = ry j) → ∃ m, wY_invert_57 post x1 (nI n) gM m 0 cs hs un ey ry t fy) : ∃ m, wY_invert_29 post x1 (nI n) gM m 0 cs hs un ey ry oy fy := by
  have g : ∀ d i oy, i + d = n → (∀ j, j < i → oy j = ry j) → wY_invert_29 post x1 (nI n) gM (d + 1) (nI i) cs hs un ey ry oy fy := by
    intro d
    induction d with
    | zero =>
      intro i oy hi e
      have : i = n := by omega
      rw [this] at e
      exact br_t (nI_le (by omega) (by omega)) (H oy e)
    | succ d ih =>
      intro i oy hi e
      have ii : vp_in (nI i) 5 := vp_in_nI (by omega) (by decide)
      refine br_f (nI_ge (by omega) (by omega)) ⟨ii, ii, nm_e (nm_r (nI_1 i) (ih (i + 1) _ (by omega) (fun j hj => ?_)))⟩
      rw [nI_clamp (by omega)]
      exact ro_u (fun w => by rw [w]) (fun w => e j (by omega))
  exact ⟨n + 1, g n 0 oy (by omega) (fun j hj => by omega)⟩
theorem ro_ycp_reverse {n : Nat} (h5 : n ≤ 5) (post : Int32 → SY → Prop) (gM : Int32) (cs hs un ey ry oy fy : Nat → Int32) (x1 : Int32) (H : ∀ t : Nat → Int32, (∀ j, j < n → t j = ry j) → ∃ m, wY_reverse_57 post x1 (nI n) gM m 0 cs hs un ey ry t fy) : ∃ m, wY_reverse_29 post x1 (nI n) gM m 0 cs hs un ey ry oy fy := by
  have g : ∀ d i oy, i + d = n → (∀ j, j < i → oy j = ry j) → wY_reverse_29 post x1 (nI n) gM (d + 1) (nI i) cs hs un ey ry oy fy := by
    intro d
    induction d with
    | zero =>
      intro i oy hi e
      have : i = n := by omega
      rw [this] at e
      exact br_t (nI_le (by omega) (by omega)) (H oy e)
    | succ d ih =>
      intro i oy hi e
      have ii : vp_in (nI i) 5 := vp_in_nI (by omega) (by decide)
      refine br_f (nI_ge (by omega) (by omega)) ⟨ii, ii, nm_e (nm_r (nI_1 i) (ih (i + 1) _ (by omega) (fun j hj => ?_)))⟩
      rw [nI_clamp (by omega)]
      exact ro_u (fun w => by rw [w]) (fun w => e j (by omega))
  exact ⟨n + 1, g n 0 oy (by omega) (fun j hj => by omega)⟩
theorem ro_ycp_multiply {n : Nat} (h5 : n ≤ 5) (post : Int32 → SY → Prop) (gM : Int32) (cs hs un ey ry oy fy : Nat → Int32) (H : ∀ t : Nat → Int32, (∀ j, j < n → t j = ry j) → wY_multiply_17 post (nI n) gM 1 (nI n) cs hs un ey ry t fy) : ∃ m, wY_multiply_17 post (nI n) gM m 0 cs hs un ey ry oy fy := by
  have g : ∀ d i oy, i + d = n → (∀ j, j < i → oy j = ry j) → wY_multiply_17 post (nI n) gM (d + 1) (nI i) cs hs un ey ry oy fy := by
    intro d
    induction d with
    | zero =>
      intro i oy hi e
      have : i = n := by omega
      rw [this] at e ⊢
      exact H oy e
    | succ d ih =>
      intro i oy hi e
      have ii : vp_in (nI i) 5 := vp_in_nI (by omega) (by decide)
      refine br_f (nI_ge (by omega) (by omega)) ⟨ii, ii, nm_e (nm_r (nI_1 i) (ih (i + 1) _ (by omega) (fun j hj => ?_)))⟩
      rw [nI_clamp (by omega)]
      exact ro_u (fun w => by rw [w]) (fun w => e j (by omega))
  exact ⟨n + 1, g n 0 oy (by omega) (fun j hj => by omega)⟩
theorem ro_yinv {n : Nat} (h2 : 2 ≤ n) (h5 : n ≤ 5) {k : Nat} (hk : k < ro_fc n) (post : Int32 → SY → Prop) (gM : Int32) (cs hs un ey ry oy fy : Nat → Int32) (x1 : Int32) (hr : ∀ j, j < n → oy j = nI (ro_R n k j))
    (H : ∀ t : Nat → Int32, (∀ j, j < n → t j = nI (ro_R n (ro_V n k) j)) → wpY_keep (fun r u => post r u) (nI n, gM, cs, hs, un, ey, t, oy, fy) x1) : ∀ d i ry, i + d = n → (∀ i', i' < i → ry (ro_R n k i' - 1) = nI (i' + 1)) → wY_invert_57 post x1 (nI n) gM (d + 1) (nI i) cs hs un ey ry oy fy := by
  intro d
  induction d with
  | zero =>
    intro i ry hi e
    have : i = n := by omega
    rw [this] at e
    exact br_t (nI_le (by omega) (by omega)) (H ry (ro_inv h2 h5 hk e))
  | succ d ih =>
    intro i ry hi e
    have a := (ro_fR h2 h5 hk (j := i) (by omega)).2
    have e1 : oy (nI i).toNatClampNeg - 1 = nI (ro_R n k i - 1) := by
      rw [nI_clamp (by omega), hr i (by omega)]; exact pk_sub (b := 1) a.1
    refine br_f (nI_ge (by omega) (by omega)) ⟨vp_in_nI (by omega) (by decide), ?_⟩
    rw [e1]
    refine ⟨vp_in_nI (by omega) (by decide), nm_e (nm_r (nI_1 i) (ih (i + 1) _ (by omega) (fun i' hi' => ?_)))⟩
    rw [nI_clamp (by omega), nI_1]
    refine ro_u (fun w => ?_) (fun w => e i' ?_)
    · have b := (ro_fR h2 h5 hk (j := i') (by omega)).2
      rw [ro_f4 h2 h5 hk (i := i') (j := i) (by omega) (by omega) (by omega)]
    · by_cases q : i' = i
      · rw [q] at w; exact absurd rfl w
      · omega
theorem i_vc_invert {k : Nat} {u : SX} {v : SY} (I : i_Rel k u v) (hk : k + 4 ≤ 2049) (v1 : Int32) : wpX_invert (fun r u' => wpY_invert (fun r' v' => r' = r ∧ i_Rel (k + 4) u' v') v v1) u v1 := by
  obtain ⟨n, pq, el, ic, er, ra, rb, rm, sm, ma, mb, cs, hs, un, ey, ry, oy, fy, h2, h5, hE, hX, hY, rfl, rfl⟩ := I
  have hc := ro_c120 n
  unfold wpX_invert
  rcases ro_ar v1 (n := 2) (by decide) with h | ⟨e, he, rfl⟩
  · refine ro_x01b h _ _ el ic er ra rb rm sm ma mb (br_t rfl ?_)
    unfold wpY_invert
    exact ro_y01b h _ _ cs hs un ey ry oy fy (br_f (by decide) ⟨rfl, ro_rel h2 h5 hE hX hY _ _ _ _ _ _ _ _ _⟩)
  · obtain ⟨p1, p2, p3⟩ := hE e he
    have hV := (ro_f2 h2 h5 p1).2.2.2.2.1
    have eV := (ro_f2 h2 h5 hV).1
    have hC := ro_fC h2 h5 p1
    refine ro_x01 he _ _ el ic er ra rb rm sm ma mb (br_f (by decide) ⟨vp_in_nI he (by decide), ?_⟩)
    rw [show el (nI e).toNatClampNeg = nI (pq e) from by rw [nI_clamp (by omega)]; exact p2]
    refine ro_xload_row h2 h5 p1 _ _ el ic er ra rb rm sm ma mb (fun t ht => ⟨n + 1, ?_⟩)
    refine ro_xinv h2 h5 p1 _ _ el ic er t rb rm sm ma mb _ ht (fun s hS => ?_) n 0 rm (by omega) (fun i' h => by omega)
    refine ro_xkeep h5 (r := ro_R n (ro_V n (pq e))) (fun j hj => by have := (ro_fR h2 h5 hV hj).2.2; omega) _ el ic er t rb s sm ma mb hS (by rw [eV]; exact hV) hX he _ ?_
    rw [eV]
    unfold wpY_invert
    refine ro_y01 he _ _ cs hs un ey ry oy fy (br_t rfl ⟨vp_in_nI he (by decide), ?_⟩)
    rw [show ey (nI e).toNatClampNeg = nI (pq e) from by rw [nI_clamp (by omega)]; exact p3]
    refine ⟨vp_in_nI (by omega) (by decide), ?_⟩
    rw [show cs (nI (pq e)).toNatClampNeg = nI (ro_C n (pq e)) from by rw [nI_clamp (by omega)]; exact hY.1 _ p1]
    refine ro_ysp h2 h5 (by omega) _ _ cs hs un ey ry oy fy (fun t' ht' => ?_)
    refine ro_ycp_invert h5 _ _ cs hs un ey t' oy fy _ (fun o' ho' => ⟨n + 1, ?_⟩)
    refine ro_yinv h2 h5 p1 _ _ cs hs un ey t' o' fy _ (fun j hj => by rw [ho' j hj, ht' j hj, ro_f31 h2 h5 p1 hj]) (fun s' hs' => ?_) n 0 t' (by omega) (fun i' h => by omega)
    refine ro_ykeep h2 h5 (r := ro_R n (ro_V n (pq e))) _ cs hs un ey s' o' fy rfl hY.1 hY.2.1 hs' (ro_gdR h2 h5 hV) he _ ?_
    rw [eV]
    exact ⟨rfl, ro_rel h2 h5 (ro_EleU hE hV e) hX hY _ _ _ _ _ _ _ _ _⟩
theorem ro_xrev {n : Nat} (h2 : 2 ≤ n) (h5 : n ≤ 5) {k : Nat} (post : Int32 → SX → Prop) (fC : Int32) (el ic er ra rb rm sm ma mb : Nat → Int32) (x1 : Int32) (hr : ∀ j, j < n → ra j = nI (ro_R n k j))
    (H : ∀ t : Nat → Int32, (∀ j, j < n → t j = nI (ro_R n k (n - 1 - j))) → wpX_keepMade (fun r u => post r u) (nI n, fC, el, ic, er, ra, rb, t, sm, ma, mb) x1) : ∀ d i rm, i + d = n → (∀ i', i' < i → rm i' = nI (ro_R n k (n - 1 - i'))) → wX_reverse_28 post x1 (nI n) fC (d + 1) (nI i) el ic er ra rb rm sm ma mb := by
  intro d
  induction d with
  | zero =>
    intro i rm hi e
    have : i = n := by omega
    rw [this] at e
    exact br_t (nI_le (by omega) (by omega)) (H rm e)
  | succ d ih =>
    intro i rm hi e
    have e1 : nI n - 1 - nI i = nI (n - 1 - i) := by
      rw [show nI n - 1 = nI (n - 1) from pk_sub (b := 1) (by omega)]; exact pk_sub (by omega)
    refine br_f (nI_ge (by omega) (by omega)) ?_
    rw [e1]
    refine ⟨vp_in_nI (by omega) (by decide), vp_in_nI (by omega) (by decide), nm_e (nm_r (nI_1 i) (ih (i + 1) _ (by omega) (fun i' hi' => ?_)))⟩
    rw [nI_clamp (by omega), nI_clamp (by omega), hr _ (by omega)]
    exact ro_u (fun w => by rw [w]) (fun w => e i' (by omega))
theorem ro_yrev {n : Nat} (h2 : 2 ≤ n) (h5 : n ≤ 5) {k : Nat} (post : Int32 → SY → Prop) (gM : Int32) (cs hs un ey ry oy fy : Nat → Int32) (x1 : Int32) (hr : ∀ j, j < n → oy j = nI (ro_R n k j))
    (H : ∀ t : Nat → Int32, (∀ j, j < n → t j = nI (ro_R n k (n - 1 - j))) → wpY_keep (fun r u => post r u) (nI n, gM, cs, hs, un, ey, t, oy, fy) x1) : ∀ d i ry, i + d = n → (∀ i', i' < i → ry i' = nI (ro_R n k (n - 1 - i'))) → wY_reverse_57 post x1 (nI n) gM (d + 1) (nI i) cs hs un ey ry oy fy := by
  intro d
  induction d with
  | zero =>
    intro i ry hi e
    have : i = n := by omega
    rw [this] at e
    exact br_t (nI_le (by omega) (by omega)) (H ry e)
  | succ d ih =>
    intro i ry hi e
    have e1 : nI n - 1 - nI i = nI (n - 1 - i) := by
      rw [show nI n - 1 = nI (n - 1) from pk_sub (b := 1) (by omega)]; exact pk_sub (by omega)
    refine br_f (nI_ge (by omega) (by omega)) ?_
    rw [e1]
    refine ⟨vp_in_nI (by omega) (by decide), vp_in_nI (by omega) (by decide), nm_e (nm_r (nI_1 i) (ih (i + 1) _ (by omega) (fun i' hi' => ?_)))⟩
    rw [nI_clamp (by omega), nI_clamp (by omega), hr _ (by omega)]
    exact ro_u (fun w => by rw [w]) (fun w => e i' (by omega))
theorem i_vc_reverse {k : Nat} {u : SX} {v : SY} (I : i_Rel k u v) (hk : k + 4 ≤ 2049) (v1 : Int32) : wpX_reverse (fun r u' => wpY_reverse (fun r' v' => r' = r ∧ i_Rel (k + 4) u' v') v v1) u v1 := by
  obtain ⟨n, pq, el, ic, er, ra, rb, rm, sm, ma, mb, cs, hs, un, ey, ry, oy, fy, h2, h5, hE, hX, hY, rfl, rfl⟩ := I
  have hc := ro_c120 n
  unfold wpX_reverse
  rcases ro_ar v1 (n := 2) (by decide) with h | ⟨e, he, rfl⟩
  · refine ro_x01b h _ _ el ic er ra rb rm sm ma mb (br_t rfl ?_)
    unfold wpY_reverse
    exact ro_y01b h _ _ cs hs un ey ry oy fy (br_f (by decide) ⟨rfl, ro_rel h2 h5 hE hX hY _ _ _ _ _ _ _ _ _⟩)
  · obtain ⟨p1, p2, p3⟩ := hE e he
    have gd := (ro_f2 h2 h5 p1).2.2.2.2.2
    have gk := (ro_gdd gd).1
    have hC := ro_fC h2 h5 p1
    refine ro_x01 he _ _ el ic er ra rb rm sm ma mb (br_f (by decide) ⟨vp_in_nI he (by decide), ?_⟩)
    rw [show el (nI e).toNatClampNeg = nI (pq e) from by rw [nI_clamp (by omega)]; exact p2]
    refine ro_xload_row h2 h5 p1 _ _ el ic er ra rb rm sm ma mb (fun t ht => ⟨n + 1, ?_⟩)
    refine ro_xrev h2 h5 (k := pq e) _ _ el ic er t rb rm sm ma mb _ ht (fun s hS => ?_) n 0 rm (by omega) (fun i' h => by omega)
    refine ro_xkeep h5 (r := fun j => ro_R n (pq e) (n - 1 - j)) (fun j hj => by have := (ro_fR h2 h5 p1 (j := n - 1 - j) (by omega)).2.2; show ro_R n (pq e) (n - 1 - j) < 100; omega) _ el ic er t rb s sm ma mb hS gk hX he _ ?_
    unfold wpY_reverse
    refine ro_y01 he _ _ cs hs un ey ry oy fy (br_t rfl ⟨vp_in_nI he (by decide), ?_⟩)
    rw [show ey (nI e).toNatClampNeg = nI (pq e) from by rw [nI_clamp (by omega)]; exact p3]
    refine ⟨vp_in_nI (by omega) (by decide), ?_⟩
    rw [show cs (nI (pq e)).toNatClampNeg = nI (ro_C n (pq e)) from by rw [nI_clamp (by omega)]; exact hY.1 _ p1]
    refine ro_ysp h2 h5 (by omega) _ _ cs hs un ey ry oy fy (fun t' ht' => ?_)
    refine ro_ycp_reverse h5 _ _ cs hs un ey t' oy fy _ (fun o' ho' => ⟨n + 1, ?_⟩)
    refine ro_yrev h2 h5 (k := pq e) _ _ cs hs un ey t' o' fy _ (fun j hj => by rw [ho' j hj, ht' j hj, ro_f31 h2 h5 p1 hj]) (fun s' hs' => ?_) n 0 t' (by omega) (fun i' h => by omega)
    refine ro_ykeep h2 h5 (r := fun j => ro_R n (pq e) (n - 1 - j)) _ cs hs un ey s' o' fy rfl hY.1 hY.2.1 hs' gd he _ ?_
    exact ⟨rfl, ro_rel h2 h5 (ro_EleU hE gk e) hX hY _ _ _ _ _ _ _ _ _⟩
theorem ro_xmul {n : Nat} (h2 : 2 ≤ n) (h5 : n ≤ 5) {a b : Nat} (hb : b < ro_fc n) (post : Int32 → SX → Prop) (fC : Int32) (el ic er ra rb rm sm ma mb : Nat → Int32) (hr : ∀ j, j < n → ra j = nI (ro_R n a j)) (hq : ∀ j, j < n → rb j = nI (ro_R n b j))
    (H : ∀ t : Nat → Int32, (∀ j, j < n → t j = nI (ro_R n a (ro_R n b j - 1))) → wpX_keepMade (fun r u => post r u) (nI n, fC, el, ic, er, ra, rb, t, sm, ma, mb) 0) : ∀ d i rm, i + d = n → (∀ i', i' < i → rm i' = nI (ro_R n a (ro_R n b i' - 1))) → wX_multiply_30 post (nI n) fC (d + 1) (nI i) el ic er ra rb rm sm ma mb := by
  intro d
  induction d with
  | zero =>
    intro i rm hi e
    have : i = n := by omega
    rw [this] at e
    exact br_t (nI_le (by omega) (by omega)) (H rm e)
  | succ d ih =>
    intro i rm hi e
    have c := (ro_fR h2 h5 hb (j := i) (by omega)).2
    have e1 : rb (nI i).toNatClampNeg - 1 = nI (ro_R n b i - 1) := by
      rw [nI_clamp (by omega), hq i (by omega)]; exact pk_sub (b := 1) c.1
    refine br_f (nI_ge (by omega) (by omega)) ⟨vp_in_nI (by omega) (by decide), ?_⟩
    rw [e1]
    refine ⟨vp_in_nI (by omega) (by decide), vp_in_nI (by omega) (by decide), nm_e (nm_r (nI_1 i) (ih (i + 1) _ (by omega) (fun i' hi' => ?_)))⟩
    rw [nI_clamp (by omega), nI_clamp (by omega), hr _ (by omega)]
    exact ro_u (fun w => by rw [w]) (fun w => e i' (by omega))
theorem ro_ymul {n : Nat} (h2 : 2 ≤ n) (h5 : n ≤ 5) {a b : Nat} (hb : b < ro_fc n) (post : Int32 → SY → Prop) (gM : Int32) (cs hs un ey ry oy fy : Nat → Int32) (hr : ∀ j, j < n → oy j = nI (ro_R n a j))
    (H : ∀ t : Nat → Int32, (∀ j, j < n → t j = nI (ro_R n a (ro_R n b j - 1))) → wpY_keep (fun r u => post r u) (nI n, gM, cs, hs, un, ey, t, oy, fy) 0) : ∀ d i ry, i + d = n → (∀ i', i' < i → ry i' = nI (ro_R n a (ro_R n b i' - 1))) → (∀ i', i ≤ i' → i' < n → ry i' = nI (ro_R n b i')) → wY_multiply_60 post (nI n) gM (d + 1) (nI i) cs hs un ey ry oy fy := by
  intro d
  induction d with
  | zero =>
    intro i ry hi e e2
    have : i = n := by omega
    rw [this] at e
    exact br_t (nI_le (by omega) (by omega)) (H ry e)
  | succ d ih =>
    intro i ry hi e e2
    have c := (ro_fR h2 h5 hb (j := i) (by omega)).2
    have e1 : ry (nI i).toNatClampNeg - 1 = nI (ro_R n b i - 1) := by
      rw [nI_clamp (by omega), e2 i (by omega) (by omega)]; exact pk_sub (b := 1) c.1
    refine br_f (nI_ge (by omega) (by omega)) ⟨vp_in_nI (by omega) (by decide), ?_⟩
    rw [e1]
    refine ⟨vp_in_nI (by omega) (by decide), vp_in_nI (by omega) (by decide), nm_e (nm_r (nI_1 i) (ih (i + 1) _ (by omega) (fun i' hi' => ?_) (fun i' a' b' => ?_)))⟩
    · rw [nI_clamp (by omega), nI_clamp (by omega), hr _ (by omega)]
      exact ro_u (fun w => by rw [w]) (fun w => e i' (by omega))
    · rw [nI_clamp (by omega)]
      exact ro_u (fun w => by omega) (fun w => e2 i' (by omega) b')
theorem i_vc_multiply {k : Nat} {u : SX} {v : SY} (I : i_Rel k u v) (hk : k + 4 ≤ 2049) : wpX_multiply (fun r u' => wpY_multiply (fun r' v' => r' = r ∧ i_Rel (k + 4) u' v') v) u := by
  obtain ⟨n, pq, el, ic, er, ra, rb, rm, sm, ma, mb, cs, hs, un, ey, ry, oy, fy, h2, h5, hE, hX, hY, rfl, rfl⟩ := I
  have hc := ro_c120 n
  obtain ⟨p1, p2, p3⟩ := hE 0 (by decide)
  obtain ⟨q1, q2, q3⟩ := hE 1 (by decide)
  have gd := ro_f20 h2 h5 p1 q1
  have gk := (ro_gdd gd).1
  have hC := ro_fC h2 h5 p1
  have hC' := ro_fC h2 h5 q1
  unfold wpX_multiply
  dsimp only
  rw [p2]
  refine ro_xload_row h2 h5 p1 _ _ el ic er ra rb rm sm ma mb (fun t ht => ?_)
  dsimp only
  rw [q2]
  refine ro_xload_otherRow h2 h5 q1 _ _ el ic er t rb rm sm ma mb (fun s hS => ⟨n + 1, ?_⟩)
  refine ro_xmul h2 h5 q1 _ _ el ic er t s rm sm ma mb ht hS (fun t' ht' => ?_) n 0 rm (by omega) (fun i' h => by omega)
  refine ro_xkeep h5 (r := fun j => ro_R n (pq 0) (ro_R n (pq 1) j - 1)) (fun j hj => ?_) _ el ic er t s t' sm ma mb ht' gk hX (d := 0) (by decide) _ ?_
  · have a := (ro_fR h2 h5 q1 hj).2
    have b := (ro_fR h2 h5 p1 (j := ro_R n (pq 1) j - 1) (by omega)).2.2
    show ro_R n (pq 0) (ro_R n (pq 1) j - 1) < 100
    omega
  unfold wpY_multiply
  dsimp only
  rw [p3]
  refine ⟨vp_in_nI (by omega) (by decide), ?_⟩
  rw [show cs (nI (pq 0)).toNatClampNeg = nI (ro_C n (pq 0)) from by rw [nI_clamp (by omega)]; exact hY.1 _ p1]
  refine ro_ysp h2 h5 (by omega) _ _ cs hs un ey ry oy fy (fun y hy => ?_)
  refine ro_ycp_multiply h5 _ _ cs hs un ey y oy fy (fun o' ho' => br_t (nI_le (Nat.le_refl n) (by omega)) ?_)
  rw [q3]
  refine ⟨vp_in_nI (by omega) (by decide), ?_⟩
  rw [show cs (nI (pq 1)).toNatClampNeg = nI (ro_C n (pq 1)) from by rw [nI_clamp (by omega)]; exact hY.1 _ q1]
  refine ro_ysp h2 h5 (by omega) _ _ cs hs un ey y o' fy (fun z hz => ⟨n + 1, ?_⟩)
  refine ro_ymul h2 h5 (a := pq 0) (b := pq 1) q1 _ _ cs hs un ey z o' fy (fun j hj => by rw [ho' j hj, hy j hj, ro_f31 h2 h5 p1 hj]) (fun s' hs' => ?_) n 0 z (by omega) (fun i' h => by omega) (fun i' a b => by rw [hz i' b, ro_f31 h2 h5 q1 b])
  refine ro_ykeep h2 h5 (r := fun j => ro_R n (pq 0) (ro_R n (pq 1) j - 1)) _ cs hs un ey s' o' fy rfl hY.1 hY.2.1 hs' gd (d := 0) (by decide) _ ?_
  exact ⟨rfl, ro_rel h2 h5 (ro_EleU hE gk 0) hX hY _ _ _ _ _ _ _ _ _⟩
