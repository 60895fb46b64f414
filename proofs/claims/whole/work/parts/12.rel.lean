/-! the relation -/
def ro_Ele (n : Nat) (pq : Nat → Nat) (el ey : Nat → Int32) : Prop := ∀ e, e < 2 → pq e < ro_fc n ∧ el e = nI (pq e) ∧ ey e = nI (pq e)
theorem ro_EleU {n : Nat} {pq : Nat → Nat} {el ey : Nat → Int32} (h : ro_Ele n pq el ey) {k : Nat} (hk : k < ro_fc n) (d : Nat) : ro_Ele n (fun x => cond (Nat.beq x d) k (pq x)) (upd el d (nI k)) (upd ey d (nI k)) := by
  intro e he
  by_cases q : e = d
  · subst q
    show cond (Nat.beq e e) k (pq e) < ro_fc n ∧ upd el e (nI k) e = nI (cond (Nat.beq e e) k (pq e)) ∧ upd ey e (nI k) e = nI (cond (Nat.beq e e) k (pq e))
    rw [Nat.beq_refl, pk_us, pk_us]
    exact ⟨hk, rfl, rfl⟩
  · show cond (Nat.beq e d) k (pq e) < ro_fc n ∧ upd el d (nI k) e = nI (cond (Nat.beq e d) k (pq e)) ∧ upd ey d (nI k) e = nI (cond (Nat.beq e d) k (pq e))
    rw [ro_nbeq q, pk_un q, pk_un q]
    exact h e he
/-- both hold n numbers, the same two permutations by their ranks, and full tables -/
def i_Rel (_ : Nat) (u : SX) (v : SY) : Prop := ∃ (n : Nat) (pq : Nat → Nat) (el ic er ra rb rm sm ma mb cs hs un ey ry oy fy : Nat → Int32), 2 ≤ n ∧ n ≤ 5 ∧ ro_Ele n pq el ey ∧ ro_TX n ic er ∧ ro_TY n cs hs un ∧ u = (nI n, (nI (ro_fc n)), el, ic, er, ra, rb, rm, sm, ma, mb) ∧ v = (nI n, (nI (ro_fc n)), cs, hs, un, ey, ry, oy, fy)
theorem ro_rel {n k : Nat} {pq : Nat → Nat} {el ic er cs hs un ey : Nat → Int32} (h2 : 2 ≤ n) (h5 : n ≤ 5) (hE : ro_Ele n pq el ey) (hX : ro_TX n ic er) (hY : ro_TY n cs hs un) (ra rb rm sm ma mb ry oy fy : Nat → Int32) : i_Rel k (nI n, (nI (ro_fc n)), el, ic, er, ra, rb, rm, sm, ma, mb) (nI n, (nI (ro_fc n)), cs, hs, un, ey, ry, oy, fy) :=
  ⟨n, pq, el, ic, er, ra, rb, rm, sm, ma, mb, cs, hs, un, ey, ry, oy, fy, h2, h5, hE, hX, hY, rfl, rfl⟩
theorem i_up {k : Nat} {u : SX} {v : SY} (h : i_Rel k u v) : i_Rel (k + 4) u v := h
theorem i_vc0 (k0 : Int32) : wpX_init (fun u => wpY_init (fun v => i_Rel 1 u v) k0) k0 := by
  have g : ∀ n, 2 ≤ n → n ≤ 5 → ∀ P : (SY → Prop) → Prop, (∀ post : SY → Prop, (∃ m, wY_init_88 post (nI n) 0 (fun _ => 0) (fun _ => 0) (fun _ => 0) (fun _ => 0) (fun _ => 0) (fun _ => 0) (fun _ => 0) m 0 1 1) → P post) → ∃ m, wX_init_100 (fun u => P (fun v => i_Rel 1 u v)) (nI n) 0 (fun _ => 0) (fun _ => 0) (fun _ => 0) (fun _ => 0) (fun _ => 0) (fun _ => 0) (fun _ => 0) (fun _ => 0) (fun _ => 0) m 1 2 := by
    intro n h2 h5 P HP
    have hc := ro_c120 n
    refine ro_xin h2 h5 _ 0 _ _ _ _ _ _ (fun ic er rm hX => HP _ ?_) _ _ _
    refine ro_yin _ _ _ h2 h5 _ (fun cs hs un ry hY => ?_) _ _ _
    exact ro_rel (pq := fun _ => 0) h2 h5 (fun e he => ⟨by show 0 < ro_fc n; omega, rfl, rfl⟩) hX hY _ _ _ _ _ _ _ _ _
  refine br_c (fun h => br_c (fun h' => ?_) (fun h' => ?_)) (fun h => ?_)
  · obtain ⟨j, hj, rfl⟩ := nI_of (x := k0) (fun z => by
      have := Int32.lt_of_lt_of_le z (show (0 : Int32) ≤ 2 by decide)
      exact absurd h (Int32.not_le.mpr this))
    have a : 2 ≤ j := (nI_leI (a := 2) (by decide) hj).mp h
    have b : j ≤ 5 := (nI_leI (b := 5) hj (by decide)).mp h'
    exact g j a b (fun post => wpY_init post (nI j)) (fun post H => br_t h (br_t h' H))
  · exact g 5 (by decide) (by decide) (fun post => wpY_init post k0) (fun post H => br_t h (br_f h' H))
  · exact g 2 (by decide) (by decide) (fun post => wpY_init post k0) (fun post H => br_f h H)
/-! the arguments -/
def ro_bd (p : Int32) (n : Nat) : Prop := p < 0 ∨ nI n ≤ p
theorem ro_ar (p : Int32) {n : Nat} (hn : n < 100) : ro_bd p n ∨ ∃ e, e < n ∧ p = nI e := by
  rcases pk_ix p (n := n) (by omega) with h | h | h
  · exact Or.inl (Or.inl h)
  · exact Or.inl (Or.inr h)
  · exact Or.inr h
theorem ro_x01b {n : Nat} {p : Int32} (h : ro_bd p 2) (post : Int32 → Prop) (fC : Int32) (el ic er ra rb rm sm ma mb : Nat → Int32) (H : post 0) : wpX_isZeroOrOne post (nI n, fC, el, ic, er, ra, rb, rm, sm, ma, mb) p := by
  refine br_f (fun z => ?_) (br_f (fun z => ?_) H)
  · rw [z] at h; exact absurd h (by unfold ro_bd; decide)
  · rw [z] at h; exact absurd h (by unfold ro_bd; decide)
theorem ro_x01 {n e : Nat} (he : e < 2) (post : Int32 → Prop) (fC : Int32) (el ic er ra rb rm sm ma mb : Nat → Int32) (H : post 1) : wpX_isZeroOrOne post (nI n, fC, el, ic, er, ra, rb, rm, sm, ma, mb) (nI e) := by
  have h : e = 0 ∨ e = 1 := by omega
  rcases h with h | h <;> subst h
  · exact br_t rfl H
  · exact br_f (by decide) (br_t rfl H)
theorem ro_y01b {n : Nat} {p : Int32} (h : ro_bd p 2) (post : Int32 → Prop) (gM : Int32) (cs hs un ey ry oy fy : Nat → Int32) (H : post 1) : wpY_bad post (nI n, gM, cs, hs, un, ey, ry, oy, fy) p := by
  rcases h with h | h
  · exact br_t h H
  · refine br_c (fun _ => H) (fun _ => br_f (fun z => ?_) H)
    exact absurd (Int32.le_trans h z) (by decide)
theorem ro_y01 {n e : Nat} (he : e < 2) (post : Int32 → Prop) (gM : Int32) (cs hs un ey ry oy fy : Nat → Int32) (H : post 0) : wpY_bad post (nI n, gM, cs, hs, un, ey, ry, oy, fy) (nI e) :=
  br_f (nI_pos (by omega)) (br_t (show nI e ≤ nI 1 from nI_le (by omega) (by omega)) H)
theorem ro_xplb {n : Nat} {p : Int32} (h : ro_bd p n) (post : Int32 → Prop) (fC : Int32) (el ic er ra rb rm sm ma mb : Nat → Int32) (H : post 0) : wpX_isPlace post (nI n, fC, el, ic, er, ra, rb, rm, sm, ma, mb) p := by
  rcases h with h | h
  · exact br_t h H
  · exact br_c (fun _ => H) (fun _ => br_t h H)
theorem ro_xpl {n e : Nat} (h5 : n ≤ 5) (he : e < n) (post : Int32 → Prop) (fC : Int32) (el ic er ra rb rm sm ma mb : Nat → Int32) (H : post 1) : wpX_isPlace post (nI n, fC, el, ic, er, ra, rb, rm, sm, ma, mb) (nI e) :=
  br_f (nI_pos (by omega)) (br_f (nI_ge (by omega) (by omega)) H)
theorem ro_yplb {n : Nat} {p : Int32} (h : ro_bd p n) (post : Int32 → Prop) (gM : Int32) (cs hs un ey ry oy fy : Nat → Int32) (H : post 1) : wpY_noPlace post (nI n, gM, cs, hs, un, ey, ry, oy, fy) p := by
  rcases h with h | h
  · exact br_t h H
  · exact br_c (fun _ => H) (fun _ => br_f (Int32.not_lt.mpr h) H)
theorem ro_ypl0 {n e : Nat} (h5 : n ≤ 5) (he : e < n) (post : Int32 → Prop) (gM : Int32) (cs hs un ey ry oy fy : Nat → Int32) (H : post 0) : wpY_noPlace post (nI n, gM, cs, hs, un, ey, ry, oy, fy) (nI e) :=
  br_f (nI_pos (by omega)) (br_t (nI_lt (by omega) (by omega)) H)
theorem ro_yib {n : Nat} {o p q : Nat} (ho : o < 2) (hp : p < ro_fc n) (hq : q < ro_fc n) (post : Int32 → Prop) (gM : Int32) (cs hs un ey ry oy fy : Nat → Int32) (hY : ro_TY n cs hs un) (H : post (ro_bt (ro_U n o p) q)) : wpY_isBelow post (nI n, gM, cs, hs, un, ey, ry, oy, fy) (nI o) (nI p) (nI q) := by
  have hc := ro_c120 n
  have eb : 14400 * nI o + 120 * nI p + nI q = nI (14400 * o + 120 * p + q) := by
    rw [show (14400 : Int32) = nI 14400 from rfl, show (120 : Int32) = nI 120 from rfl, pk_mul, pk_mul, nI_add, nI_add]
  unfold wpY_isBelow
  dsimp only
  rw [eb, nI_clamp (by omega), hY.2.2 o ho p hp q hq]
  refine ⟨vp_in_nI (by omega) (by decide), ?_, H⟩
  unfold ro_bt
  cases ro_tb (ro_U n o p) q <;> rfl
theorem ro_gdR {n : Nat} (h2 : 2 ≤ n) (h5 : n ≤ 5) {k : Nat} (hk : k < ro_fc n) : ro_gd n (ro_R n k) = true := by
  have a := ro_f2 h2 h5 hk
  unfold ro_gd
  rw [a.1, a.2.1, Nat.ble_eq_true_of_le hk]
  exact Nat.beq_refl _
/-! the small methods -/
theorem i_vc_code {k : Nat} {u : SX} {v : SY} (I : i_Rel k u v) (hk : k + 4 ≤ 2049) (v1 : Int32) : wpX_code (fun r u' => wpY_code (fun r' => r' = r ∧ i_Rel (k + 4) u' v) v v1) u v1 := by
  obtain ⟨n, pq, el, ic, er, ra, rb, rm, sm, ma, mb, cs, hs, un, ey, ry, oy, fy, h2, h5, hE, hX, hY, rfl, rfl⟩ := I
  have hc := ro_c120 n
  unfold wpX_code
  rcases ro_ar v1 (n := 2) (by decide) with h | ⟨e, he, rfl⟩
  · refine ro_x01b h _ _ el ic er ra rb rm sm ma mb (br_t rfl ?_)
    unfold wpY_code
    exact ro_y01b h _ _ cs hs un ey ry oy fy (br_f (by decide) ⟨rfl, ro_rel h2 h5 hE hX hY _ _ _ _ _ _ _ _ _⟩)
  · obtain ⟨p1, p2, p3⟩ := hE e he
    refine ro_x01 he _ _ el ic er ra rb rm sm ma mb (br_f (by decide) ⟨vp_in_nI he (by decide), ?_⟩)
    rw [show el (nI e).toNatClampNeg = nI (pq e) from by rw [nI_clamp (by omega)]; exact p2]
    refine ro_xcode h2 h5 p1 _ _ el ic er ra rb rm sm ma mb (fun t => ?_)
    unfold wpY_code
    refine ro_y01 he _ _ cs hs un ey ry oy fy (br_t rfl ⟨vp_in_nI he (by decide), ?_⟩)
    rw [show ey (nI e).toNatClampNeg = nI (pq e) from by rw [nI_clamp (by omega)]; exact p3]
    refine ⟨vp_in_nI (by omega) (by decide), ?_, ro_rel h2 h5 hE hX hY _ _ _ _ _ _ _ _ _⟩
    rw [nI_clamp (by omega)]; exact hY.1 _ p1
theorem i_vc_inversions {k : Nat} {u : SX} {v : SY} (I : i_Rel k u v) (hk : k + 4 ≤ 2049) (v1 : Int32) : wpX_inversions (fun r => wpY_inversions (fun r' => r' = r ∧ i_Rel (k + 4) u v) v v1) u v1 := by
  obtain ⟨n, pq, el, ic, er, ra, rb, rm, sm, ma, mb, cs, hs, un, ey, ry, oy, fy, h2, h5, hE, hX, hY, rfl, rfl⟩ := I
  have hc := ro_c120 n
  unfold wpX_inversions
  rcases ro_ar v1 (n := 2) (by decide) with h | ⟨e, he, rfl⟩
  · refine ro_x01b h _ _ el ic er ra rb rm sm ma mb (br_t rfl ?_)
    unfold wpY_inversions
    exact ro_y01b h _ _ cs hs un ey ry oy fy (br_f (by decide) ⟨rfl, ro_rel h2 h5 hE hX hY _ _ _ _ _ _ _ _ _⟩)
  · obtain ⟨p1, p2, p3⟩ := hE e he
    refine ro_x01 he _ _ el ic er ra rb rm sm ma mb (br_f (by decide) ⟨vp_in_nI he (by decide), ?_⟩)
    rw [show el (nI e).toNatClampNeg = nI (pq e) from by rw [nI_clamp (by omega)]; exact p2]
    refine ⟨vp_in_nI (by omega) (by decide), ?_⟩
    unfold wpY_inversions
    refine ro_y01 he _ _ cs hs un ey ry oy fy (br_t rfl ⟨vp_in_nI he (by decide), ?_⟩)
    rw [show ey (nI e).toNatClampNeg = nI (pq e) from by rw [nI_clamp (by omega)]; exact p3]
    refine ⟨vp_in_nI (by omega) (by decide), ?_, ro_rel h2 h5 hE hX hY _ _ _ _ _ _ _ _ _⟩
    rw [nI_clamp (by omega), hY.2.1 _ p1, hX.1 _ p1]
theorem i_vc_rank {k : Nat} {u : SX} {v : SY} (I : i_Rel k u v) (hk : k + 4 ≤ 2049) (v1 : Int32) : wpX_rank (fun r => wpY_rank (fun r' => r' = r ∧ i_Rel (k + 4) u v) v v1) u v1 := by
  obtain ⟨n, pq, el, ic, er, ra, rb, rm, sm, ma, mb, cs, hs, un, ey, ry, oy, fy, h2, h5, hE, hX, hY, rfl, rfl⟩ := I
  unfold wpX_rank
  rcases ro_ar v1 (n := 2) (by decide) with h | ⟨e, he, rfl⟩
  · refine ro_x01b h _ _ el ic er ra rb rm sm ma mb (br_t rfl ?_)
    unfold wpY_rank
    exact ro_y01b h _ _ cs hs un ey ry oy fy (br_f (by decide) ⟨rfl, ro_rel h2 h5 hE hX hY _ _ _ _ _ _ _ _ _⟩)
  · obtain ⟨p1, p2, p3⟩ := hE e he
    refine ro_x01 he _ _ el ic er ra rb rm sm ma mb (br_f (by decide) ⟨vp_in_nI he (by decide), ?_⟩)
    unfold wpY_rank
    refine ro_y01 he _ _ cs hs un ey ry oy fy (br_t rfl ⟨vp_in_nI he (by decide), ?_, ro_rel h2 h5 hE hX hY _ _ _ _ _ _ _ _ _⟩)
    rw [nI_clamp (by omega), p2, p3]
theorem i_vc_permutation {k : Nat} {u : SX} {v : SY} (I : i_Rel k u v) (hk : k + 4 ≤ 2049) (v1 : Int32) : wpX_permutation (fun r u' => wpY_permutation (fun r' => r' = r ∧ i_Rel (k + 4) u' v) v v1) u v1 := by
  obtain ⟨n, pq, el, ic, er, ra, rb, rm, sm, ma, mb, cs, hs, un, ey, ry, oy, fy, h2, h5, hE, hX, hY, rfl, rfl⟩ := I
  have hc := ro_c120 n
  rcases pk_ix v1 (n := ro_fc n) (by omega) with h | h | ⟨j, hj, rfl⟩
  · exact br_t h (br_t h ⟨rfl, ro_rel h2 h5 hE hX hY _ _ _ _ _ _ _ _ _⟩)
  · have h0 : ¬ v1 < 0 := fun z => absurd (Int32.lt_of_le_of_lt h z) (nI_pos (by omega))
    have h1 : ¬ v1 < nI (ro_fc n) := Int32.not_lt.mpr h
    exact br_f h0 (br_f h1 (br_f h0 (br_f h1 ⟨rfl, ro_rel h2 h5 hE hX hY _ _ _ _ _ _ _ _ _⟩)))
  · have h0 : ¬ nI j < 0 := nI_pos (by omega)
    have h1 : nI j < nI (ro_fc n) := nI_lt hj (by omega)
    refine br_f h0 (br_t h1 (ro_xcode h2 h5 hj _ _ el ic er ra rb rm sm ma mb (fun t => br_f h0 (br_t h1 ⟨vp_in_nI (by omega) (by decide), ?_, ro_rel h2 h5 hE hX hY _ _ _ _ _ _ _ _ _⟩))))
    rw [nI_clamp (by omega)]; exact hY.1 _ hj
theorem i_vc_put {k : Nat} {u : SX} {v : SY} (I : i_Rel k u v) (hk : k + 4 ≤ 2049) (v1 : Int32) (v2 : Int32) : wpX_put (fun r u' => wpY_put (fun r' v' => r' = r ∧ i_Rel (k + 4) u' v') v v1 v2) u v1 v2 := by
  obtain ⟨n, pq, el, ic, er, ra, rb, rm, sm, ma, mb, cs, hs, un, ey, ry, oy, fy, h2, h5, hE, hX, hY, rfl, rfl⟩ := I
  have hc := ro_c120 n
  unfold wpX_put
  rcases ro_ar v1 (n := 2) (by decide) with h | ⟨e, he, rfl⟩
  · refine ro_x01b h _ _ el ic er ra rb rm sm ma mb (br_t rfl ?_)
    unfold wpY_put
    exact ro_y01b h _ _ cs hs un ey ry oy fy (br_f (by decide) ⟨rfl, ro_rel h2 h5 hE hX hY _ _ _ _ _ _ _ _ _⟩)
  · refine ro_x01 he _ _ el ic er ra rb rm sm ma mb (br_f (by decide) ?_)
    refine ro_xread h2 h5 v2 _ _ el ic er ra rb rm sm ma mb (fun t hn => br_t rfl ?_) (fun t c hc1 hkc hC ht => br_f (by decide) ?_)
    · unfold wpY_put
      refine ro_y01 he _ _ cs hs un ey ry oy fy (br_t rfl ?_)
      exact ro_yfi h2 h5 _ cs hs un ey ry oy fy rfl hY.1 v2 _ (fun k hk z => absurd z (hn k hk)) (fun _ => br_f (by decide) ⟨rfl, ro_rel h2 h5 hE hX hY _ _ _ _ _ _ _ _ _⟩)
    · refine ro_xkeep h5 (r := ro_dr n c) (fun j hj => Nat.lt_trans (Nat.mod_lt _ (by decide)) (by decide)) _ el ic er ra rb t sm ma mb ht hkc hX he _ ?_
      unfold wpY_put
      refine ro_y01 he _ _ cs hs un ey ry oy fy (br_t rfl ?_)
      have hcb := ro_fC h2 h5 hkc
      rw [hC] at hcb
      refine ro_yfi h2 h5 _ cs hs un ey ry oy fy rfl hY.1 v2 _ (fun k hk z => ?_) (fun z => absurd (show v2 = nI (ro_C n (ro_kc n c)) by rw [hC]; exact hc1) (z _ hkc))
      rw [hc1] at z
      have hkb := ro_fC h2 h5 hk
      have z1 := (nI_eq (by omega) (by omega)).mp z
      rw [← hC] at z1
      have z2 := ro_Cinj h2 h5 hkc hk z1
      refine br_t (nI_pos' (by omega)) ⟨vp_in_nI he (by decide), nm_e ⟨rfl, ?_⟩⟩
      rw [nI_clamp (by omega), ← z2]
      exact ro_rel h2 h5 (ro_EleU hE hkc e) hX hY _ _ _ _ _ _ _ _ _
