/-! Y: rows, codes, exchanges -/
theorem ro_q31 : ∀ n, 2 ≤ n → n ≤ 5 → ro_all (fun k => ro_all (fun j => Nat.beq (ro_dr n (ro_C n k) j) (ro_R n k j)) n) (ro_fc n) = true :=
  ro_n4 _ (by decide +kernel) (by decide +kernel) (by decide +kernel) (by decide +kernel)
theorem ro_f31 {n : Nat} (h2 : 2 ≤ n) (h5 : n ≤ 5) {k : Nat} (hk : k < ro_fc n) {j : Nat} (hj : j < n) : ro_dr n (ro_C n k) j = ro_R n k j :=
  ro_beq (ro_all_s _ (ro_all_s _ (ro_q31 n h2 h5) k hk) j hj)
theorem ro_fC {n : Nat} (h2 : 2 ≤ n) (h5 : n ≤ 5) {k : Nat} (hk : k < ro_fc n) : ro_C n k < 100000 :=
  Nat.lt_of_lt_of_le (ro_f7 h2 h5 hk).2.2 (ro_p10 h5)
theorem ro_m10' (x y : Nat) : 10 * nI x + nI y = nI (x * 10 + y) := by
  rw [show (10 : Int32) = nI 10 from rfl, pk_mul, nI_add, Nat.mul_comm]
theorem ro_ysp {n : Nat} (h2 : 2 ≤ n) (h5 : n ≤ 5) {c : Nat} (hc : c < 2 ^ 31) (post : SY → Prop) (gM : Int32) (cs hs un ey ry oy fy : Nat → Int32)
    (H : ∀ t : Nat → Int32, (∀ j, j < n → t j = nI (ro_dr n c j)) → post (nI n, gM, cs, hs, un, ey, t, oy, fy)) : wpY_spread post (nI n, gM, cs, hs, un, ey, ry, oy, fy) (nI c) := by
  have g : ∀ i x ry, i ≤ n → x < 2 ^ 31 → (∀ t : Nat → Int32, (∀ j, j < i → t j = nI (x / 10 ^ (i - 1 - j) % 10)) → (∀ j, i ≤ j → t j = ry j) → post (nI n, gM, cs, hs, un, ey, t, oy, fy)) → wY_spread_9 post (nI n) gM (i + 1) (nI x) (nI i + (-1)) cs hs un ey ry oy fy := by
    intro i
    induction i with
    | zero =>
      intro x ry hi hx H
      exact br_t (show nI 0 + (-1) < 0 by decide) (H ry (fun j hj => by omega) (fun j hj => rfl))
    | succ i ih =>
      intro x ry hi hx H
      rw [pk_m1]
      have ci : (nI i).toNatClampNeg = i := nI_clamp (by omega)
      refine br_f (nI_pos (by omega)) ⟨ro_n10, vp_in_nI (by omega) (by omega), nm_r (show upd ry (nI i).toNatClampNeg (nI x - nI x / 10 * 10) = upd ry i (nI (x % 10)) from by rw [ci, ro_r10 hx]) ⟨ro_n10, nm_r (ro_d10 hx) (nm_e ?_)⟩⟩
      refine ih (x / 10) (upd ry i (nI (x % 10))) (by omega) (by omega) (fun t h1 h3 => H t (fun j hj => ?_) (fun j hj => ?_))
      · by_cases q : j = i
        · rw [h3 j (by omega), q, pk_us, show i + 1 - 1 - i = 0 by omega]
          simp
        · rw [h1 j (by omega), show i + 1 - 1 - j = (i - 1 - j) + 1 by omega, Nat.pow_succ, Nat.mul_comm, ← Nat.div_div_eq_div_mul]
      · rw [h3 j (by omega), pk_un (by omega)]
  refine nm_r (show nI n - 1 = nI n + (-1) from Int32.sub_eq_add_neg _ _) ⟨n + 1, g n c ry (Nat.le_refl n) hc (fun t h1 h3 => H t h1)⟩
theorem ro_yci {n : Nat} (h5 : n ≤ 5) {r : Nat → Nat} (hr : ∀ j, j < n → r j < 100) (gM : Int32) (cs hs un ey ry oy fy : Nat → Int32) (e : ∀ j, j < n → ry j = nI (r j)) (post : Int32 → Prop) (H : post (nI (ro_iv r n n))) : wpY_countInversions post (nI n, gM, cs, hs, un, ey, ry, oy, fy) := by
  have f : ∀ (J : Int32 → Int32 → Prop) i, i < n → J (nI (ro_iv r n (i + 1))) (nI (i + 1)) → ∀ d j, j + d = n → i < j → wY_countInversions_16 post J (nI i) (nI n) gM cs hs un ey ry oy fy (d + 1) (nI (ro_iv r n i + ro_ct r i j)) (nI j) := by
    intro J i hi HJ d
    induction d with
    | zero =>
      intro j hj hij
      have : j = n := by omega
      rw [this]
      exact br_t (nI_le (by omega) (by omega)) (nm_r (nI_1 i) HJ)
    | succ d ih =>
      intro j hj hij
      have h1 := hr j (by omega)
      have h3 := hr i hi
      refine br_f (nI_ge (by omega) (by omega)) ⟨vp_in_nI (by omega) (by omega), vp_in_nI (by omega) (by omega), ?_⟩
      refine pk_le (r i) (r j) (fun h => nm_r (nI_1 j) ?_) (fun h => nm_r (nI_1 _) (nm_r (nI_1 j) ?_)) (by rw [nI_clamp (by omega)]; exact e i hi) (by rw [nI_clamp (by omega)]; exact e j (by omega))
      · rw [← ro_cts0 hij h]; exact ih (j + 1) (by omega) (by omega)
      · rw [Nat.add_assoc, ← ro_cts1 hij h]; exact ih (j + 1) (by omega) (by omega)
  have g : ∀ d i, i + d = n → wY_countInversions_4 post (nI n) gM cs hs un ey ry oy fy (d + 1) (nI (ro_iv r n i)) (nI i) := by
    intro d
    induction d with
    | zero =>
      intro i hi
      have : i = n := by omega
      rw [this]
      exact br_t (nI_le (by omega) (by omega)) H
    | succ d ih =>
      intro i hi
      refine br_f (nI_ge (by omega) (by omega)) (nm_r (nI_1 i) ⟨n - (i + 1) + 1, ?_⟩)
      have h := f (wY_countInversions_4 post (nI n) gM cs hs un ey ry oy fy (d + 1)) i (by omega) (ih (i + 1) (by omega)) (n - (i + 1)) (i + 1) (by omega) (by omega)
      rw [ro_ct0 r i (i + 1) (by omega)] at h
      exact h
  exact ⟨n + 1, g n 0 (by omega)⟩
theorem ro_yfi {n : Nat} (h2 : 2 ≤ n) (h5 : n ≤ 5) (gM : Int32) (cs hs un ey ry oy fy : Nat → Int32) (hM : gM = nI (ro_fc n)) (hT : ∀ k, k < ro_fc n → cs k = nI (ro_C n k)) (x : Int32) (post : Int32 → Prop) (H1 : ∀ k, k < ro_fc n → x = nI (ro_C n k) → post (nI k)) (H0 : (∀ k, k < ro_fc n → x ≠ nI (ro_C n k)) → post (-1)) : wpY_find post (nI n, gM, cs, hs, un, ey, ry, oy, fy) x := by
  subst hM
  have hc := ro_c120 n
  have g : ∀ d k, k + d = ro_fc n → (∀ k', k' < k → x ≠ nI (ro_C n k')) → wY_find_2 post x (nI n) (nI (ro_fc n)) cs hs un ey ry oy fy (d + 1) (nI k) := by
    intro d
    induction d with
    | zero =>
      intro k hk e
      have : k = ro_fc n := by omega
      rw [this] at e ⊢
      exact br_t (nI_le (by omega) (by omega)) (H0 e)
    | succ d ih =>
      intro k hk e
      refine br_f (nI_ge (by omega) (by omega)) ⟨vp_in_nI (by omega) (by omega), ?_⟩
      rw [nI_clamp (by omega), hT k (by omega)]
      refine br_c (fun z => H1 k (by omega) z.symm) (fun z => nm_r (nI_1 k) (ih (k + 1) (by omega) (fun k' hk' => ?_)))
      by_cases q : k' = k
      · rw [q]; exact fun w => z w.symm
      · exact e k' (by omega)
  exact ⟨ro_fc n + 1, g (ro_fc n) 0 (by omega) (fun k' h => by omega)⟩
theorem ro_ypl {n : Nat} (h2 : 2 ≤ n) (h5 : n ≤ 5) {r : Nat → Nat} (gM : Int32) (cs hs un ey ry oy fy : Nat → Int32) (hM : gM = nI (ro_fc n)) (hT : ∀ k, k < ro_fc n → cs k = nI (ro_C n k)) (e : ∀ j, j < n → ry j = nI (r j)) {k : Nat} (hk : k < ro_fc n) (hr : ro_cd r n = ro_C n k) (post : Int32 → Prop) (H : post (nI k)) : wpY_place post (nI n, gM, cs, hs, un, ey, ry, oy, fy) := by
  have g : ∀ d i, i + d = n → wY_place_4 post (nI n) gM cs hs un ey ry oy fy (d + 1) (nI (ro_cd r i)) (nI i) := by
    intro d
    induction d with
    | zero =>
      intro i hi
      have : i = n := by omega
      rw [this, hr]
      refine br_t (nI_le (by omega) (by omega)) ?_
      refine ro_yfi h2 h5 gM cs hs un ey ry oy fy hM hT _ _ (fun k' hk' z => ?_) (fun z => absurd rfl (z k hk))
      have h1 := ro_fC h2 h5 hk
      have h3 := ro_fC h2 h5 hk'
      rw [← ro_Cinj h2 h5 hk hk' ((nI_eq (by omega) (by omega)).mp z)]
      exact H
    | succ d ih =>
      intro i hi
      refine br_f (nI_ge (by omega) (by omega)) ⟨vp_in_nI (by omega) (by omega), nm_r (show 10 * nI (ro_cd r i) + ry (nI i).toNatClampNeg = nI (ro_cd r (i + 1)) from by rw [nI_clamp (by omega), e i (by omega), ro_m10']; rfl) (nm_r (nI_1 i) (ih (i + 1) (by omega)))⟩
  exact ⟨n + 1, g n 0 (by omega)⟩
theorem ro_yex {n : Nat} (h2 : 2 ≤ n) (h5 : n ≤ 5) {k i j : Nat} (hk : k < ro_fc n) (hi : i < n) (hj : j < n) (post : Int32 → SY → Prop) (gM : Int32) (cs hs un ey ry oy fy : Nat → Int32) (hM : gM = nI (ro_fc n)) (hT : ∀ k, k < ro_fc n → cs k = nI (ro_C n k))
    (H : ∀ t : Nat → Int32, post (nI (ro_E n k i j)) (nI n, gM, cs, hs, un, ey, t, oy, fy)) : wpY_exchanged post (nI n, gM, cs, hs, un, ey, ry, oy, fy) (nI k) (nI i) (nI j) := by
  have hc := ro_c120 n
  have hC := ro_fC h2 h5 hk
  have ii : vp_in (nI i) 5 := vp_in_nI (by omega) (by omega)
  have ij : vp_in (nI j) 5 := vp_in_nI (by omega) (by omega)
  have ci : (nI i).toNatClampNeg = i := nI_clamp (by omega)
  have cj : (nI j).toNatClampNeg = j := nI_clamp (by omega)
  refine ⟨vp_in_nI (by omega) (by decide), ?_⟩
  rw [show cs (nI k).toNatClampNeg = nI (ro_C n k) from by rw [nI_clamp (by omega)]; exact hT k hk]
  refine ro_ysp h2 h5 (by omega) _ gM cs hs un ey ry oy fy (fun t ht => ?_)
  have ht' : ∀ j, j < n → t j = nI (ro_R n k j) := fun j hj => by rw [ht j hj, ro_f31 h2 h5 hk hj]
  refine ⟨ii, nm_e ⟨ij, ii, nm_e ⟨ij, nm_e ?_⟩⟩⟩
  rw [ci, cj]
  have f := ro_f5 h2 h5 hk hi hj
  have g := ro_gdd f.2
  rw [f.1] at g
  exact ro_ypl h2 h5 gM cs hs un ey (upd (upd t i (t j)) j (t i)) oy fy hM hT (ro_swE ht' hi hj) g.1 g.2 _ (H _)
theorem ro_ykeep {n : Nat} (h2 : 2 ≤ n) (h5 : n ≤ 5) {r : Nat → Nat} (gM : Int32) (cs hs un ey ry oy fy : Nat → Int32) (hM : gM = nI (ro_fc n)) (hT : ∀ k, k < ro_fc n → cs k = nI (ro_C n k)) (hH : ∀ k, k < ro_fc n → hs k = nI (ro_H n k)) (e : ∀ j, j < n → ry j = nI (r j)) (hr : ro_gd n r = true) {d : Nat} (hd : d < 2) (post : Int32 → SY → Prop)
    (H : post (nI (ro_H n (ro_rk r n n))) (nI n, gM, cs, hs, un, (upd ey d (nI (ro_rk r n n))), ry, oy, fy)) : wpY_keep post (nI n, gM, cs, hs, un, ey, ry, oy, fy) (nI d) := by
  have hc := ro_c120 n
  have g := ro_gdd hr
  have id : vp_in (nI d) 2 := vp_in_nI hd (by decide)
  refine ro_ypl h2 h5 gM cs hs un ey ry oy fy hM hT e g.1 g.2 _ ?_
  refine ⟨id, nm_e ⟨id, ?_⟩⟩
  rw [nI_clamp (show d < 2 ^ 31 by omega), pk_us]
  refine ⟨vp_in_nI (by omega) (by decide), ?_⟩
  rw [nI_clamp (by omega), hH _ g.1]
  exact H
theorem ro_ynr {n : Nat} {o i j : Nat} (ho : o < 2) (hi : i < 100) (hj : j < 100) (post : Int32 → Prop) (gM : Int32) (cs hs un ey ry oy fy : Nat → Int32) (H1 : ro_nr o i j = true → post 1) (H0 : ro_nr o i j = false → post 0) : wpY_near post (nI n, gM, cs, hs, un, ey, ry, oy, fy) (nI o) (nI i) (nI j) := by
  refine pk_le j i (fun h => H0 ?_) (fun h => ?_)
  · unfold ro_nr; rw [ro_nble (Nat.lt_succ_of_le h)]; rfl
  · have e : ro_nr o i j = cond (Nat.beq o 0) true (Nat.beq j (i + 1)) := by
      unfold ro_nr; rw [Nat.ble_eq_true_of_le h]; rfl
    refine pk_eq o 0 (fun q => H1 ?_) (fun q => ?_)
    · rw [e, ro_be q]; rfl
    · rw [ro_nbeq q] at e
      rw [nI_1]
      refine pk_eq j (i + 1) (fun p => H1 ?_) (fun p => H0 ?_)
      · rw [e]; exact ro_be p
      · rw [e]; exact ro_nbeq p
theorem ro_ix {n i j : Nat} (hj : j < n) : (i * n + j) / n = i ∧ (i * n + j) % n = j := by
  constructor
  · rw [Nat.add_comm, Nat.add_mul_div_right _ _ (by omega), Nat.div_eq_of_lt hj, Nat.zero_add]
  · rw [Nat.add_comm, Nat.add_mul_mod_self_right, Nat.mod_eq_of_lt hj]
def ro_TY (n : Nat) (cs hs un : Nat → Int32) : Prop := (∀ k, k < ro_fc n → cs k = nI (ro_C n k)) ∧ (∀ k, k < ro_fc n → hs k = nI (ro_H n k)) ∧ (∀ o, o < 2 → ∀ p, p < ro_fc n → ∀ q, q < ro_fc n → un (14400 * o + 120 * p + q) = ro_bt (ro_U n o p) q)
/-! Y: the climbs -/
def ro_um (n : Nat) (un : Nat → Int32) (b m : Nat) : Prop := ∀ j, j < ro_fc n → un (b + j) = ro_bt m j
theorem ro_um1 {n b m t : Nat} {un : Nat → Int32} (h : ro_um n un b m) : ro_um n (upd un (b + t) (vp_nar .boolean 1)) b (m ||| 1 <<< t) := by
  intro j hj
  rw [ro_narB 1 (Or.inr rfl)]
  refine ro_u (fun q => ?_) (fun q => ?_)
  · refine (ro_bt1 ?_).symm
    rw [ro_tbo, ro_tb1, show j = t by omega]; simp
  · rw [h j hj]
    unfold ro_bt
    rw [ro_tbo, ro_tb1, decide_eq_false (show ¬ j = t by omega), Bool.or_false]
theorem ro_gyS (n o k x : Nat) : ro_gy n o k (x + 1) = cond (ro_nr o (x / n) (x % n)) (cond (Nat.ble (ro_H n k + 1) (ro_H n (ro_f n k x))) (ro_gy n o k x ||| 1 <<< ro_f n k x) (ro_gy n o k x)) (ro_gy n o k x) := rfl
section
variable {n : Nat} {o q b m : Nat} (gM : Int32) (cs hs ey oy fy : Nat → Int32) (un0 : Nat → Int32)
theorem ro_ycf15 (h2 : 2 ≤ n) (h5 : n ≤ 5) (hq : q < ro_fc n) (ho : o < 2) (hb : b + 120 ≤ 28800) (hM : gM = nI (ro_fc n)) (hT : ∀ k, k < ro_fc n → cs k = nI (ro_C n k)) (hH : ∀ k, k < ro_fc n → hs k = nI (ro_H n k)) {i : Nat} (hi : i < n) (post : SY → Prop) (J3 : Int32 → Int32 → Int32 → (Nat → Int32) → (Nat → Int32) → (Nat → Int32) → (Nat → Int32) → (Nat → Int32) → (Nat → Int32) → (Nat → Int32) → Prop)
    (HJ : ∀ un ry, ro_um n un b (m ||| ro_gy n o q ((i + 1) * n)) → (∀ x, x < b ∨ b + ro_fc n ≤ x → un x = un0 x) → J3 (nI (i + 1)) (nI n) gM cs hs un ey ry oy fy) :
    ∀ d j un ry, j + d = n → ro_um n un b (m ||| ro_gy n o q (i * n + j)) → (∀ x, x < b ∨ b + ro_fc n ≤ x → un x = un0 x) → wY_climbFrom_15 post J3 (nI o) (nI b) (nI q) (nI i) (d + 1) (nI j) (nI n) gM cs hs un ey ry oy fy := by
  have hc := ro_c120 n
  intro d
  induction d with
  | zero =>
    intro j un ry hj e1 e2
    have : i * n + j = (i + 1) * n := by rw [Nat.succ_mul]; omega
    rw [this] at e1
    exact br_t (nI_le (by omega) (by omega)) (nm_r (nI_1 i) (HJ un ry e1 e2))
  | succ d ih =>
    intro j un ry hj e1 e2
    have ix := ro_ix (n := n) (i := i) (j := j) (by omega)
    have eS := ro_gyS n o q (i * n + j)
    have hf : ro_f n q (i * n + j) = ro_E n q i j := by unfold ro_f; rw [ix.1, ix.2]
    rw [ix.1, ix.2, hf] at eS
    have hE := ro_fE h2 h5 hq hi (j := j) (by omega)
    have p1 := (ro_f2 h2 h5 hq).2.2.2.1
    have p2 := (ro_f2 h2 h5 hE).2.2.2.1
    refine br_f (nI_ge (by omega) (by omega)) ?_
    refine ro_ynr ho (by omega) (by omega) _ gM cs hs un ey ry oy fy (fun z => br_f (by decide) ?_) (fun z => br_t rfl (nm_r (nI_1 j) (ih (j + 1) un ry (by omega) ?_ e2)))
    · refine ro_yex h2 h5 hq hi (by omega) _ gM cs hs un ey ry oy fy hM hT (fun t => ?_)
      refine ⟨vp_in_nI (by omega) (by decide), vp_in_nI (by omega) (by decide), ?_⟩
      rw [z] at eS
      refine pk_le (ro_H n (ro_E n q i j)) (ro_H n q) (fun h => nm_r (nI_1 j) (ih (j + 1) un t (by omega) ?_ e2)) (fun h => ?_) (by rw [nI_clamp (by omega)]; exact hH _ hE) (by rw [nI_clamp (by omega)]; exact hH _ hq)
      · rw [ro_nble (show ro_H n (ro_E n q i j) < ro_H n q + 1 by omega)] at eS
        rw [← Nat.add_assoc, eS]; exact e1
      · rw [Nat.ble_eq_true_of_le h] at eS
        rw [nI_add]
        refine ⟨vp_in_nI (by omega) (by decide), nm_e (nm_r (nI_1 j) (ih (j + 1) _ t (by omega) ?_ ?_))⟩
        · rw [nI_clamp (by omega), ← Nat.add_assoc, eS]
          show ro_um n _ b (m ||| (ro_gy n o q (i * n + j) ||| 1 <<< ro_E n q i j))
          rw [← Nat.or_assoc]; exact ro_um1 e1
        · intro x hx
          rw [nI_clamp (by omega)]
          exact ro_u (fun w => by omega) (fun _ => e2 x hx)
    · rw [z] at eS
      rw [← Nat.add_assoc, eS]; exact e1
theorem ro_ycf (h2 : 2 ≤ n) (h5 : n ≤ 5) (hq : q < ro_fc n) (ho : o < 2) (hb : b + 120 ≤ 28800) (hM : gM = nI (ro_fc n)) (hT : ∀ k, k < ro_fc n → cs k = nI (ro_C n k)) (hH : ∀ k, k < ro_fc n → hs k = nI (ro_H n k)) (post : SY → Prop) (un ry : Nat → Int32) (hu : ro_um n un b m)
    (H : ∀ t s, ro_um n t b (m ||| ro_G n o q) → (∀ x, x < b ∨ b + ro_fc n ≤ x → t x = un x) → post (nI n, gM, cs, hs, t, ey, s, oy, fy)) : wpY_climbFrom post (nI n, gM, cs, hs, un, ey, ry, oy, fy) (nI o) (nI b) (nI q) := by
  have g : ∀ d i t s, i + d = n → ro_um n t b (m ||| ro_gy n o q (i * n)) → (∀ x, x < b ∨ b + ro_fc n ≤ x → t x = un x) → wY_climbFrom_3 post (nI o) (nI b) (nI q) (d + 1) (nI i) (nI n) gM cs hs t ey s oy fy := by
    intro d
    induction d with
    | zero =>
      intro i t s hi e1 e2
      have : i = n := by omega
      rw [this, (ro_f9 h2 h5 hq ho).1] at e1
      exact br_t (nI_le (by omega) (by omega)) (H t s e1 e2)
    | succ d ih =>
      intro i t s hi e1 e2
      refine br_f (nI_ge (by omega) (by omega)) ⟨n + 1, ?_⟩
      exact ro_ycf15 gM cs hs ey oy fy un h2 h5 hq ho hb hM hT hH (by omega) post _ (fun t' s' a c => ih (i + 1) t' s' (by omega) a c) n 0 t s (by omega) e1 e2
  exact ⟨n + 1, g n 0 un ry (by omega) (by rw [Nat.zero_mul, show ro_gy n o q 0 = 0 from rfl, ro_or0]; exact hu) (fun x hx => rfl)⟩
theorem ro_ycl (h2 : 2 ≤ n) (h5 : n ≤ 5) {p : Nat} (hp : p < ro_fc n) (ho : o < 2) (hM : gM = nI (ro_fc n)) (hT : ∀ k, k < ro_fc n → cs k = nI (ro_C n k)) (hH : ∀ k, k < ro_fc n → hs k = nI (ro_H n k)) (post : SY → Prop) (un ry : Nat → Int32) (hu : ∀ j, j < ro_fc n → un (14400 * o + 120 * p + j) = 0)
    (H : ∀ t s, (∀ j, j < ro_fc n → t (14400 * o + 120 * p + j) = ro_bt (ro_U n o p) j) → (∀ x, x < 14400 * o + 120 * p ∨ 14400 * o + 120 * p + ro_fc n ≤ x → t x = un x) → post (nI n, gM, cs, hs, t, ey, s, oy, fy)) : wpY_climb post (nI n, gM, cs, hs, un, ey, ry, oy, fy) (nI o) (nI p) := by
  subst hM
  have hc := ro_c120 n
  have eb : 14400 * nI o + 120 * nI p = nI (14400 * o + 120 * p) := by
    rw [show (14400 : Int32) = nI 14400 from rfl, show (120 : Int32) = nI 120 from rfl, pk_mul, pk_mul, nI_add]
  have hb : 14400 * o + 120 * p + 120 ≤ 28800 := by omega
  generalize 14400 * o + 120 * p = b at hu H eb hb
  have f : ∀ (J : Int32 → Int32 → Int32 → (Nat → Int32) → (Nat → Int32) → (Nat → Int32) → (Nat → Int32) → (Nat → Int32) → (Nat → Int32) → (Nat → Int32) → Prop) h, h < 10 → ∀ z, (∀ t s m, ro_cq n o h 0 m = z → ro_um n t b m → (∀ x, x < b ∨ b + ro_fc n ≤ x → t x = un x) → J (nI (h + 1)) (nI n) (nI (ro_fc n)) cs hs t ey s oy fy) → ∀ r q t s m, q + r = ro_fc n → ro_cq n o h r m = z → ro_um n t b m → (∀ x, x < b ∨ b + ro_fc n ≤ x → t x = un x) → wY_climb_38 post J (nI o) (nI b) (nI h) (r + 1) (nI q) (nI n) (nI (ro_fc n)) cs hs t ey s oy fy := by
    intro J h hh z HJ r
    induction r with
    | zero =>
      intro q t s m hq e0 e1 e2
      exact br_t (nI_le (by omega) (by omega)) (nm_r (nI_1 h) (HJ t s m e0 e1 e2))
    | succ r ih =>
      intro q t s m hq e0 e1 e2
      have e0' : ro_cq n o h r (cond (ro_tb m (ro_fc n - (r + 1))) (cond (Nat.beq (ro_H n (ro_fc n - (r + 1))) h) (m ||| ro_G n o (ro_fc n - (r + 1))) m) m) = z := e0
      rw [show ro_fc n - (r + 1) = q by omega] at e0'
      have hqc : q < ro_fc n := by omega
      have p1 := (ro_f2 h2 h5 hqc).2.2.2.1
      refine br_f (nI_ge (by omega) (by omega)) ?_
      rw [nI_add]
      refine ⟨vp_in_nI (by omega) (by decide), ?_⟩
      rw [nI_clamp (by omega), e1 q hqc, ro_btz]
      refine br_c (fun w => nm_r (nI_1 q) (ih (q + 1) t s m (by omega) ?_ e1 e2)) (fun w => ⟨vp_in_nI (by omega) (by decide), ?_⟩)
      · rw [w] at e0'; exact e0'
      · have w' : ro_tb m q = true := by
          cases v : ro_tb m q with
          | true => rfl
          | false => exact absurd v w
        rw [w'] at e0'
        refine pk_eq (ro_H n q) h (fun v => ?_) (fun v => nm_r (nI_1 q) (ih (q + 1) t s m (by omega) ?_ e1 e2)) (by rw [nI_clamp (by omega)]; exact hH q hqc)
        · rw [ro_be v] at e0'
          refine ro_ycf _ cs hs ey oy fy h2 h5 hqc ho hb rfl hT hH _ t s e1 (fun t' s' a c => nm_r (nI_1 q) (ih (q + 1) t' s' _ (by omega) e0' a (fun x hx => ?_)))
          rw [c x hx]; exact e2 x hx
        · rw [ro_nbeq v] at e0'; exact e0'
  have g : ∀ r h t s m, h + r = 10 → ro_cl n o r m = ro_U n o p → ro_um n t b m → (∀ x, x < b ∨ b + ro_fc n ≤ x → t x = un x) → wY_climb_28 post (nI o) (nI b) (r + 1) (nI h) (nI n) (nI (ro_fc n)) cs hs t ey s oy fy := by
    intro r
    induction r with
    | zero =>
      intro h t s m hh e0 e1 e2
      have e0' : m = ro_U n o p := e0
      rw [e0'] at e1
      exact br_t (show nI 10 ≤ nI h from nI_le (by omega) (by omega)) (H t s e1 e2)
    | succ r ih =>
      intro h t s m hh e0 e1 e2
      have e0' : ro_cl n o r (ro_cq n o (10 - (r + 1)) (ro_fc n) m) = ro_U n o p := e0
      rw [show 10 - (r + 1) = h by omega] at e0'
      refine br_f (show ¬ nI 10 ≤ nI h from nI_ge (by omega) (by omega)) ⟨ro_fc n + 1, ?_⟩
      refine f _ h (by omega) (ro_cq n o h (ro_fc n) m) (fun t' s' m' c0 c1 c2 => ?_) (ro_fc n) 0 t s m (by omega) rfl e1 e2
      have c0' : m' = ro_cq n o h (ro_fc n) m := c0
      rw [c0'] at c1
      exact ih (h + 1) t' s' _ (by omega) e0' c1 c2
  have p1 := (ro_f2 h2 h5 hp).2.2.2.1
  refine nm_r eb ?_
  rw [nI_add]
  refine ⟨vp_in_nI (by omega) (by decide), nm_e ⟨vp_in_nI (by omega) (by decide), nm_r (show hs (nI p).toNatClampNeg = nI (ro_H n p) from by rw [nI_clamp (by omega)]; exact hH p hp) ⟨10 - ro_H n p + 1, ?_⟩⟩⟩
  rw [nI_clamp (by omega)]
  refine g (10 - ro_H n p) (ro_H n p) _ ry (1 <<< p) (by omega) (ro_f22 h2 h5 ho hp) ?_ ?_
  · have h0 : ro_um n un b 0 := fun j hj => by rw [hu j hj, ro_bt0 (ro_tb0 j)]
    have h1 := ro_um1 (t := p) h0
    rw [Nat.zero_or] at h1
    exact h1
  · intro x hx
    exact ro_u (fun w => by omega) (fun _ => rfl)
end
