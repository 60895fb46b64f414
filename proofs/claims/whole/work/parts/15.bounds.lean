/-! meet and join -/
theorem ro_b01 (m j : Nat) : ro_bt m j = 0 ∨ ro_bt m j = 1 := by
  unfold ro_bt
  cases ro_tb m j
  · exact Or.inl rfl
  · exact Or.inr rfl
section
variable {n a b : Nat} (gM : Int32) (cs hs un ey ry oy fy : Nat → Int32)
theorem ro_ycm1 (h2 : 2 ≤ n) (h5 : n ≤ 5) (ha : a < ro_fc n) (hb : b < ro_fc n) (hY : ro_TY n cs hs un) (e0 : ey 0 = nI a) (e1 : ey 1 = nI b) {m : Nat} (hm : m < ro_fc n) (post : Int32 → Prop) (H1 : ro_tb (ro_D n 1 a) m = true → ro_tb (ro_D n 1 b) m = true → post 1) (H0 : ¬ (ro_tb (ro_D n 1 a) m = true ∧ ro_tb (ro_D n 1 b) m = true) → post 0) : wpY_common post (nI n, gM, cs, hs, un, ey, ry, oy, fy) (nI m) 1 := by
  unfold wpY_common
  dsimp only
  rw [e0, e1]
  refine br_f (by decide) ?_
  refine ro_yib (o := 1) (by decide) hm ha _ _ cs hs un ey ry oy fy hY ?_
  rw [ro_btz, ← ro_f23 h2 h5 (by decide) ha hm]
  refine br_c (fun z => H0 (fun w => by rw [w.1] at z; exact absurd z (by decide))) (fun z => ?_)
  refine ro_yib (o := 1) (by decide) hm hb _ _ cs hs un ey ry oy fy hY ?_
  rw [ro_btz, ← ro_f23 h2 h5 (by decide) hb hm]
  exact br_c (fun z' => H0 (fun w => by rw [w.2] at z'; exact absurd z' (by decide))) (fun z' => H1 (ro_ntf z) (ro_ntf z'))
theorem ro_ycm0 (h2 : 2 ≤ n) (h5 : n ≤ 5) (ha : a < ro_fc n) (hb : b < ro_fc n) (hY : ro_TY n cs hs un) (e0 : ey 0 = nI a) (e1 : ey 1 = nI b) {m : Nat} (hm : m < ro_fc n) (post : Int32 → Prop) (H1 : ro_tb (ro_U n 1 a) m = true → ro_tb (ro_U n 1 b) m = true → post 1) (H0 : ¬ (ro_tb (ro_U n 1 a) m = true ∧ ro_tb (ro_U n 1 b) m = true) → post 0) : wpY_common post (nI n, gM, cs, hs, un, ey, ry, oy, fy) (nI m) 0 := by
  unfold wpY_common
  dsimp only
  rw [e0, e1]
  refine br_t rfl ?_
  refine ro_yib (o := 1) (by decide) ha hm _ _ cs hs un ey ry oy fy hY ?_
  rw [ro_btz]
  refine br_c (fun z => H0 (fun w => by rw [w.1] at z; exact absurd z (by decide))) (fun z => ?_)
  refine ro_yib (o := 1) (by decide) hb hm _ _ cs hs un ey ry oy fy hY ?_
  rw [ro_btz]
  exact br_c (fun z' => H0 (fun w => by rw [w.2] at z'; exact absurd z' (by decide))) (fun z' => H1 (ro_ntf z) (ro_ntf z'))
end
theorem ro_ybd23_1 {n a b : Nat} (h2 : 2 ≤ n) (h5 : n ≤ 5) (ha : a < ro_fc n) (hb : b < ro_fc n) (gM : Int32) (cs hs un ey ry oy fy : Nat → Int32) (hM : gM = nI (ro_fc n)) (hY : ro_TY n cs hs un) (e0 : ey 0 = nI a) (e1 : ey 1 = nI b) (post : Int32 → SY → Prop) (J4 : Int32 → Int32 → Prop) (x2 : Int32) {k : Nat} (hk : k < ro_fc n)
    (H1 : (∀ m, m < ro_fc n → ro_tb (ro_D n 1 a) m = true → ro_tb (ro_D n 1 b) m = true → ro_tb (ro_U n 1 m) k = true) → J4 (nI k) (nI (k + 1)))
    (H0 : ∀ m, m < ro_fc n → ro_tb (ro_D n 1 a) m = true → ro_tb (ro_D n 1 b) m = true → ro_tb (ro_U n 1 m) k = false → J4 x2 (nI (k + 1))) :
    ∀ d m, m + d = ro_fc n → (∀ m, m < ro_fc n - d → ro_tb (ro_D n 1 a) m = true → ro_tb (ro_D n 1 b) m = true → ro_tb (ro_U n 1 m) k = true) → wY_bound_23 post J4 1 x2 (nI k) (nI n) gM cs hs un ey ry oy fy (d + 1) 1 (nI m) := by
  subst hM
  have hc := ro_c120 n
  intro d
  induction d with
  | zero =>
    intro m hm e
    exact br_t (nI_le (by omega) (by omega)) (br_f (by decide) (nm_r (nI_1 k) (H1 (fun m h => e m h))))
  | succ d ih =>
    intro m hm e
    have hmc : m < ro_fc n := by omega
    refine br_f (nI_ge (by omega) (by omega)) (br_f (by decide) (br_f (by decide) ?_))
    refine ro_yib (o := 1) (by decide) (by omega) (by omega) _ _ cs hs un ey ry oy fy hY ?_
    refine br_c (fun z => ?_) (fun z => nm_r (nI_1 m) (ih (m + 1) (by omega) (fun m' hm' a1 a2 => ?_)))
    · rw [ro_btz] at z
      refine ro_ycm1 _ cs hs un ey ry oy fy h2 h5 ha hb hY e0 e1 hmc _ (fun w1 w2 => br_f (by decide) (nm_r (nI_1 m) ?_)) (fun w => br_t rfl (nm_r (nI_1 m) (ih (m + 1) (by omega) (fun m' hm' a1 a2 => ?_))))
      · have Hz := H0 m hmc w1 w2 z
        have en : wY_bound_86 post J4 1 x2 (nI k) 0 (nI n) (nI (ro_fc n)) cs hs un ey ry oy fy := br_t rfl (nm_r (nI_1 k) Hz)
        exact br_c (fun _ => en) (fun _ => br_t rfl en)
      · by_cases q : m' = m
        · rw [q] at a1 a2; exact absurd ⟨a1, a2⟩ w
        · exact e m' (by omega) a1 a2
    · by_cases q : m' = m
      · rw [q]; rw [ro_btz] at z; exact ro_ntf z
      · exact e m' (by omega) a1 a2
theorem ro_ybd_1 {n a b g : Nat} (h2 : 2 ≤ n) (h5 : n ≤ 5) (ha : a < ro_fc n) (hb : b < ro_fc n) (gM : Int32) (cs hs un ey ry oy fy : Nat → Int32) (hM : gM = nI (ro_fc n)) (hY : ro_TY n cs hs un) (e0 : ey 0 = nI a) (e1 : ey 1 = nI b) (post : Int32 → SY → Prop) (hg : g < ro_fc n) (ga : ro_tb (ro_D n 1 a) g = true) (gb : ro_tb (ro_D n 1 b) g = true)
    (Fb : ∀ m k, k = g → m < ro_fc n → ro_tb (ro_D n 1 a) m = true → ro_tb (ro_D n 1 b) m = true → ro_tb (ro_U n 1 m) k = true)
    (Fc : ∀ k, k < ro_fc n → g < k → ro_tb (ro_D n 1 a) k = true → ro_tb (ro_D n 1 b) k = true → (∀ m, m < ro_fc n → ro_tb (ro_D n 1 a) m = true → ro_tb (ro_D n 1 b) m = true → ro_tb (ro_U n 1 m) k = true) → False)
    (H : post (nI (ro_H n g)) (nI n, gM, cs, hs, un, (upd ey 0 (nI g)), ry, oy, fy)) : wpY_bound post (nI n, gM, cs, hs, un, ey, ry, oy, fy) 1 := by
  subst hM
  have hc := ro_c120 n
  have f : ∀ d k x2, k + d = ro_fc n → (g < k → x2 = nI g) → wY_bound_4 post 1 (nI n) (nI (ro_fc n)) cs hs un ey ry oy fy (d + 1) x2 (nI k) := by
    intro d
    induction d with
    | zero =>
      intro k x2 hk e
      rw [e (by omega)]
      refine br_t (nI_le (by omega) (by omega)) (nm_e ⟨vp_in_nI (by omega) (by decide), ?_⟩)
      rw [nI_clamp (by omega), hY.2.1 g hg]; exact H
    | succ d ih =>
      intro k x2 hk e
      have hkc : k < ro_fc n := by omega
      refine br_f (nI_ge (by omega) (by omega)) ?_
      refine ro_ycm1 _ cs hs un ey ry oy fy h2 h5 ha hb hY e0 e1 hkc _ (fun w1 w2 => ⟨ro_fc n + 1, ?_⟩) (fun w => ⟨1, ?_⟩)
      · refine ro_ybd23_1 h2 h5 ha hb _ cs hs un ey ry oy fy rfl hY e0 e1 post _ x2 hkc (fun A => ih (k + 1) _ (by omega) (fun q => ?_)) (fun m hm a1 a2 a3 => ih (k + 1) _ (by omega) (fun q => ?_)) (ro_fc n) 0 (by omega) (fun m h => by omega)
        · by_cases z : k = g
          · rw [z]
          · exact absurd (Fc k hkc (by omega) w1 w2 A) id
        · by_cases z : k = g
          · have := Fb m k z hm a1 a2; rw [this] at a3; exact absurd a3 (by decide)
          · exact e (by omega)
      · have en : wY_bound_86 post (wY_bound_4 post 1 (nI n) (nI (ro_fc n)) cs hs un ey ry oy fy (d + 1)) 1 x2 (nI k) 0 (nI n) (nI (ro_fc n)) cs hs un ey ry oy fy := by
          refine br_t rfl (nm_r (nI_1 k) (ih (k + 1) x2 (by omega) (fun q => ?_)))
          by_cases z : k = g
          · rw [z] at w; exact absurd ⟨ga, gb⟩ w
          · exact e (by omega)
        exact br_c (fun _ => en) (fun _ => br_t rfl en)
  exact ⟨ro_fc n + 1, f (ro_fc n) 0 0 (by omega) (fun q => by omega)⟩
theorem ro_ybd23_0 {n a b : Nat} (h2 : 2 ≤ n) (h5 : n ≤ 5) (ha : a < ro_fc n) (hb : b < ro_fc n) (gM : Int32) (cs hs un ey ry oy fy : Nat → Int32) (hM : gM = nI (ro_fc n)) (hY : ro_TY n cs hs un) (e0 : ey 0 = nI a) (e1 : ey 1 = nI b) (post : Int32 → SY → Prop) (J4 : Int32 → Int32 → Prop) (x2 : Int32) {k : Nat} (hk : k < ro_fc n)
    (H1 : (∀ m, m < ro_fc n → ro_tb (ro_U n 1 a) m = true → ro_tb (ro_U n 1 b) m = true → ro_tb (ro_U n 1 k) m = true) → J4 (nI k) (nI (k + 1)))
    (H0 : ∀ m, m < ro_fc n → ro_tb (ro_U n 1 a) m = true → ro_tb (ro_U n 1 b) m = true → ro_tb (ro_U n 1 k) m = false → J4 x2 (nI (k + 1))) :
    ∀ d m, m + d = ro_fc n → (∀ m, m < ro_fc n - d → ro_tb (ro_U n 1 a) m = true → ro_tb (ro_U n 1 b) m = true → ro_tb (ro_U n 1 k) m = true) → wY_bound_23 post J4 0 x2 (nI k) (nI n) gM cs hs un ey ry oy fy (d + 1) 1 (nI m) := by
  subst hM
  have hc := ro_c120 n
  intro d
  induction d with
  | zero =>
    intro m hm e
    exact br_t (nI_le (by omega) (by omega)) (br_f (by decide) (nm_r (nI_1 k) (H1 (fun m h => e m h))))
  | succ d ih =>
    intro m hm e
    have hmc : m < ro_fc n := by omega
    refine br_f (nI_ge (by omega) (by omega)) (br_f (by decide) (br_t rfl ?_))
    refine ro_yib (o := 1) (by decide) (by omega) (by omega) _ _ cs hs un ey ry oy fy hY ?_
    refine br_c (fun z => ?_) (fun z => nm_r (nI_1 m) (ih (m + 1) (by omega) (fun m' hm' a1 a2 => ?_)))
    · rw [ro_btz] at z
      refine ro_ycm0 _ cs hs un ey ry oy fy h2 h5 ha hb hY e0 e1 hmc _ (fun w1 w2 => br_f (by decide) (nm_r (nI_1 m) ?_)) (fun w => br_t rfl (nm_r (nI_1 m) (ih (m + 1) (by omega) (fun m' hm' a1 a2 => ?_))))
      · have Hz := H0 m hmc w1 w2 z
        have en : wY_bound_86 post J4 0 x2 (nI k) 0 (nI n) (nI (ro_fc n)) cs hs un ey ry oy fy := br_t rfl (nm_r (nI_1 k) Hz)
        exact br_c (fun _ => en) (fun _ => br_t rfl en)
      · by_cases q : m' = m
        · rw [q] at a1 a2; exact absurd ⟨a1, a2⟩ w
        · exact e m' (by omega) a1 a2
    · by_cases q : m' = m
      · rw [q]; rw [ro_btz] at z; exact ro_ntf z
      · exact e m' (by omega) a1 a2
theorem ro_ybd_0 {n a b g : Nat} (h2 : 2 ≤ n) (h5 : n ≤ 5) (ha : a < ro_fc n) (hb : b < ro_fc n) (gM : Int32) (cs hs un ey ry oy fy : Nat → Int32) (hM : gM = nI (ro_fc n)) (hY : ro_TY n cs hs un) (e0 : ey 0 = nI a) (e1 : ey 1 = nI b) (post : Int32 → SY → Prop) (hg : g < ro_fc n) (ga : ro_tb (ro_U n 1 a) g = true) (gb : ro_tb (ro_U n 1 b) g = true)
    (Fb : ∀ m k, k = g → m < ro_fc n → ro_tb (ro_U n 1 a) m = true → ro_tb (ro_U n 1 b) m = true → ro_tb (ro_U n 1 k) m = true)
    (Fc : ∀ k, k < ro_fc n → g < k → ro_tb (ro_U n 1 a) k = true → ro_tb (ro_U n 1 b) k = true → (∀ m, m < ro_fc n → ro_tb (ro_U n 1 a) m = true → ro_tb (ro_U n 1 b) m = true → ro_tb (ro_U n 1 k) m = true) → False)
    (H : post (nI (ro_H n g)) (nI n, gM, cs, hs, un, (upd ey 0 (nI g)), ry, oy, fy)) : wpY_bound post (nI n, gM, cs, hs, un, ey, ry, oy, fy) 0 := by
  subst hM
  have hc := ro_c120 n
  have f : ∀ d k x2, k + d = ro_fc n → (g < k → x2 = nI g) → wY_bound_4 post 0 (nI n) (nI (ro_fc n)) cs hs un ey ry oy fy (d + 1) x2 (nI k) := by
    intro d
    induction d with
    | zero =>
      intro k x2 hk e
      rw [e (by omega)]
      refine br_t (nI_le (by omega) (by omega)) (nm_e ⟨vp_in_nI (by omega) (by decide), ?_⟩)
      rw [nI_clamp (by omega), hY.2.1 g hg]; exact H
    | succ d ih =>
      intro k x2 hk e
      have hkc : k < ro_fc n := by omega
      refine br_f (nI_ge (by omega) (by omega)) ?_
      refine ro_ycm0 _ cs hs un ey ry oy fy h2 h5 ha hb hY e0 e1 hkc _ (fun w1 w2 => ⟨ro_fc n + 1, ?_⟩) (fun w => ⟨1, ?_⟩)
      · refine ro_ybd23_0 h2 h5 ha hb _ cs hs un ey ry oy fy rfl hY e0 e1 post _ x2 hkc (fun A => ih (k + 1) _ (by omega) (fun q => ?_)) (fun m hm a1 a2 a3 => ih (k + 1) _ (by omega) (fun q => ?_)) (ro_fc n) 0 (by omega) (fun m h => by omega)
        · by_cases z : k = g
          · rw [z]
          · exact absurd (Fc k hkc (by omega) w1 w2 A) id
        · by_cases z : k = g
          · have := Fb m k z hm a1 a2; rw [this] at a3; exact absurd a3 (by decide)
          · exact e (by omega)
      · have en : wY_bound_86 post (wY_bound_4 post 0 (nI n) (nI (ro_fc n)) cs hs un ey ry oy fy (d + 1)) 0 x2 (nI k) 0 (nI n) (nI (ro_fc n)) cs hs un ey ry oy fy := by
          refine br_t rfl (nm_r (nI_1 k) (ih (k + 1) x2 (by omega) (fun q => ?_)))
          by_cases z : k = g
          · rw [z] at w; exact absurd ⟨ga, gb⟩ w
          · exact e (by omega)
        exact br_c (fun _ => en) (fun _ => br_t rfl en)
  exact ⟨ro_fc n + 1, f (ro_fc n) 0 0 (by omega) (fun q => by omega)⟩
theorem i_vc_meet {k : Nat} {u : SX} {v : SY} (I : i_Rel k u v) (hk : k + 4 ≤ 2049) : wpX_meet (fun r u' => wpY_meet (fun r' v' => r' = r ∧ i_Rel (k + 4) u' v') v) u := by
  obtain ⟨n, pq, el, ic, er, ra, rb, rm, sm, ma, mb, cs, hs, un, ey, ry, oy, fy, h2, h5, hE, hX, hY, rfl, rfl⟩ := I
  have hc := ro_c120 n
  obtain ⟨p1, p2, p3⟩ := hE 0 (by decide)
  obtain ⟨q1, q2, q3⟩ := hE 1 (by decide)
  obtain ⟨g1, g2, g3, g4⟩ := ro_f27 h2 h5 p1 q1
  have hE' := ro_EleU hE g1 0
  generalize pq 0 = a at p1 p2 p3 g1 g2 g3 g4 hE'
  generalize pq 1 = b at q1 q2 q3 g1 g2 g3 g4 hE'
  generalize ro_mt n a b = g at g1 g2 g3 g4 hE'
  have le : ∀ m, m < ro_fc n → ro_tb (ro_D n 1 a) m = true → ro_tb (ro_D n 1 b) m = true → ro_tb (ro_U n 1 m) g = true := by
    intro m hm w1 w2
    rw [← ro_f23 h2 h5 (by decide) g1 hm]
    refine ro_sub g4 ?_
    rw [ro_tba, w1, w2]; rfl
  have ord : ∀ m, m < ro_fc n → ro_tb (ro_U n 1 m) g = true → m ≤ g := by
    intro m hm w
    rcases (ro_f24 h2 h5 (by decide) hm g1 w).2 with z | z <;> omega
  unfold wpX_meet
  dsimp only
  rw [p2]
  refine ro_xmb_marks h2 h5 (o := 1) p1 (by decide) _ _ el ic er ra rb rm sm ma mb hX rfl (fun t ht => ?_)
  dsimp only
  rw [q2]
  refine ro_xmb_otherMarks h2 h5 (o := 1) q1 (by decide) _ _ el ic er ra rb rm sm t mb hX rfl (fun s hS => ?_)
  have f : ∀ (post : Int32 → SX → Prop), post (nI (ro_H n g)) (nI n, (nI (ro_fc n)), (upd el 0 (nI g)), ic, er, ra, rb, rm, sm, t, s) → ∀ d k x1, k + d = ro_fc n → (g < k → x1 = nI g) → wX_meet_34 post (nI n) (nI (ro_fc n)) el ic er ra rb rm sm t s (d + 1) x1 (nI k) := by
    intro post H d
    induction d with
    | zero =>
      intro k x1 hk e
      rw [e (by omega)]
      refine br_t (nI_le (by omega) (by omega)) (nm_e ⟨vp_in_nI (by omega) (by decide), ?_⟩)
      rw [nI_clamp (by omega), hX.1 g g1]; exact H
    | succ d ih =>
      intro k x1 hk e
      have hkc : k < ro_fc n := by omega
      have ik : vp_in (nI k) 120 := vp_in_nI (by omega) (by decide)
      refine br_f (nI_ge (by omega) (by omega)) ⟨ik, ?_⟩
      rw [nI_clamp (by omega), ht k hkc, hS k hkc, ro_btz, ro_btz]
      refine br_c (fun z => nm_r (nI_1 k) (ih (k + 1) x1 (by omega) (fun q => ?_))) (fun z => ⟨ik, br_c (fun z' => nm_r (nI_1 k) (ih (k + 1) x1 (by omega) (fun q => ?_))) (fun z' => nm_r (nI_1 k) (ih (k + 1) (nI k) (by omega) (fun q => ?_)))⟩)
      · by_cases w : k = g
        · rw [w, g2] at z; exact absurd z (by decide)
        · exact e (by omega)
      · by_cases w : k = g
        · rw [w, g3] at z'; exact absurd z' (by decide)
        · exact e (by omega)
      · have w := ord k hkc (le k hkc (ro_ntf z) (ro_ntf z'))
        rw [show k = g by omega]
  refine ⟨ro_fc n + 1, f _ ?_ (ro_fc n) 0 0 (by omega) (fun q => by omega)⟩
  unfold wpY_meet
  refine ro_ybd_1 h2 h5 p1 q1 _ cs hs un ey ry oy fy rfl hY p3 q3 _ g1 g2 g3 (fun m k hk hm w1 w2 => by rw [hk]; exact le m hm w1 w2) (fun k hk hgk w1 w2 _ => by have := ord k hk (le k hk w1 w2); omega) ?_
  exact ⟨rfl, ro_rel h2 h5 hE' hX hY _ _ _ _ _ _ _ _ _⟩
theorem i_vc_join {k : Nat} {u : SX} {v : SY} (I : i_Rel k u v) (hk : k + 4 ≤ 2049) : wpX_join (fun r u' => wpY_join (fun r' v' => r' = r ∧ i_Rel (k + 4) u' v') v) u := by
  obtain ⟨n, pq, el, ic, er, ra, rb, rm, sm, ma, mb, cs, hs, un, ey, ry, oy, fy, h2, h5, hE, hX, hY, rfl, rfl⟩ := I
  have hc := ro_c120 n
  obtain ⟨p1, p2, p3⟩ := hE 0 (by decide)
  obtain ⟨q1, q2, q3⟩ := hE 1 (by decide)
  obtain ⟨g1, g2, g3, g4⟩ := ro_f28 h2 h5 p1 q1
  have hE' := ro_EleU hE g1 0
  generalize pq 0 = a at p1 p2 p3 g1 g2 g3 g4 hE'
  generalize pq 1 = b at q1 q2 q3 g1 g2 g3 g4 hE'
  generalize ro_jn n a b = g at g1 g2 g3 g4 hE'
  have le : ∀ m, m < ro_fc n → ro_tb (ro_U n 1 a) m = true → ro_tb (ro_U n 1 b) m = true → ro_tb (ro_U n 1 g) m = true := by
    intro m hm w1 w2
    refine ro_sub g4 ?_
    rw [ro_tba, w1, w2]; rfl
  have ord : ∀ l m, l < ro_fc n → m < ro_fc n → ro_tb (ro_U n 1 l) m = true → l ≤ m := by
    intro l m hl hm w
    rcases (ro_f24 h2 h5 (by decide) hl hm w).2 with z | z <;> omega
  unfold wpX_join
  dsimp only
  rw [p2]
  refine ro_xma_marks h2 h5 (o := 1) p1 (by decide) _ _ el ic er ra rb rm sm ma mb hX rfl (fun t ht => ?_)
  dsimp only
  rw [q2]
  refine ro_xma_otherMarks h2 h5 (o := 1) q1 (by decide) _ _ el ic er ra rb rm sm t mb hX rfl (fun s hS => ?_)
  have f : ∀ (post : Int32 → SX → Prop), post (nI (ro_H n g)) (nI n, (nI (ro_fc n)), (upd el 0 (nI g)), ic, er, ra, rb, rm, sm, t, s) → ∀ k x1, k ≤ ro_fc n → (k ≤ g → x1 = nI g) → wX_join_44 post (nI n) (nI (ro_fc n)) el ic er ra rb rm sm t s (k + 1) x1 (nI k + (-1)) := by
    intro post H k
    induction k with
    | zero =>
      intro x1 hk e
      rw [e (by omega)]
      refine br_t (show nI 0 + (-1) < 0 by decide) (nm_e ⟨vp_in_nI (by omega) (by decide), ?_⟩)
      rw [nI_clamp (by omega), hX.1 g g1]; exact H
    | succ k ih =>
      intro x1 hk e
      have hkc : k < ro_fc n := by omega
      have ik : vp_in (nI k) 120 := vp_in_nI (by omega) (by decide)
      rw [pk_m1]
      refine br_f (nI_pos (by omega)) ⟨ik, ?_⟩
      rw [nI_clamp (by omega), ht k hkc, hS k hkc, ro_btz, ro_btz]
      refine br_c (fun z => nm_e (ih x1 (by omega) (fun q => ?_))) (fun z => ⟨ik, br_c (fun z' => nm_e (ih x1 (by omega) (fun q => ?_))) (fun z' => nm_e (ih (nI k) (by omega) (fun q => ?_)))⟩)
      · by_cases w : k = g
        · rw [w, g2] at z; exact absurd z (by decide)
        · exact e (by omega)
      · by_cases w : k = g
        · rw [w, g3] at z'; exact absurd z' (by decide)
        · exact e (by omega)
      · have w := ord g k g1 hkc (le k hkc (ro_ntf z) (ro_ntf z'))
        rw [show k = g by omega]
  refine nm_e (nm_r (show nI (ro_fc n) - 1 = nI (ro_fc n) + (-1) from Int32.sub_eq_add_neg _ _) ⟨ro_fc n + 1, f _ ?_ (ro_fc n) _ (Nat.le_refl _) (fun q => by omega)⟩)
  unfold wpY_join
  refine ro_ybd_0 h2 h5 p1 q1 _ cs hs un ey ry oy fy rfl hY p3 q3 _ g1 g2 g3 (fun m k hk hm w1 w2 => by rw [hk]; exact le m hm w1 w2) (fun k hk hgk w1 w2 A => by have := ord k g hk g1 (A g g1 g2 g3); omega) ?_
  exact ⟨rfl, ro_rel h2 h5 hE' hX hY _ _ _ _ _ _ _ _ _⟩
