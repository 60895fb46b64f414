/-! sign -/
noncomputable def ro_si (f : Nat → Int32) (m : Nat) : Int32 := Nat.rec 0 (fun s ih => ih + f s) m
theorem ro_siS (f : Nat → Int32) (m : Nat) : ro_si f (m + 1) = ro_si f m + f m := rfl
theorem ro_sic {f g : Nat → Int32} : ∀ m, (∀ s, s < m → f s = g s) → ro_si f m = ro_si g m := by
  intro m
  induction m with
  | zero => intro _; rfl
  | succ m ih => intro h; rw [ro_siS, ro_siS, ih (fun s hs => h s (by omega)), h m (by omega)]
theorem ro_si0 {f : Nat → Int32} : ∀ m, (∀ s, s < m → f s = 0) → ro_si f m = 0 := by
  intro m
  induction m with
  | zero => intro _; rfl
  | succ m ih => intro h; rw [ro_siS, ih (fun s hs => h s (by omega)), h m (by omega)]; rfl
theorem ro_sie {f : Nat → Int32} {j : Nat} : ∀ m, j ≤ m → (∀ s, j ≤ s → s < m → f s = 0) → ro_si f m = ro_si f j := by
  intro m
  induction m with
  | zero => intro h _; rw [show j = 0 by omega]
  | succ m ih =>
    intro h e
    by_cases q : j = m + 1
    · rw [q]
    · rw [ro_siS, ih (by omega) (fun s a b => e s a (by omega)), e m (by omega) (by omega), Int32.add_zero]
noncomputable def ro_ut (n o p m : Nat) : Nat → Int32 := Nat.rec (fun _ => 0) (fun j f i => cond (Nat.beq i j) (nI (ro_d1 j p) - ro_si (fun s => cond (ro_tb (ro_U n o s) j) (f s) 0) j) (f i)) m
theorem ro_utS (n o p j i : Nat) : ro_ut n o p (j + 1) i = cond (Nat.beq i j) (nI (ro_d1 j p) - ro_si (fun s => cond (ro_tb (ro_U n o s) j) (ro_ut n o p j s) 0) j) (ro_ut n o p j i) := rfl
noncomputable def ro_M (n o p j : Nat) : Int32 := ro_ut n o p (j + 1) j
theorem ro_utM (n o p s : Nat) : ∀ d, ro_ut n o p (s + 1 + d) s = ro_M n o p s := by
  intro d
  induction d with
  | zero => rfl
  | succ d ih => rw [show s + 1 + (d + 1) = s + 1 + d + 1 from rfl, ro_utS, ro_nbeq (by omega)]; exact ih
theorem ro_ME (n o p j : Nat) : ro_M n o p j = nI (ro_d1 j p) - ro_si (fun s => cond (ro_tb (ro_U n o s) j) (ro_M n o p s) 0) j := by
  have h : ro_M n o p j = nI (ro_d1 j p) - ro_si (fun s => cond (ro_tb (ro_U n o s) j) (ro_ut n o p j s) 0) j := by
    show ro_ut n o p (j + 1) j = _
    rw [ro_utS, Nat.beq_refl]; rfl
  rw [h]
  refine congrArg (nI (ro_d1 j p) - ·) (ro_sic j (fun s hs => ?_))
  have e := ro_utM n o p s (j - (s + 1))
  rw [show s + 1 + (j - (s + 1)) = j by omega] at e
  show cond (ro_tb (ro_U n o s) j) (ro_ut n o p j s) 0 = cond (ro_tb (ro_U n o s) j) (ro_M n o p s) 0
  rw [e]
theorem ro_ci {b : Bool} {x : Int32} (h : b = true → x = 0) : cond b x 0 = 0 := by
  cases b
  · rfl
  · exact h rfl
theorem ro_sub0 (x : Int32) : x - 0 = x := by rw [Int32.sub_eq_add_neg, Int32.neg_zero, Int32.add_zero]
theorem ro_0sub (x : Int32) : (0 : Int32) - x = -x := by rw [Int32.sub_eq_add_neg, Int32.zero_add]
theorem ro_M0 {n o p : Nat} (h2 : 2 ≤ n) (h5 : n ≤ 5) (ho : o < 2) (hp : p < ro_fc n) : ∀ j, j < ro_fc n → ro_tb (ro_U n o p) j = false → ro_M n o p j = 0 := by
  intro j
  induction j using Nat.strongRecOn with
  | ind j ih =>
    intro hj h
    have hjp : j ≠ p := fun z => by rw [z, ro_f24r h2 h5 ho hp] at h; exact absurd h (by decide)
    rw [ro_ME, ro_d10' hjp, ro_si0 j (fun s hs => ro_ci (fun z => ih s hs (by omega) (ro_ntb (fun w => ?_))))]
    · rfl
    · rw [ro_ltr h2 h5 ho hp (show s < ro_fc n by omega) w z] at h
      exact absurd h (by decide)
theorem ro_le {n o s j : Nat} (h2 : 2 ≤ n) (h5 : n ≤ 5) (ho : o < 2) (hs : s < ro_fc n) (hj : j < ro_fc n) (h : ro_tb (ro_U n o s) j = true) : s ≤ j := by
  rcases (ro_f24 h2 h5 ho hs hj h).2 with z | z <;> omega
theorem ro_Mlt {n o p : Nat} (h2 : 2 ≤ n) (h5 : n ≤ 5) (ho : o < 2) (hp : p < ro_fc n) {j : Nat} (hj : j < p) : ro_M n o p j = 0 :=
  ro_M0 h2 h5 ho hp j (by omega) (ro_ntb (fun z => by have := ro_le h2 h5 ho hp (show j < ro_fc n by omega) z; omega))
/-- X's sum of j when those below k have been taken -/
noncomputable def ro_tk (n o p k j : Nat) : Int32 := nI (ro_d1 j p) - ro_si (fun s => cond (Nat.ble (s + 1) j) (cond (ro_tb (ro_U n o s) j) (ro_M n o p s) 0) 0) k
theorem ro_tkM {n o p k j : Nat} (h : j ≤ k) : ro_tk n o p k j = ro_M n o p j := by
  rw [ro_ME]
  unfold ro_tk
  refine congrArg (nI (ro_d1 j p) - ·) ?_
  rw [ro_sie (f := fun s => cond (Nat.ble (s + 1) j) (cond (ro_tb (ro_U n o s) j) (ro_M n o p s) 0) 0) k h (fun s a b => ro_ci (fun z => absurd (ro_ble z) (by omega)))]
  refine ro_sic j (fun s hs => ?_)
  show cond (Nat.ble (s + 1) j) (cond (ro_tb (ro_U n o s) j) (ro_M n o p s) 0) 0 = _
  rw [Nat.ble_eq_true_of_le hs]; rfl
theorem ro_tkS (n o p k j : Nat) : ro_tk n o p (k + 1) j = cond (Nat.ble (k + 1) j) (cond (ro_tb (ro_U n o k) j) (ro_tk n o p k j - ro_M n o p k) (ro_tk n o p k j)) (ro_tk n o p k j) := by
  unfold ro_tk
  rw [ro_siS]
  cases Nat.ble (k + 1) j
  · show _ - (_ + 0) = _
    rw [Int32.add_zero]; rfl
  · cases ro_tb (ro_U n o k) j
    · show _ - (_ + 0) = _
      rw [Int32.add_zero]; rfl
    · show _ - (_ + ro_M n o p k) = (_ - _) - ro_M n o p k
      rw [Int32.sub_eq_add_neg, Int32.sub_eq_add_neg, Int32.sub_eq_add_neg, Int32.neg_add, Int32.add_assoc, Int32.sub_eq_add_neg]
theorem ro_tk0 {n o p j : Nat} (h2 : 2 ≤ n) (h5 : n ≤ 5) (ho : o < 2) (hp : p < ro_fc n) : ro_tk n o p p j = nI (ro_d1 j p) := by
  unfold ro_tk
  rw [ro_si0 p (fun s hs => ro_ci (fun _ => ro_ci (fun _ => ro_Mlt h2 h5 ho hp hs)))]
  exact ro_sub0 _
theorem ro_xtk {n : Nat} (h2 : 2 ≤ n) (h5 : n ≤ 5) {a : Nat} (ha : a < ro_fc n) {o : Nat} (ho : o < 2) (F : Nat → Int32) (post : SX → Prop) (fC : Int32) (el ic er ra rb rm sm ma mb : Nat → Int32) (hC : fC = nI (ro_fc n)) (hT : ro_TX n ic er) (hF : ∀ j, j < ro_fc n → sm j = F j)
    (H : ∀ t s : Nat → Int32, (∀ j, j < ro_fc n → t j = cond (Nat.ble (a + 1) j) (cond (ro_tb (ro_U n o a) j) (F j - F a) (F j)) (F j)) → post (nI n, fC, el, ic, er, ra, rb, rm, t, s, mb)) : wpX_takeSignFromAbove post (nI n, fC, el, ic, er, ra, rb, rm, sm, ma, mb) (nI a) (nI o) := by
  subst hC
  have hc := ro_c120 n
  unfold wpX_takeSignFromAbove
  refine ro_xma_marks h2 h5 ha ho _ _ el ic er ra rb rm sm ma mb hT rfl (fun s hS => ?_)
  have g : ∀ d r sm, r + d = ro_fc n → a < r → (∀ j, j < ro_fc n → j < r → sm j = cond (Nat.ble (a + 1) j) (cond (ro_tb (ro_U n o a) j) (F j - F a) (F j)) (F j)) → (∀ j, j < ro_fc n → r ≤ j → sm j = F j) → wX_takeSignFromAbove_14 post (nI a) (nI n) (nI (ro_fc n)) (d + 1) (nI r) el ic er ra rb rm sm s mb := by
    intro d
    induction d with
    | zero =>
      intro r sm hr har e1 e2
      exact br_t (nI_le (by omega) (by omega)) (H sm s (fun j hj => e1 j hj (by omega)))
    | succ d ih =>
      intro r sm hr har e1 e2
      have hrc : r < ro_fc n := by omega
      have ir : vp_in (nI r) 120 := vp_in_nI (by omega) (by decide)
      refine br_f (nI_ge (by omega) (by omega)) ⟨ir, ?_⟩
      have ea : sm a = F a := by
        rw [e1 a ha har, ro_nble (by omega)]; rfl
      have er' : sm r = F r := e2 r hrc (Nat.le_refl r)
      rw [nI_clamp (show r < 2 ^ 31 by omega), nI_clamp (show a < 2 ^ 31 by omega), hS r hrc, ro_btz, ea, er']
      refine br_c (fun z => nm_r (nI_1 r) (ih (r + 1) sm (by omega) (by omega) (fun j hj hjr => ?_) (fun j hj hjr => e2 j hj (by omega)))) (fun z => ⟨ir, vp_in_nI (by omega) (by decide), ir, nm_e (nm_r (nI_1 r) (ih (r + 1) _ (by omega) (by omega) (fun j hj hjr => ?_) (fun j hj hjr => ?_)))⟩)
      · by_cases q : j = r
        · rw [q, z, er']; cases Nat.ble (a + 1) r <;> rfl
        · exact e1 j hj (by omega)
      · refine ro_u (fun q => ?_) (fun q => e1 j hj (by omega))
        rw [q, Nat.ble_eq_true_of_le har, ro_ntf z]; rfl
      · exact ro_u (fun q => by omega) (fun q => e2 j hj (by omega))
  refine nm_r (nI_1 a) ⟨ro_fc n - (a + 1) + 1, g (ro_fc n - (a + 1)) (a + 1) sm (by omega) (by omega) (fun j hj hja => ?_) (fun j hj _ => hF j hj)⟩
  rw [hF j hj, ro_nble (by omega)]; rfl
theorem ro_xsign {n : Nat} (h2 : 2 ≤ n) (h5 : n ≤ 5) {p q o : Nat} (hp : p < ro_fc n) (hq : q < ro_fc n) (ho : o < 2) (post : Int32 → SX → Prop) (fC : Int32) (el ic er ra rb rm sm ma mb : Nat → Int32) (hC : fC = nI (ro_fc n)) (hT : ro_TX n ic er) (e0 : el 0 = nI p) (e1 : el 1 = nI q)
    (H : ∀ t s : Nat → Int32, post (ro_M n o p q) (nI n, fC, el, ic, er, ra, rb, rm, t, s, mb)) : wpX_sign post (nI n, fC, el, ic, er, ra, rb, rm, sm, ma, mb) (nI o) := by
  subst hC
  have hc := ro_c120 n
  have g : ∀ d k sm ma, q ≤ k + d → k < ro_fc n → (∀ j, j < ro_fc n → sm j = ro_tk n o p k j) → wX_sign_34 post (nI o) (nI q) (d + 1) (nI k) (nI n) (nI (ro_fc n)) el ic er ra rb rm sm ma mb := by
    have fin : ∀ d k sm ma, q ≤ k → k < ro_fc n → (∀ j, j < ro_fc n → sm j = ro_tk n o p k j) → wX_sign_34 post (nI o) (nI q) (d + 1) (nI k) (nI n) (nI (ro_fc n)) el ic er ra rb rm sm ma mb := by
      intro d k sm ma hqk hk e
      refine br_t (nI_le hqk (by omega)) ⟨vp_in_nI (by omega) (by decide), ?_⟩
      rw [nI_clamp (by omega), e q hq, ro_tkM hqk]
      exact H sm ma
    intro d
    induction d with
    | zero => intro k sm ma hqk hk e; exact fin 0 k sm ma hqk hk e
    | succ d ih =>
      intro k sm ma hqk hk e
      by_cases w : q ≤ k
      · exact fin (d + 1) k sm ma w hk e
      · refine br_f (nI_ge (by omega) (by omega)) ⟨vp_in_nI (by omega) (by decide), ?_⟩
        have eM : sm k = ro_M n o p k := by rw [e k hk, ro_tkM (Nat.le_refl k)]
        rw [nI_clamp (by omega), eM]
        refine br_c (fun z => nm_r (nI_1 k) (ih (k + 1) sm ma (by omega) (by omega) (fun j hj => ?_))) (fun z => ?_)
        · rw [ro_tkS, z, ro_sub0, ← e j hj]
          cases Nat.ble (k + 1) j
          · rfl
          · cases ro_tb (ro_U n o k) j <;> rfl
        · refine ro_xtk h2 h5 hk ho (ro_tk n o p k) _ _ el ic er ra rb rm sm ma mb rfl hT e (fun t s ht => nm_r (nI_1 k) (ih (k + 1) t s (by omega) (by omega) (fun j hj => ?_)))
          rw [ht j hj, ro_tkS, ro_tkM (Nat.le_refl k)]
  unfold wpX_sign
  refine ro_x01 ho _ _ el ic er ra rb rm sm ma mb (br_f (by decide) (nm_r e0 (nm_r e1 ?_)))
  refine ro_xss0 _ _ el ic er ra rb rm sm ma mb rfl hp (fun t ht => ⟨q + 1, g q p t ma (by omega) hp (fun j hj => ?_)⟩)
  rw [ht j hj, ro_tk0 h2 h5 ho hp]
theorem ro_ysign {n : Nat} (h2 : 2 ≤ n) (h5 : n ≤ 5) {p q o : Nat} (hp : p < ro_fc n) (hq : q < ro_fc n) (ho : o < 2) (post : Int32 → SY → Prop) (gM : Int32) (cs hs un ey ry oy fy : Nat → Int32) (hM : gM = nI (ro_fc n)) (hY : ro_TY n cs hs un) (e0 : ey 0 = nI p) (e1 : ey 1 = nI q)
    (H : ∀ t : Nat → Int32, post (ro_M n o p q) (nI n, gM, cs, hs, un, ey, ry, oy, t)) : wpY_sign post (nI n, gM, cs, hs, un, ey, ry, oy, fy) (nI o) := by
  subst hM
  have hc := ro_c120 n
  have bq := (ro_f2 h2 h5 hq).2.2.2.1
  have bp := (ro_f2 h2 h5 hp).2.2.2.1
  have f : ∀ (J43 J : Int32 → (Nat → Int32) → (Nat → Int32) → (Nat → Int32) → (Nat → Int32) → (Nat → Int32) → (Nat → Int32) → (Nat → Int32) → Prop) (x3 : Int32) r fy, r < ro_fc n → (∀ s, s < ro_fc n → s ≠ r → ro_tb (ro_U n o p) s = true → ro_tb (ro_U n o s) r = true → fy s = ro_M n o p s) → J (nI (r + 1)) cs hs un ey ry oy (upd fy r (ro_M n o p r)) → ∃ m, wY_sign_97 post J43 J (nI o) (nI p) x3 (nI r) (nI n) (nI (ro_fc n)) cs hs un ey ry oy fy m 0 0 := by
    intro J43 J x3 r fy hr hfy HJ
    have eG : ro_si (fun s => cond (Nat.beq s r) 0 (cond (ro_tb (ro_U n o p) s) (cond (ro_tb (ro_U n o s) r) (fy s) 0) 0)) (ro_fc n) = ro_si (fun s => cond (ro_tb (ro_U n o s) r) (ro_M n o p s) 0) r := by
      rw [ro_sie (j := r) (ro_fc n) (Nat.le_of_lt hr) (fun s a b => ?_)]
      · refine ro_sic r (fun s hs => ?_)
        show cond (Nat.beq s r) 0 (cond (ro_tb (ro_U n o p) s) (cond (ro_tb (ro_U n o s) r) (fy s) 0) 0) = cond (ro_tb (ro_U n o s) r) (ro_M n o p s) 0
        rw [ro_nbeq (by omega)]
        cases z : ro_tb (ro_U n o s) r with
        | false => cases ro_tb (ro_U n o p) s <;> rfl
        | true =>
          cases w : ro_tb (ro_U n o p) s with
          | true => exact hfy s (by omega) (by omega) w z
          | false => exact (ro_M0 h2 h5 ho hp s (by omega) w).symm
      · by_cases y : s = r
        · show cond (Nat.beq s r) 0 (cond (ro_tb (ro_U n o p) s) (cond (ro_tb (ro_U n o s) r) (fy s) 0) 0) = 0
          rw [ro_be y]; rfl
        · show cond (Nat.beq s r) 0 (cond (ro_tb (ro_U n o p) s) (cond (ro_tb (ro_U n o s) r) (fy s) 0) 0) = 0
          rw [ro_nbeq y]
          exact ro_ci (fun _ => ro_ci (fun z => by have := ro_le h2 h5 ho b hr z; omega))
    have g : ∀ d s, s + d = ro_fc n → wY_sign_97 post J43 J (nI o) (nI p) x3 (nI r) (nI n) (nI (ro_fc n)) cs hs un ey ry oy fy (d + 1) (ro_si (fun s => cond (Nat.beq s r) 0 (cond (ro_tb (ro_U n o p) s) (cond (ro_tb (ro_U n o s) r) (fy s) 0) 0)) s) (nI s) := by
      intro d
      induction d with
      | zero =>
        intro s hs
        have : s = ro_fc n := by omega
        rw [this, eG]
        have ir : vp_in (nI r) 120 := vp_in_nI (by omega) (by decide)
        refine br_t (nI_le (by omega) (by omega)) ?_
        refine pk_eq r p (fun z => ⟨ir, nm_r (show upd fy (nI r).toNatClampNeg 1 = upd fy r (ro_M n o p r) from ?_) (nm_r (nI_1 r) HJ)⟩) (fun z => ⟨ir, nm_r (show upd fy (nI r).toNatClampNeg (-(ro_si (fun s => cond (ro_tb (ro_U n o s) r) (ro_M n o p s) 0) r)) = upd fy r (ro_M n o p r) from ?_) (nm_r (nI_1 r) HJ)⟩)
        · rw [nI_clamp (by omega), ro_ME, ro_d11 z, ro_si0 r (fun s hs => ro_ci (fun _ => ro_Mlt h2 h5 ho hp (by omega))), ro_sub0]
          rfl
        · rw [nI_clamp (by omega), ro_ME, ro_d10' z]
          exact congrArg (upd fy r) (ro_0sub _).symm
      | succ d ih =>
        intro s hsd
        have hsc : s < ro_fc n := by omega
        have w := ih (s + 1) (by omega)
        rw [ro_siS] at w
        refine br_f (nI_ge (by omega) (by omega)) ?_
        refine pk_eq s r (fun z => nm_r (nI_1 s) ?_) (fun z => ?_)
        · rw [ro_be z] at w
          have w' := w
          rw [show (cond true (0 : Int32) (cond (ro_tb (ro_U n o p) s) (cond (ro_tb (ro_U n o s) r) (fy s) 0) 0)) = 0 from rfl, Int32.add_zero] at w'
          exact w'
        · rw [ro_nbeq z] at w
          refine ro_yib ho hp hsc _ _ cs hs un ey ry oy fy hY ?_
          rw [ro_btz]
          refine br_c (fun y => nm_r (nI_1 s) ?_) (fun y => ?_)
          · rw [y, show (cond false (0 : Int32) (cond false (cond (ro_tb (ro_U n o s) r) (fy s) 0) 0)) = 0 from rfl, Int32.add_zero] at w
            exact w
          · refine ro_yib ho hsc hr _ _ cs hs un ey ry oy fy hY ?_
            rw [ro_btz]
            refine br_c (fun x => nm_r (nI_1 s) ?_) (fun x => ⟨vp_in_nI (by omega) (by decide), ?_⟩)
            · rw [ro_ntf y, x, show (cond false (0 : Int32) (cond true (cond false (fy s) 0) 0)) = 0 from rfl, Int32.add_zero] at w
              exact w
            · rw [ro_ntf y, ro_ntf x] at w
              rw [nI_clamp (by omega)]
              exact nm_e (nm_r (nI_1 s) w)
    exact ⟨ro_fc n + 1, g (ro_fc n) 0 (by omega)⟩
  have g61 : ∀ (J : Int32 → (Nat → Int32) → (Nat → Int32) → (Nat → Int32) → (Nat → Int32) → (Nat → Int32) → (Nat → Int32) → (Nat → Int32) → Prop) h, h ≤ 10 → (∀ t : Nat → Int32, (∀ s, s < ro_fc n → ro_tb (ro_U n o p) s = true → ro_tb (ro_U n o s) q = true → ro_P n (h + 1) 0 s = true → t s = ro_M n o p s) → J (nI (h + 1)) cs hs un ey ry oy t) → ∀ d r fy, r + d = ro_fc n → (∀ s, s < ro_fc n → ro_tb (ro_U n o p) s = true → ro_tb (ro_U n o s) q = true → ro_P n h r s = true → fy s = ro_M n o p s) → wY_sign_61 post J (nI o) (nI p) (nI h) (nI n) (nI (ro_fc n)) (d + 1) (nI r) cs hs un ey ry oy fy := by
    intro J h hh HJ d
    induction d with
    | zero =>
      intro r fy hr e
      refine br_t (nI_le (by omega) (by omega)) (nm_r (nI_1 h) (HJ fy (fun s hs a b c => e s hs a b ?_)))
      rcases Nat.lt_trichotomy (ro_H n s) h with z | z | z
      · exact ro_P1 z
      · rw [ro_P2 z]; exact Nat.ble_eq_true_of_le (by omega)
      · by_cases y : ro_H n s = h + 1
        · rw [ro_P2 y, ro_nble (by omega)] at c; exact absurd c (by decide)
        · rw [ro_P3 (by omega)] at c; exact absurd c (by decide)
    | succ d ih =>
      intro r fy hr e
      have hrc : r < ro_fc n := by omega
      have br := (ro_f2 h2 h5 hrc).2.2.2.1
      have ot : ∀ s, s ≠ r → ro_P n h (r + 1) s = true → ro_P n h r s = true := by
        intro s hs c
        rcases Nat.lt_trichotomy (ro_H n s) h with z | z | z
        · exact ro_P1 z
        · rw [ro_P2 z] at c ⊢
          have := ro_ble c
          exact Nat.ble_eq_true_of_le (by omega)
        · rw [ro_P3 z] at c; exact absurd c (by decide)
      refine br_f (nI_ge (by omega) (by omega)) ⟨vp_in_nI (by omega) (by decide), ?_⟩
      refine pk_eq (ro_H n r) h (fun z => ?_) (fun z => nm_r (nI_1 r) (ih (r + 1) fy (by omega) (fun s hs a b c => ?_))) (by rw [nI_clamp (by omega)]; exact hY.2.1 r hrc)
      · refine ro_ybw h2 h5 ho hp hq hrc _ _ cs hs un ey ry oy fy hY e0 e1 (fun y => br_t rfl (nm_r (nI_1 r) (ih (r + 1) fy (by omega) (fun s hs a b c => ?_)))) (fun y x => br_t rfl (nm_r (nI_1 r) (ih (r + 1) fy (by omega) (fun s hs a b c => ?_)))) (fun y x => br_f (by decide) ?_)
        · by_cases v : s = r
          · rw [v, y] at a; exact absurd a (by decide)
          · exact e s hs a b (ot s v c)
        · by_cases v : s = r
          · rw [v, ← ro_f23 h2 h5 ho hq hrc, x] at b; exact absurd b (by decide)
          · exact e s hs a b (ot s v c)
        · rw [ro_f23 h2 h5 ho hq hrc] at x
          refine f _ _ _ r fy hrc (fun s hs hn a b => e s hs a (ro_ltr h2 h5 ho hs hrc b x) (ro_P1 ?_)) (ih (r + 1) _ (by omega) (fun s hs a b c => ?_))
          · rcases (ro_f24 h2 h5 ho hs hrc b).2 with w | w
            · exact absurd w hn
            · omega
          · exact ro_u (fun v => by rw [v]) (fun v => e s hs a b (ot s v c))
      · by_cases v : s = r
        · refine e s hs a b ?_
          rw [v] at c ⊢
          rcases Nat.lt_trichotomy (ro_H n r) h with w | w | w
          · exact ro_P1 w
          · exact absurd w z
          · rw [ro_P3 w] at c; exact absurd c (by decide)
        · exact e s hs a b (ot s v c)
  unfold wpY_sign
  refine ro_y01 ho _ _ cs hs un ey ry oy fy (br_t rfl (nm_r e0 ?_))
  rw [e1]
  refine ro_yib ho hp hq _ _ cs hs un ey ry oy fy hY ?_
  rw [ro_btz]
  refine br_c (fun z => ?_) (fun z => ⟨vp_in_nI (by omega) (by decide), nm_r (show hs (nI p).toNatClampNeg = nI (ro_H n p) from by rw [nI_clamp (by omega)]; exact hY.2.1 p hp) ?_⟩)
  · have w := H fy
    rw [ro_M0 h2 h5 ho hp q hq z] at w
    exact w
  · have z' := ro_ntf z
    have rq := ro_f24r h2 h5 ho hq
    have hpq : ro_H n p ≤ ro_H n q := by
      rcases (ro_f24 h2 h5 ho hp hq z').2 with w | w
      · rw [w]; exact Nat.le_refl _
      · omega
    have iq : vp_in (ey 1) 120 := by rw [e1]; exact vp_in_nI (by omega) (by decide)
    have eH : hs (ey 1).toNatClampNeg = nI (ro_H n q) := by rw [e1, nI_clamp (by omega)]; exact hY.2.1 q hq
    have g43 : ∀ d h fy, h + d = ro_H n q + 1 → (∀ s, s < ro_fc n → ro_tb (ro_U n o p) s = true → ro_tb (ro_U n o s) q = true → ro_P n h 0 s = true → fy s = ro_M n o p s) → wY_sign_43 post (nI o) (nI p) (nI n) (nI (ro_fc n)) (d + 1) (nI h) cs hs un ey ry oy fy := by
      intro d
      induction d with
      | zero =>
        intro h fy hh e
        refine ⟨iq, br_t (by rw [eH]; exact nI_lt (by omega) (by omega)) ⟨iq, ?_⟩⟩
        rw [e1, nI_clamp (by omega), e q hq z' rq (ro_P1 (by omega))]
        exact H fy
      | succ d ih =>
        intro h fy hh e
        refine ⟨iq, br_f (by rw [eH]; exact nI_nlt (by omega) (by omega)) ⟨ro_fc n + 1, ?_⟩⟩
        exact g61 _ h (by omega) (fun t w => ih (h + 1) t (by omega) w) (ro_fc n) 0 fy (by omega) e
    refine ⟨ro_H n q + 1 - ro_H n p + 1, g43 (ro_H n q + 1 - ro_H n p) (ro_H n p) fy (by omega) (fun s hs a b c => ?_)⟩
    have w := (ro_f24 h2 h5 ho hp hs a).2
    rcases Nat.lt_trichotomy (ro_H n s) (ro_H n p) with x | x | x
    · rcases w with w | w
      · rw [w] at x; omega
      · omega
    · rw [ro_P2 x, ro_nble (by omega)] at c; exact absurd c (by decide)
    · rw [ro_P3 x] at c; exact absurd c (by decide)
theorem i_vc_sign {k : Nat} {u : SX} {v : SY} (I : i_Rel k u v) (hk : k + 4 ≤ 2049) (v1 : Int32) : wpX_sign (fun r u' => wpY_sign (fun r' v' => r' = r ∧ i_Rel (k + 4) u' v') v v1) u v1 := by
  obtain ⟨n, pq, el, ic, er, ra, rb, rm, sm, ma, mb, cs, hs, un, ey, ry, oy, fy, h2, h5, hE, hX, hY, rfl, rfl⟩ := I
  obtain ⟨p1, p2, p3⟩ := hE 0 (by decide)
  obtain ⟨q1, q2, q3⟩ := hE 1 (by decide)
  rcases ro_ar v1 (n := 2) (by decide) with h | ⟨o, ho, rfl⟩
  · unfold wpX_sign
    refine ro_x01b h _ _ el ic er ra rb rm sm ma mb (br_t rfl ?_)
    unfold wpY_sign
    exact ro_y01b h _ _ cs hs un ey ry oy fy (br_f (by decide) ⟨rfl, ro_rel h2 h5 hE hX hY _ _ _ _ _ _ _ _ _⟩)
  · refine ro_xsign h2 h5 p1 q1 ho _ _ el ic er ra rb rm sm ma mb rfl hX p2 q2 (fun t s => ?_)
    refine ro_ysign h2 h5 p1 q1 ho _ _ cs hs un ey ry oy fy rfl hY p3 q3 (fun t' => ?_)
    exact ⟨rfl, ro_rel h2 h5 hE hX hY _ _ _ _ _ _ _ _ _⟩
