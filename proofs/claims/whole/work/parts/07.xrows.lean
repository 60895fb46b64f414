/-! X: rows of numbers -/
theorem ro_u {f : Nat → Int32} {k j : Nat} {x v : Int32} (h1 : j = k → x = v) (h2 : j ≠ k → f j = v) : upd f k x j = v := by
  by_cases h : j = k
  · rw [h, pk_us]; exact h1 h
  · rw [pk_un h]; exact h2 h
theorem ro_lrb (n k : Nat) : ∀ c j, ro_lr n k c j ≤ c := by
  intro c
  induction c with
  | zero => intro j; exact Nat.le_refl 0
  | succ c ih =>
    intro j
    show cond (Nat.beq j (n - (c + 1))) (ro_dg k c) (cond (Nat.ble (ro_dg k c) (ro_lr n k c j)) (Nat.succ (ro_lr n k c j)) (ro_lr n k c j)) ≤ c + 1
    have h1 : ro_dg k c ≤ c + 1 := by
      unfold ro_dg
      exact Nat.succ_le_of_lt (Nat.mod_lt _ (Nat.succ_pos c))
    have h2 := ih j
    cases Nat.beq j (n - (c + 1))
    · cases Nat.ble (ro_dg k c) (ro_lr n k c j)
      · exact Nat.le_succ_of_le h2
      · exact Nat.succ_le_succ h2
    · exact h1
theorem ro_rsb (k : Nat) : ∀ c, ro_rs k c ≤ k := by
  intro c
  induction c with
  | zero => exact Nat.le_refl k
  | succ c ih => exact Nat.le_trans (Nat.div_le_self _ _) ih
theorem ro_dgb (k c : Nat) : ro_dg k c ≤ c + 1 := Nat.succ_le_of_lt (Nat.mod_lt _ (Nat.succ_pos c))
theorem ro_xl44_made {n : Nat} (h5 : n ≤ 5) (post : SX → Prop) (J5 : Int32 → Int32 → (Nat → Int32) → (Nat → Int32) → (Nat → Int32) → (Nat → Int32) → (Nat → Int32) → (Nat → Int32) → (Nat → Int32) → (Nat → Int32) → (Nat → Int32) → Prop) (x3 x4 : Int32) {i g : Nat} {v : Nat → Nat} (hi : i < n) (hg : g < 100) (hv : ∀ j, v j < 100) (fC : Int32) (el ic er ra rb rm sm ma mb : Nat → Int32)
    (HJ : ∀ t : Nat → Int32, t i = nI g → (∀ j, i < j → j < n → t j = nI (cond (Nat.ble g (v j)) (v j + 1) (v j))) → J5 x3 (x4 + 1) el ic er ra rb t sm ma mb) :
    ∀ d y rm, y + d = n → i < y → rm i = nI g → (∀ j, i < j → j < y → rm j = nI (cond (Nat.ble g (v j)) (v j + 1) (v j))) → (∀ j, y ≤ j → j < n → rm j = nI (v j)) → wX_loadRow__made_44 post J5 x3 x4 (nI i) (nI n) fC (d + 1) (nI y) el ic er ra rb rm sm ma mb := by
  intro d
  induction d with
  | zero =>
    intro y rm hy hiy e0 e1 e2
    exact br_t (nI_le (by omega) (by omega)) (nm_e (HJ rm e0 (fun j a b => e1 j a (by omega))))
  | succ d ih =>
    intro y rm hy hiy e0 e1 e2
    have cy : (nI y).toNatClampNeg = y := nI_clamp (by omega)
    have ci : (nI i).toNatClampNeg = i := nI_clamp (by omega)
    have ey := e2 y (Nat.le_refl y) (by omega)
    have iny : vp_in (nI y) 5 := vp_in_nI (by omega) (by omega)
    have hvy := hv y
    refine br_f (nI_ge (by omega) (by omega)) ⟨iny, vp_in_nI (by omega) (by omega), ?_⟩
    refine pk_lt (v y) g (fun h => nm_r (nI_1 y) (ih (y + 1) rm (by omega) (by omega) e0 ?_ ?_)) (fun h => ⟨iny, iny, nm_r (show upd rm (nI y).toNatClampNeg (rm (nI y).toNatClampNeg + 1) = upd rm y (nI (v y + 1)) from by rw [cy, ey, nI_1]) (nm_r (nI_1 y) (ih (y + 1) (upd rm y (nI (v y + 1))) (by omega) (by omega) ?_ ?_ ?_))⟩) (by rw [cy]; exact ey) (by rw [ci]; exact e0)
    · intro j a b
      by_cases q : j = y
      · rw [q, ey, ro_nble h]; rfl
      · exact e1 j a (by omega)
    · intro j a b; exact e2 j (by omega) b
    · exact ro_u (fun q => by omega) (fun _ => e0)
    · intro j a b
      refine ro_u (fun q => ?_) (fun q => e1 j a (by omega))
      rw [q, Nat.ble_eq_true_of_le h]; rfl
    · intro j a b
      exact ro_u (fun q => by omega) (fun _ => e2 j (by omega) b)
theorem ro_xl5_made {n : Nat} (h5 : n ≤ 5) {k : Nat} (hk : k < 120) (post : SX → Prop) (fC : Int32) (el ic er ra rb rm sm ma mb : Nat → Int32)
    (H : ∀ t : Nat → Int32, (∀ j, j < n → t j = nI (ro_lr n k n j)) → post (nI n, fC, el, ic, er, ra, rb, t, sm, ma, mb)) :
    ∀ d c rm, c + d = n → (∀ j, n - c ≤ j → j < n → rm j = nI (ro_lr n k c j)) → wX_loadRow__made_5 post (nI n) fC (d + 1) (nI (ro_rs k c)) (nI (c + 1)) el ic er ra rb rm sm ma mb := by
  intro d
  induction d with
  | zero =>
    intro c rm hc e
    have hcn : c = n := by omega
    rw [hcn] at e
    exact br_t (nI_lt (by omega) (by omega)) (H rm (fun j hj => e j (by omega) hj))
  | succ d ih =>
    intro c rm hc e
    have hr := ro_rsb k c
    have hd := ro_dgb k c
    have c0 : ¬ nI (c + 1) = 0 := nI_ne0 (by omega) (by omega)
    have ci : (nI (n - (c + 1))).toNatClampNeg = n - (c + 1) := nI_clamp (by omega)
    refine br_f (nI_nlt (by omega) (by omega)) (nm_r (pk_sub (by omega)) ⟨c0, vp_in_nI (by omega) (by omega), ?_⟩)
    refine nm_r (show upd rm (nI (n - (c + 1))).toNatClampNeg (nI (ro_rs k c) - nI (ro_rs k c) / nI (c + 1) * nI (c + 1) + 1) = upd rm (n - (c + 1)) (nI (ro_dg k c)) from by
      rw [ci, pk_rem (by omega) (by omega) (by omega), nI_1]; rfl) ⟨c0, ?_⟩
    refine nm_r (show nI (ro_rs k c) / nI (c + 1) = nI (ro_rs k (c + 1)) from by rw [pk_div (by omega) (by omega) (by omega)]; rfl) ?_
    refine nm_r (nI_1 _) ⟨c + 1, ?_⟩
    refine ro_xl44_made h5 post _ _ _ (i := n - (c + 1)) (g := ro_dg k c) (v := ro_lr n k c) (by omega) (by omega) (fun j => by have := ro_lrb n k c j; omega) fC el ic er ra rb rm sm ma mb ?_ c (n - (c + 1) + 1) _ (by omega) (by omega) pk_us (fun j a b => by omega) (fun j a b => ro_u (fun q => by omega) (fun _ => e j (by omega) b))
    intro t t0 t1
    rw [nI_1]
    refine ih (c + 1) t (by omega) ?_
    intro j a b
    show t j = nI (cond (Nat.beq j (n - (c + 1))) (ro_dg k c) (cond (Nat.ble (ro_dg k c) (ro_lr n k c j)) (ro_lr n k c j + 1) (ro_lr n k c j)))
    by_cases q : j = n - (c + 1)
    · rw [ro_be q, q]; exact t0
    · have q' : Nat.beq j (n - (c + 1)) = false := by
        cases z : Nat.beq j (n - (c + 1)) with
        | false => rfl
        | true => exact absurd (ro_beq z) q
      rw [q']; exact t1 j (by omega) b
theorem ro_xload_made {n : Nat} (h2 : 2 ≤ n) (h5 : n ≤ 5) {k : Nat} (hk : k < ro_fc n) (post : SX → Prop) (fC : Int32) (el ic er ra rb rm sm ma mb : Nat → Int32)
    (H : ∀ t : Nat → Int32, (∀ j, j < n → t j = nI (ro_R n k j)) → post (nI n, fC, el, ic, er, ra, rb, t, sm, ma, mb)) : wpX_loadRow__made post (nI n, fC, el, ic, er, ra, rb, rm, sm, ma, mb) (nI k) := by
  have hc := ro_c120 n
  refine ⟨n + 1, ?_⟩
  exact ro_xl5_made h5 (by omega) post fC el ic er ra rb rm sm ma mb (fun t ht => H t (fun j hj => by rw [ht j hj, (ro_fR h2 h5 hk hj).1])) n 0 rm (by omega) (fun j a b => by omega)
theorem ro_xl44_row {n : Nat} (h5 : n ≤ 5) (post : SX → Prop) (J5 : Int32 → Int32 → (Nat → Int32) → (Nat → Int32) → (Nat → Int32) → (Nat → Int32) → (Nat → Int32) → (Nat → Int32) → (Nat → Int32) → (Nat → Int32) → (Nat → Int32) → Prop) (x3 x4 : Int32) {i g : Nat} {v : Nat → Nat} (hi : i < n) (hg : g < 100) (hv : ∀ j, v j < 100) (fC : Int32) (el ic er ra rb rm sm ma mb : Nat → Int32)
    (HJ : ∀ t : Nat → Int32, t i = nI g → (∀ j, i < j → j < n → t j = nI (cond (Nat.ble g (v j)) (v j + 1) (v j))) → J5 x3 (x4 + 1) el ic er t rb rm sm ma mb) :
    ∀ d y ra, y + d = n → i < y → ra i = nI g → (∀ j, i < j → j < y → ra j = nI (cond (Nat.ble g (v j)) (v j + 1) (v j))) → (∀ j, y ≤ j → j < n → ra j = nI (v j)) → wX_loadRow__row_44 post J5 x3 x4 (nI i) (nI n) fC (d + 1) (nI y) el ic er ra rb rm sm ma mb := by
  intro d
  induction d with
  | zero =>
    intro y ra hy hiy e0 e1 e2
    exact br_t (nI_le (by omega) (by omega)) (nm_e (HJ ra e0 (fun j a b => e1 j a (by omega))))
  | succ d ih =>
    intro y ra hy hiy e0 e1 e2
    have cy : (nI y).toNatClampNeg = y := nI_clamp (by omega)
    have ci : (nI i).toNatClampNeg = i := nI_clamp (by omega)
    have ey := e2 y (Nat.le_refl y) (by omega)
    have iny : vp_in (nI y) 5 := vp_in_nI (by omega) (by omega)
    have hvy := hv y
    refine br_f (nI_ge (by omega) (by omega)) ⟨iny, vp_in_nI (by omega) (by omega), ?_⟩
    refine pk_lt (v y) g (fun h => nm_r (nI_1 y) (ih (y + 1) ra (by omega) (by omega) e0 ?_ ?_)) (fun h => ⟨iny, iny, nm_r (show upd ra (nI y).toNatClampNeg (ra (nI y).toNatClampNeg + 1) = upd ra y (nI (v y + 1)) from by rw [cy, ey, nI_1]) (nm_r (nI_1 y) (ih (y + 1) (upd ra y (nI (v y + 1))) (by omega) (by omega) ?_ ?_ ?_))⟩) (by rw [cy]; exact ey) (by rw [ci]; exact e0)
    · intro j a b
      by_cases q : j = y
      · rw [q, ey, ro_nble h]; rfl
      · exact e1 j a (by omega)
    · intro j a b; exact e2 j (by omega) b
    · exact ro_u (fun q => by omega) (fun _ => e0)
    · intro j a b
      refine ro_u (fun q => ?_) (fun q => e1 j a (by omega))
      rw [q, Nat.ble_eq_true_of_le h]; rfl
    · intro j a b
      exact ro_u (fun q => by omega) (fun _ => e2 j (by omega) b)
theorem ro_xl5_row {n : Nat} (h5 : n ≤ 5) {k : Nat} (hk : k < 120) (post : SX → Prop) (fC : Int32) (el ic er ra rb rm sm ma mb : Nat → Int32)
    (H : ∀ t : Nat → Int32, (∀ j, j < n → t j = nI (ro_lr n k n j)) → post (nI n, fC, el, ic, er, t, rb, rm, sm, ma, mb)) :
    ∀ d c ra, c + d = n → (∀ j, n - c ≤ j → j < n → ra j = nI (ro_lr n k c j)) → wX_loadRow__row_5 post (nI n) fC (d + 1) (nI (ro_rs k c)) (nI (c + 1)) el ic er ra rb rm sm ma mb := by
  intro d
  induction d with
  | zero =>
    intro c ra hc e
    have hcn : c = n := by omega
    rw [hcn] at e
    exact br_t (nI_lt (by omega) (by omega)) (H ra (fun j hj => e j (by omega) hj))
  | succ d ih =>
    intro c ra hc e
    have hr := ro_rsb k c
    have hd := ro_dgb k c
    have c0 : ¬ nI (c + 1) = 0 := nI_ne0 (by omega) (by omega)
    have ci : (nI (n - (c + 1))).toNatClampNeg = n - (c + 1) := nI_clamp (by omega)
    refine br_f (nI_nlt (by omega) (by omega)) (nm_r (pk_sub (by omega)) ⟨c0, vp_in_nI (by omega) (by omega), ?_⟩)
    refine nm_r (show upd ra (nI (n - (c + 1))).toNatClampNeg (nI (ro_rs k c) - nI (ro_rs k c) / nI (c + 1) * nI (c + 1) + 1) = upd ra (n - (c + 1)) (nI (ro_dg k c)) from by
      rw [ci, pk_rem (by omega) (by omega) (by omega), nI_1]; rfl) ⟨c0, ?_⟩
    refine nm_r (show nI (ro_rs k c) / nI (c + 1) = nI (ro_rs k (c + 1)) from by rw [pk_div (by omega) (by omega) (by omega)]; rfl) ?_
    refine nm_r (nI_1 _) ⟨c + 1, ?_⟩
    refine ro_xl44_row h5 post _ _ _ (i := n - (c + 1)) (g := ro_dg k c) (v := ro_lr n k c) (by omega) (by omega) (fun j => by have := ro_lrb n k c j; omega) fC el ic er ra rb rm sm ma mb ?_ c (n - (c + 1) + 1) _ (by omega) (by omega) pk_us (fun j a b => by omega) (fun j a b => ro_u (fun q => by omega) (fun _ => e j (by omega) b))
    intro t t0 t1
    rw [nI_1]
    refine ih (c + 1) t (by omega) ?_
    intro j a b
    show t j = nI (cond (Nat.beq j (n - (c + 1))) (ro_dg k c) (cond (Nat.ble (ro_dg k c) (ro_lr n k c j)) (ro_lr n k c j + 1) (ro_lr n k c j)))
    by_cases q : j = n - (c + 1)
    · rw [ro_be q, q]; exact t0
    · have q' : Nat.beq j (n - (c + 1)) = false := by
        cases z : Nat.beq j (n - (c + 1)) with
        | false => rfl
        | true => exact absurd (ro_beq z) q
      rw [q']; exact t1 j (by omega) b
theorem ro_xload_row {n : Nat} (h2 : 2 ≤ n) (h5 : n ≤ 5) {k : Nat} (hk : k < ro_fc n) (post : SX → Prop) (fC : Int32) (el ic er ra rb rm sm ma mb : Nat → Int32)
    (H : ∀ t : Nat → Int32, (∀ j, j < n → t j = nI (ro_R n k j)) → post (nI n, fC, el, ic, er, t, rb, rm, sm, ma, mb)) : wpX_loadRow__row post (nI n, fC, el, ic, er, ra, rb, rm, sm, ma, mb) (nI k) := by
  have hc := ro_c120 n
  refine ⟨n + 1, ?_⟩
  exact ro_xl5_row h5 (by omega) post fC el ic er ra rb rm sm ma mb (fun t ht => H t (fun j hj => by rw [ht j hj, (ro_fR h2 h5 hk hj).1])) n 0 ra (by omega) (fun j a b => by omega)
theorem ro_xl44_otherRow {n : Nat} (h5 : n ≤ 5) (post : SX → Prop) (J5 : Int32 → Int32 → (Nat → Int32) → (Nat → Int32) → (Nat → Int32) → (Nat → Int32) → (Nat → Int32) → (Nat → Int32) → (Nat → Int32) → (Nat → Int32) → (Nat → Int32) → Prop) (x3 x4 : Int32) {i g : Nat} {v : Nat → Nat} (hi : i < n) (hg : g < 100) (hv : ∀ j, v j < 100) (fC : Int32) (el ic er ra rb rm sm ma mb : Nat → Int32)
    (HJ : ∀ t : Nat → Int32, t i = nI g → (∀ j, i < j → j < n → t j = nI (cond (Nat.ble g (v j)) (v j + 1) (v j))) → J5 x3 (x4 + 1) el ic er ra t rm sm ma mb) :
    ∀ d y rb, y + d = n → i < y → rb i = nI g → (∀ j, i < j → j < y → rb j = nI (cond (Nat.ble g (v j)) (v j + 1) (v j))) → (∀ j, y ≤ j → j < n → rb j = nI (v j)) → wX_loadRow__otherRow_44 post J5 x3 x4 (nI i) (nI n) fC (d + 1) (nI y) el ic er ra rb rm sm ma mb := by
  intro d
  induction d with
  | zero =>
    intro y rb hy hiy e0 e1 e2
    exact br_t (nI_le (by omega) (by omega)) (nm_e (HJ rb e0 (fun j a b => e1 j a (by omega))))
  | succ d ih =>
    intro y rb hy hiy e0 e1 e2
    have cy : (nI y).toNatClampNeg = y := nI_clamp (by omega)
    have ci : (nI i).toNatClampNeg = i := nI_clamp (by omega)
    have ey := e2 y (Nat.le_refl y) (by omega)
    have iny : vp_in (nI y) 5 := vp_in_nI (by omega) (by omega)
    have hvy := hv y
    refine br_f (nI_ge (by omega) (by omega)) ⟨iny, vp_in_nI (by omega) (by omega), ?_⟩
    refine pk_lt (v y) g (fun h => nm_r (nI_1 y) (ih (y + 1) rb (by omega) (by omega) e0 ?_ ?_)) (fun h => ⟨iny, iny, nm_r (show upd rb (nI y).toNatClampNeg (rb (nI y).toNatClampNeg + 1) = upd rb y (nI (v y + 1)) from by rw [cy, ey, nI_1]) (nm_r (nI_1 y) (ih (y + 1) (upd rb y (nI (v y + 1))) (by omega) (by omega) ?_ ?_ ?_))⟩) (by rw [cy]; exact ey) (by rw [ci]; exact e0)
    · intro j a b
      by_cases q : j = y
      · rw [q, ey, ro_nble h]; rfl
      · exact e1 j a (by omega)
    · intro j a b; exact e2 j (by omega) b
    · exact ro_u (fun q => by omega) (fun _ => e0)
    · intro j a b
      refine ro_u (fun q => ?_) (fun q => e1 j a (by omega))
      rw [q, Nat.ble_eq_true_of_le h]; rfl
    · intro j a b
      exact ro_u (fun q => by omega) (fun _ => e2 j (by omega) b)
theorem ro_xl5_otherRow {n : Nat} (h5 : n ≤ 5) {k : Nat} (hk : k < 120) (post : SX → Prop) (fC : Int32) (el ic er ra rb rm sm ma mb : Nat → Int32)
    (H : ∀ t : Nat → Int32, (∀ j, j < n → t j = nI (ro_lr n k n j)) → post (nI n, fC, el, ic, er, ra, t, rm, sm, ma, mb)) :
    ∀ d c rb, c + d = n → (∀ j, n - c ≤ j → j < n → rb j = nI (ro_lr n k c j)) → wX_loadRow__otherRow_5 post (nI n) fC (d + 1) (nI (ro_rs k c)) (nI (c + 1)) el ic er ra rb rm sm ma mb := by
  intro d
  induction d with
  | zero =>
    intro c rb hc e
    have hcn : c = n := by omega
    rw [hcn] at e
    exact br_t (nI_lt (by omega) (by omega)) (H rb (fun j hj => e j (by omega) hj))
  | succ d ih =>
    intro c rb hc e
    have hr := ro_rsb k c
    have hd := ro_dgb k c
    have c0 : ¬ nI (c + 1) = 0 := nI_ne0 (by omega) (by omega)
    have ci : (nI (n - (c + 1))).toNatClampNeg = n - (c + 1) := nI_clamp (by omega)
    refine br_f (nI_nlt (by omega) (by omega)) (nm_r (pk_sub (by omega)) ⟨c0, vp_in_nI (by omega) (by omega), ?_⟩)
    refine nm_r (show upd rb (nI (n - (c + 1))).toNatClampNeg (nI (ro_rs k c) - nI (ro_rs k c) / nI (c + 1) * nI (c + 1) + 1) = upd rb (n - (c + 1)) (nI (ro_dg k c)) from by
      rw [ci, pk_rem (by omega) (by omega) (by omega), nI_1]; rfl) ⟨c0, ?_⟩
    refine nm_r (show nI (ro_rs k c) / nI (c + 1) = nI (ro_rs k (c + 1)) from by rw [pk_div (by omega) (by omega) (by omega)]; rfl) ?_
    refine nm_r (nI_1 _) ⟨c + 1, ?_⟩
    refine ro_xl44_otherRow h5 post _ _ _ (i := n - (c + 1)) (g := ro_dg k c) (v := ro_lr n k c) (by omega) (by omega) (fun j => by have := ro_lrb n k c j; omega) fC el ic er ra rb rm sm ma mb ?_ c (n - (c + 1) + 1) _ (by omega) (by omega) pk_us (fun j a b => by omega) (fun j a b => ro_u (fun q => by omega) (fun _ => e j (by omega) b))
    intro t t0 t1
    rw [nI_1]
    refine ih (c + 1) t (by omega) ?_
    intro j a b
    show t j = nI (cond (Nat.beq j (n - (c + 1))) (ro_dg k c) (cond (Nat.ble (ro_dg k c) (ro_lr n k c j)) (ro_lr n k c j + 1) (ro_lr n k c j)))
    by_cases q : j = n - (c + 1)
    · rw [ro_be q, q]; exact t0
    · have q' : Nat.beq j (n - (c + 1)) = false := by
        cases z : Nat.beq j (n - (c + 1)) with
        | false => rfl
        | true => exact absurd (ro_beq z) q
      rw [q']; exact t1 j (by omega) b
theorem ro_xload_otherRow {n : Nat} (h2 : 2 ≤ n) (h5 : n ≤ 5) {k : Nat} (hk : k < ro_fc n) (post : SX → Prop) (fC : Int32) (el ic er ra rb rm sm ma mb : Nat → Int32)
    (H : ∀ t : Nat → Int32, (∀ j, j < n → t j = nI (ro_R n k j)) → post (nI n, fC, el, ic, er, ra, t, rm, sm, ma, mb)) : wpX_loadRow__otherRow post (nI n, fC, el, ic, er, ra, rb, rm, sm, ma, mb) (nI k) := by
  have hc := ro_c120 n
  refine ⟨n + 1, ?_⟩
  exact ro_xl5_otherRow h5 (by omega) post fC el ic er ra rb rm sm ma mb (fun t ht => H t (fun j hj => by rw [ht j hj, (ro_fR h2 h5 hk hj).1])) n 0 rb (by omega) (fun j a b => by omega)
theorem ro_ct0 (r : Nat → Nat) (i : Nat) : ∀ j, j ≤ i + 1 → ro_ct r i j = 0 := by
  intro j
  induction j with
  | zero => intro _; rfl
  | succ j ih =>
    intro h
    show cond (Nat.ble (i + 1) j) (cond (Nat.ble (r j + 1) (r i)) (ro_ct r i j + 1) (ro_ct r i j)) (ro_ct r i j) = 0
    rw [ro_nble (by omega)]
    exact ih (by omega)
theorem ro_ctb (r : Nat → Nat) (i : Nat) : ∀ j, ro_ct r i j ≤ j := by
  intro j
  induction j with
  | zero => exact Nat.le_refl 0
  | succ j ih =>
    show cond (Nat.ble (i + 1) j) (cond (Nat.ble (r j + 1) (r i)) (ro_ct r i j + 1) (ro_ct r i j)) (ro_ct r i j) ≤ j + 1
    cases Nat.ble (i + 1) j
    · exact Nat.le_succ_of_le ih
    · cases Nat.ble (r j + 1) (r i)
      · exact Nat.le_succ_of_le ih
      · exact Nat.succ_le_succ ih
theorem ro_cts1 {r : Nat → Nat} {i j : Nat} (h : i < j) (h' : r j < r i) : ro_ct r i (j + 1) = ro_ct r i j + 1 := by
  show cond (Nat.ble (i + 1) j) (cond (Nat.ble (r j + 1) (r i)) (ro_ct r i j + 1) (ro_ct r i j)) (ro_ct r i j) = _
  rw [Nat.ble_eq_true_of_le h, Nat.ble_eq_true_of_le h']; rfl
theorem ro_cts0 {r : Nat → Nat} {i j : Nat} (h : i < j) (h' : r i ≤ r j) : ro_ct r i (j + 1) = ro_ct r i j := by
  show cond (Nat.ble (i + 1) j) (cond (Nat.ble (r j + 1) (r i)) (ro_ct r i j + 1) (ro_ct r i j)) (ro_ct r i j) = _
  rw [Nat.ble_eq_true_of_le h, ro_nble (Nat.lt_succ_of_le h')]; rfl
section
variable {n : Nat} (h5 : n ≤ 5) {r : Nat → Nat} (hr : ∀ j, j < n → r j < 100) (fC : Int32) (el ic er ra rb rm sm ma mb : Nat → Int32) (e : ∀ j, j < n → rm j = nI (r j))
theorem ro_xcl7 (h5 : n ≤ 5) (hr : ∀ j, j < n → r j < 100) (e : ∀ j, j < n → rm j = nI (r j)) {i : Nat} (hi : i < n) (post : Int32 → Prop) (H : post (nI (ro_ct r i n))) : ∀ d j, j + d = n → i < j → wX_countLesserBehind__made_7 post (nI i) (nI n) fC el ic er ra rb rm sm ma mb (d + 1) (nI (ro_ct r i j)) (nI j) := by
  intro d
  induction d with
  | zero =>
    intro j hj hij
    have : j = n := by omega
    rw [this]
    exact br_t (nI_le (by omega) (by omega)) H
  | succ d ih =>
    intro j hj hij
    have cj : (nI j).toNatClampNeg = j := nI_clamp (by omega)
    have ci : (nI i).toNatClampNeg = i := nI_clamp (by omega)
    have h1 := hr j (by omega)
    have h2 := hr i hi
    refine br_f (nI_ge (by omega) (by omega)) ⟨vp_in_nI (by omega) (by omega), vp_in_nI (by omega) (by omega), ?_⟩
    refine pk_le (r i) (r j) (fun h => nm_r (nI_1 j) ?_) (fun h => nm_r (nI_1 _) (nm_r (nI_1 j) ?_)) (by rw [ci]; exact e i hi) (by rw [cj]; exact e j (by omega))
    · rw [← ro_cts0 hij h]; exact ih (j + 1) (by omega) (by omega)
    · rw [← ro_cts1 hij h]; exact ih (j + 1) (by omega) (by omega)
theorem ro_xcl (h5 : n ≤ 5) (hr : ∀ j, j < n → r j < 100) (e : ∀ j, j < n → rm j = nI (r j)) {i : Nat} (hi : i < n) (post : Int32 → Prop) (H : post (nI (ro_ct r i n))) : wpX_countLesserBehind__made post (nI n, fC, el, ic, er, ra, rb, rm, sm, ma, mb) (nI i) := by
  refine nm_r (nI_1 i) ⟨n - (i + 1) + 1, ?_⟩
  have h := ro_xcl7 fC el ic er ra rb rm sm ma mb h5 hr e hi post H (n - (i + 1)) (i + 1) (by omega) (by omega)
  rw [ro_ct0 r i (i + 1) (by omega)] at h
  exact h
theorem ro_xci (h5 : n ≤ 5) (hr : ∀ j, j < n → r j < 100) (e : ∀ j, j < n → rm j = nI (r j)) (post : Int32 → Prop) (H : post (nI (ro_iv r n n))) : wpX_countInversions__made post (nI n, fC, el, ic, er, ra, rb, rm, sm, ma, mb) := by
  have g : ∀ d i, i + d = n → wX_countInversions__made_4 post (nI n) fC el ic er ra rb rm sm ma mb (d + 1) (nI (ro_iv r n i)) (nI i) := by
    intro d
    induction d with
    | zero =>
      intro i hi
      have : i = n := by omega
      rw [this]
      exact br_t (nI_le (by omega) (by omega)) H
    | succ d ih =>
      intro i hi
      refine br_f (nI_ge (by omega) (by omega)) (ro_xcl fC el ic er ra rb rm sm ma mb h5 hr e (by omega) _ (nm_r (nI_add _ _) (nm_r (nI_1 i) ?_)))
      exact ih (i + 1) (by omega)
  exact ⟨n + 1, g n 0 (by omega)⟩
theorem ro_xrk (h5 : n ≤ 5) (hr : ∀ j, j < n → r j < 100) (e : ∀ j, j < n → rm j = nI (r j)) (post : Int32 → Prop) (H : post (nI (ro_rk r n n))) : wpX_rankOfRow__made post (nI n, fC, el, ic, er, ra, rb, rm, sm, ma, mb) := by
  have g : ∀ d i, i + d = n → wX_rankOfRow__made_4 post (nI n) fC el ic er ra rb rm sm ma mb (d + 1) (nI (ro_rk r n i)) (nI i) := by
    intro d
    induction d with
    | zero =>
      intro i hi
      have : i = n := by omega
      rw [this]
      exact br_t (nI_le (by omega) (by omega)) H
    | succ d ih =>
      intro i hi
      refine br_f (nI_ge (by omega) (by omega)) (ro_xcl fC el ic er ra rb rm sm ma mb h5 hr e (by omega) _ (nm_r (show nI (ro_rk r n i) * (nI n - nI i) + nI (ro_ct r i n) = nI (ro_rk r n (i + 1)) from by rw [pk_sub (by omega), pk_mul, nI_add]; rfl) (nm_r (nI_1 i) ?_)))
      exact ih (i + 1) (by omega)
  exact ⟨n + 1, g n 0 (by omega)⟩
end
theorem ro_swE {n : Nat} {r : Nat → Nat} {t : Nat → Int32} (e : ∀ j, j < n → t j = nI (r j)) {i j : Nat} (hi : i < n) (hj : j < n) : ∀ x, x < n → upd (upd t i (t j)) j (t i) x = nI (ro_sw r i j x) := by
  intro x hx
  refine ro_u (fun q => ?_) (fun q => ?_)
  · unfold ro_sw; rw [ro_be q, e i hi]; rfl
  · have q' : Nat.beq x j = false := by
      cases z : Nat.beq x j with
      | false => rfl
      | true => exact absurd (ro_beq z) q
    unfold ro_sw
    rw [q']
    refine ro_u (fun p => ?_) (fun p => ?_)
    · rw [ro_be p, e j hj]; rfl
    · have p' : Nat.beq x i = false := by
        cases z : Nat.beq x i with
        | false => rfl
        | true => exact absurd (ro_beq z) p
      rw [p', e x hx]; rfl
theorem ro_xex {n : Nat} (h5 : n ≤ 5) {i j : Nat} (hi : i < n) (hj : j < n) (post : SX → Prop) (fN : Int32) (fC : Int32) (el ic er ra rb rm sm ma mb : Nat → Int32) (H : post (fN, fC, el, ic, er, ra, rb, (upd (upd rm i (rm j)) j (rm i)), sm, ma, mb)) : wpX_exchangeNumbers__made post (fN, fC, el, ic, er, ra, rb, rm, sm, ma, mb) (nI i) (nI j) := by
  have ci : (nI i).toNatClampNeg = i := nI_clamp (by omega)
  have cj : (nI j).toNatClampNeg = j := nI_clamp (by omega)
  have ii : vp_in (nI i) 5 := vp_in_nI (by omega) (by omega)
  have ij : vp_in (nI j) 5 := vp_in_nI (by omega) (by omega)
  refine ⟨ii, nm_e ⟨ij, ii, nm_e ⟨ij, nm_e ?_⟩⟩⟩
  rw [ci, cj]; exact H
