section
variable {ob hd st sz pX nX pY nY dc dn : Nat → Int32} {fd rc : Int32}
theorem cc_sup {ke d : Nat → Int32} {n c : Nat} (hn : n ≤ 20) (hc : c < 16) (G : ∀ r, r < n → cc_G hd st sz pX nX pY nY r) (B : cc_Bd d) : ∀ (k i : Nat), i + k = n → ∃ a : Int32,
    (∀ post : Int32 → SX → Prop, post a (nI n, fd, ob, hd, st, sz, pX, nX, dc, dn, d, ke) → wX_supporter_15 post (nI c) (nI n) fd ob hd st sz pX nX dc dn d ke (k + 1) (nI i)) ∧
    (∀ post : Int32 → SY → Prop, post a (fd, nI n, ob, dc, dn, hd, st, sz, pY, nY, d, ke) → wY_supporter_19 post (nI c) fd (nI n) ob dc dn hd st sz pY nY d ke (k + 1) (nI i)) := by
  have hcin : vp_in (nI c) 16 := vp_in_nI hc (by omega)
  intro k
  induction k with
  | zero =>
    intro i hi
    have hle : nI n ≤ nI i := nI_le (by omega) (by omega)
    exact ⟨-2, fun post hP => br_t hle hP, fun post hP => br_t hle hP⟩
  | succ k ih =>
    intro i hi
    have hlt : ¬ nI n ≤ nI i := nI_ge (by omega) (by omega)
    have h20 : ¬ (20 : Int32) ≤ nI i := nI_ge (b := 20) (by omega) (by decide)
    have hin : vp_in (nI i) 20 := vp_in_nI (by omega) (by omega)
    obtain ⟨a, hX, hY⟩ := ih (i + 1) (by omega)
    obtain ⟨y, hy, yX, yY⟩ := cc_yield (ob := ob) (dc := dc) (dn := dn) (ke := ke) (fd := fd) (rc := nI n) (by omega) (G i (by omega)) B
    by_cases e1 : hd (nI i).toNatClampNeg = nI c
    · by_cases e2 : d (nI c).toNatClampNeg ≤ 0
      · exact ⟨a, fun post hP => br_f hlt ⟨hin, br_t e1 ⟨hcin, br_t e2 (nm_r (nI_1 i) (hX post hP))⟩⟩, fun post hP => br_f hlt (br_f h20 ⟨hin, br_t e1 ⟨hcin, br_t e2 (nm_r (nI_1 i) (hY post hP))⟩⟩)⟩
      · by_cases e3 : nI y = d (nI c).toNatClampNeg
        · exact ⟨nI i, fun post hP => br_f hlt ⟨hin, br_t e1 ⟨hcin, br_f e2 (yX _ ⟨hcin, br_t e3 hP⟩)⟩⟩, fun post hP => br_f hlt (br_f h20 ⟨hin, br_t e1 ⟨hcin, br_f e2 (yY _ ⟨hcin, br_t e3 hP⟩)⟩⟩)⟩
        · exact ⟨a, fun post hP => br_f hlt ⟨hin, br_t e1 ⟨hcin, br_f e2 (yX _ ⟨hcin, br_f e3 (nm_r (nI_1 i) (hX post hP))⟩)⟩⟩, fun post hP => br_f hlt (br_f h20 ⟨hin, br_t e1 ⟨hcin, br_f e2 (yY _ ⟨hcin, br_f e3 (nm_r (nI_1 i) (hY post hP))⟩)⟩⟩)⟩
    · exact ⟨a, fun post hP => br_f hlt ⟨hin, br_f e1 (nm_r (nI_1 i) (hX post hP))⟩, fun post hP => br_f hlt (br_f h20 ⟨hin, br_f e1 (nm_r (nI_1 i) (hY post hP))⟩)⟩
theorem cc_atL {ke d : Nat → Int32} (x : Int32) : ∀ (k i : Nat) (a : Int32), i + k = 16 → ∃ r : Int32,
    (∀ post : Int32 → SX → Prop, post r (rc, fd, ob, hd, st, sz, pX, nX, dc, dn, d, ke) → wX_atLeast_8 post x rc fd ob hd st sz pX nX dc dn d ke (k + 1) a (nI i)) ∧
    (∀ post : Int32 → SY → Prop, post r (fd, rc, ob, dc, dn, hd, st, sz, pY, nY, d, ke) → wY_atLeast_11 post x fd rc ob dc dn hd st sz pY nY d ke (k + 1) a (nI i)) := by
  intro k
  induction k with
  | zero =>
    intro i a hi
    have h16 : (16 : Int32) ≤ nI i := nI_le (a := 16) (by omega) (by omega)
    exact ⟨a, fun post hP => br_t h16 hP, fun post hP => br_t h16 hP⟩
  | succ k ih =>
    intro i a hi
    have h16 : ¬ (16 : Int32) ≤ nI i := nI_ge (b := 16) (by omega) (by decide)
    have hin : vp_in (nI i) 16 := vp_in_nI (by omega) (by omega)
    by_cases e : d (nI i).toNatClampNeg < x
    · obtain ⟨r, hX, hY⟩ := ih (i + 1) a (by omega)
      exact ⟨r, fun post hP => br_f h16 ⟨hin, br_t e (nm_r (nI_1 i) (hX post hP))⟩, fun post hP => br_f h16 ⟨hin, br_t e (nm_r (nI_1 i) (hY post hP))⟩⟩
    · obtain ⟨r, hX, hY⟩ := ih (i + 1) (a + 1) (by omega)
      exact ⟨r, fun post hP => br_f h16 ⟨hin, br_f e (nm_e (nm_r (nI_1 i) (hX post hP)))⟩, fun post hP => br_f h16 ⟨hin, br_f e (nm_e (nm_r (nI_1 i) (hY post hP)))⟩⟩
theorem cc_str {ke d : Nat → Int32} {t : Nat} (ht : t < 16) : ∀ (k i b : Nat), i + k = t + 1 → b < 16 → ∃ r : Int32,
    (∀ post : Int32 → SX → Prop, post r (rc, fd, ob, hd, st, sz, pX, nX, dc, dn, d, ke) → wX_strongest_35 post (nI t) rc fd ob hd st sz pX nX dc dn d ke (k + 1) (nI b) (nI i)) ∧
    (∀ post : Int32 → SY → Prop, post r (fd, rc, ob, dc, dn, hd, st, sz, pY, nY, d, ke) → wY_strongest_38 post (nI t) fd rc ob dc dn hd st sz pY nY d ke (k + 1) (nI b) (nI i)) := by
  intro k
  induction k with
  | zero =>
    intro i b hi hb
    have h16 : nI t < nI i := nI_lt (by omega) (by omega)
    exact ⟨nI b, fun post hP => br_t h16 hP, fun post hP => br_t h16 hP⟩
  | succ k ih =>
    intro i b hi hb
    have h16 : ¬ nI t < nI i := nI_nlt (by omega) (by omega)
    have hin : vp_in (nI i) 16 := vp_in_nI (by omega) (by omega)
    have hbn : vp_in (nI b) 16 := vp_in_nI (by omega) (by omega)
    by_cases e : d (nI i).toNatClampNeg ≤ d (nI b).toNatClampNeg
    · obtain ⟨r, hX, hY⟩ := ih (i + 1) b (by omega) hb
      exact ⟨r, fun post hP => br_f h16 ⟨hin, hbn, br_t e (nm_r (nI_1 i) (hX post hP))⟩, fun post hP => br_f h16 ⟨hin, hbn, br_t e (nm_r (nI_1 i) (hY post hP))⟩⟩
    · obtain ⟨r, hX, hY⟩ := ih (i + 1) i (by omega) (by omega)
      exact ⟨r, fun post hP => br_f h16 ⟨hin, hbn, br_f e (nm_r (nI_1 i) (hX post hP))⟩, fun post hP => br_f h16 ⟨hin, hbn, br_f e (nm_r (nI_1 i) (hY post hP))⟩⟩
theorem cc_kLoop {d : Nat → Int32} : ∀ (k i : Nat) (ke : Nat → Int32), i + k = 16 → ∃ ke' : Nat → Int32,
    (∀ post : SX → Prop, post (rc, fd, ob, hd, st, sz, pX, nX, dc, dn, d, ke') → wX_keepDerived_2 post rc fd (k + 1) (nI i) ob hd st sz pX nX dc dn d ke) ∧
    (∀ post : SY → Prop, post (fd, rc, ob, dc, dn, hd, st, sz, pY, nY, d, ke') → wY_keep_9 post fd rc (k + 1) (nI i) ob dc dn hd st sz pY nY d ke) := by
  intro k
  induction k with
  | zero =>
    intro i ke hi
    have h16 : (16 : Int32) ≤ nI i := nI_le (a := 16) (by omega) (by omega)
    exact ⟨ke, fun post hP => br_t h16 hP, fun post hP => br_t h16 hP⟩
  | succ k ih =>
    intro i ke hi
    have h16 : ¬ (16 : Int32) ≤ nI i := nI_ge (b := 16) (by omega) (by decide)
    have hin : vp_in (nI i) 16 := vp_in_nI (by omega) (by omega)
    obtain ⟨ke', hX, hY⟩ := ih (i + 1) (upd ke (nI i).toNatClampNeg (d (nI i).toNatClampNeg)) (by omega)
    exact ⟨ke', fun post hP => br_f h16 ⟨hin, hin, nm_e (nm_r (nI_1 i) (hX post hP))⟩, fun post hP => br_f h16 ⟨hin, hin, nm_e (nm_r (nI_1 i) (hY post hP))⟩⟩
theorem cc_oLoop {d ke : Nat → Int32} : ∀ (k i : Nat) (a : Int32), i + k = 16 → ∃ r : Int32,
    (∀ post : Int32 → Prop, post r → wX_countOtherThanKept_4 post rc fd ob hd st sz pX nX dc dn d ke (k + 1) a (nI i)) ∧
    (∀ post : Int32 → Prop, post r → wY_others_4 post fd rc ob dc dn hd st sz pY nY d ke (k + 1) a (nI i)) := by
  intro k
  induction k with
  | zero =>
    intro i a hi
    have h16 : (16 : Int32) ≤ nI i := nI_le (a := 16) (by omega) (by omega)
    exact ⟨a, fun post hP => br_t h16 hP, fun post hP => br_t h16 hP⟩
  | succ k ih =>
    intro i a hi
    have h16 : ¬ (16 : Int32) ≤ nI i := nI_ge (b := 16) (by omega) (by decide)
    have hin : vp_in (nI i) 16 := vp_in_nI (by omega) (by omega)
    by_cases e : d (nI i).toNatClampNeg = ke (nI i).toNatClampNeg
    · obtain ⟨r, hX, hY⟩ := ih (i + 1) a (by omega)
      exact ⟨r, fun post hP => br_f h16 ⟨hin, hin, br_t e (nm_r (nI_1 i) (hX post hP))⟩, fun post hP => br_f h16 ⟨hin, hin, br_t e (nm_r (nI_1 i) (hY post hP))⟩⟩
    · obtain ⟨r, hX, hY⟩ := ih (i + 1) (a + 1) (by omega)
      exact ⟨r, fun post hP => br_f h16 ⟨hin, hin, br_f e (nm_e (nm_r (nI_1 i) (hX post hP)))⟩, fun post hP => br_f h16 ⟨hin, hin, br_f e (nm_e (nm_r (nI_1 i) (hY post hP)))⟩⟩
theorem cc_oth {d ke : Nat → Int32} : ∃ r : Int32,
    (∀ post : Int32 → Prop, post r → wpX_countOtherThanKept post (rc, fd, ob, hd, st, sz, pX, nX, dc, dn, d, ke)) ∧
    (∀ post : Int32 → Prop, post r → wpY_others post (fd, rc, ob, dc, dn, hd, st, sz, pY, nY, d, ke)) := by
  obtain ⟨r, hX, hY⟩ := cc_oLoop (ob := ob) (hd := hd) (st := st) (sz := sz) (pX := pX) (nX := nX) (pY := pY) (nY := nY) (dc := dc) (dn := dn) (fd := fd) (rc := rc) (d := d) (ke := ke) 16 0 0 (by omega)
  exact ⟨r, fun post hP => ⟨17, hX post hP⟩, fun post hP => ⟨17, hY post hP⟩⟩
/-- the certainties as they are, kept: X by two calls, Y by one -/
theorem cc_keep {n : Nat} {d ke : Nat → Int32} (hn : n ≤ 20) (O : cc_Bd ob) (G : ∀ r, r < n → cc_G hd st sz pX nX pY nY r) : ∃ d' ke' : Nat → Int32, cc_Bd d' ∧
    (∀ post : SX → Prop, post (nI n, fd, ob, hd, st, sz, pX, nX, dc, dn, d', ke) → wpX_deriveAsIs post (nI n, fd, ob, hd, st, sz, pX, nX, dc, dn, d, ke)) ∧
    (∀ post : SX → Prop, post (nI n, fd, ob, hd, st, sz, pX, nX, dc, dn, d', ke') → wpX_keepDerived post (nI n, fd, ob, hd, st, sz, pX, nX, dc, dn, d', ke)) ∧
    (∀ post : SY → Prop, post (fd, nI n, ob, dc, dn, hd, st, sz, pY, nY, d', ke') → wpY_keep post (fd, nI n, ob, dc, dn, hd, st, sz, pY, nY, d, ke)) := by
  obtain ⟨d', B', hX, hY⟩ := cc_asIs (dc := dc) (dn := dn) (ke := ke) (fd := fd) (d := d) hn O G
  obtain ⟨ke', kX, kY⟩ := cc_kLoop (ob := ob) (hd := hd) (st := st) (sz := sz) (pX := pX) (nX := nX) (pY := pY) (nY := nY) (dc := dc) (dn := dn) (fd := fd) (rc := nI n) (d := d') 16 0 ke (by omega)
  refine ⟨d', ke', B', hX, fun post hP => ⟨17, kX post hP⟩, fun post hP => ?_⟩
  unfold wpY_keep
  exact hY _ ⟨17, kY post hP⟩
theorem cc_ess {n : Nat} {ke : Nat → Int32} (hn : n ≤ 20) (O : cc_Bd ob) (G : ∀ r, r < n → cc_G hd st sz pX nX pY nY r) : ∀ (k i : Nat) (a : Int32) (d : Nat → Int32), i + k = n → ∃ (r : Int32) (d' : Nat → Int32),
    (∀ post : Int32 → SX → Prop, post r (nI n, fd, ob, hd, st, sz, pX, nX, dc, dn, d', ke) → wX_essential_12 post (k + 1) a (nI i) (nI n) fd ob hd st sz pX nX dc dn d ke) ∧
    (∀ post : Int32 → SY → Prop, post r (fd, nI n, ob, dc, dn, hd, st, sz, pY, nY, d', ke) → wY_essential_8 post (k + 1) a (nI i) fd (nI n) ob dc dn hd st sz pY nY d ke) := by
  intro k
  induction k with
  | zero =>
    intro i a d hi
    have hle : nI n ≤ nI i := nI_le (by omega) (by omega)
    exact ⟨a, d, fun post hP => br_t hle hP, fun post hP => br_t hle hP⟩
  | succ k ih =>
    intro i a d hi
    have hlt : ¬ nI n ≤ nI i := nI_ge (by omega) (by omega)
    have h20 : ¬ (20 : Int32) ≤ nI i := nI_ge (b := 20) (by omega) (by decide)
    obtain ⟨d1, B1, dX, dY⟩ := cc_derive (dc := dc) (dn := dn) (ke := ke) (fd := fd) (d := d) (v := 0) (nI i) (-1) (by omega) hn O G
    obtain ⟨q, oX, oY⟩ := cc_oth (ob := ob) (hd := hd) (st := st) (sz := sz) (pX := pX) (nX := nX) (pY := pY) (nY := nY) (dc := dc) (dn := dn) (fd := fd) (rc := nI n) (d := d1) (ke := ke)
    by_cases e : q ≤ 0
    · obtain ⟨r, d', hX, hY⟩ := ih (i + 1) a d1 (by omega)
      refine ⟨r, d', fun post hP => br_f hlt (dX _ ?_), fun post hP => br_f hlt (br_f h20 (dY _ ?_))⟩
      · exact oX _ (br_t e (nm_r (nI_1 i) (hX post hP)))
      · exact oY _ (br_t e (nm_r (nI_1 i) (hY post hP)))
    · obtain ⟨r, d', hX, hY⟩ := ih (i + 1) (a + 1) d1 (by omega)
      refine ⟨r, d', fun post hP => br_f hlt (dX _ ?_), fun post hP => br_f hlt (br_f h20 (dY _ ?_))⟩
      · exact oX _ (br_f e (nm_e (nm_r (nI_1 i) (hX post hP))))
      · exact oY _ (br_f e (nm_e (nm_r (nI_1 i) (hY post hP))))
end
