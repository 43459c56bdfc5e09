section
variable {ob hd st sz pX nX pY nY dc dn ke : Nat → Int32} {fd rc : Int32}
theorem cc_nb {b : Int32} (h : b = 0 ∨ b = 1) : narrow .boolean (.int b) = .int b := by
  rcases h with rfl | rfl <;> rfl
theorem cc_x59 {post : Int32 → Prop} {J : Int32 → Int32 → Prop} {x1 x3 z0 : Int32} {m i w : Nat} {d : Nat → Int32} (hm : m ≤ 100) (hw : w ≤ 100) (ez : z0 = nI w) (h : J (nI (if m ≤ w then m else w)) (nI (i + 1))) : wX_derivedYield_59 post J x1 (nI m) x3 (nI i) z0 rc fd ob hd st sz pX nX dc dn d ke := by
  subst ez
  by_cases c : m ≤ w
  · rw [if_pos c] at h
    exact br_t (nI_le c (by omega)) (nm_r (nI_1 i) h)
  · rw [if_neg c] at h
    exact br_f (nI_ge (by omega) (by omega)) (nm_r (nI_1 i) h)
theorem cc_y57 {post : Int32 → Prop} {J : Int32 → Int32 → Prop} {x1 z0 : Int32} {m i w : Nat} {d : Nat → Int32} (hm : m ≤ 100) (hw : w ≤ 100) (ez : z0 = nI w) (h : J (nI (if m ≤ w then m else w)) (nI (i + 1))) : wY_asks_57 post J x1 (nI m) (nI i) z0 fd rc ob dc dn hd st sz pY nY d ke := by
  subst ez
  by_cases c : m ≤ w
  · rw [if_pos c] at h
    exact br_t (nI_le c (by omega)) (nm_r (nI_1 i) h)
  · rw [if_neg c] at h
    exact br_f (nI_ge (by omega) (by omega)) (nm_r (nI_1 i) h)
theorem cc_yLoop {d : Nat → Int32} {r z s : Nat} (hr : r < 20) (hs : s ≤ 100) (es : st r = nI s) (hz : z ≤ 3) (ez : sz r = nI z) (hp : ∀ i, i < z → pY (3 * r + i) = pX (3 * r + i) ∧ nY (3 * r + i) = nX (3 * r + i) ∧ ∃ c, c < 16 ∧ pX (3 * r + i) = nI c) (B : cc_Bd d) : ∀ k i m, i + k = z → m ≤ 100 → ∃ y, y ≤ 100 ∧
    (∀ post : Int32 → Prop, post (nI y) → wX_derivedYield_10 post (nI r) (nI (3 * r)) rc fd ob hd st sz pX nX dc dn d ke (k + 1) (nI m) (nI i)) ∧
    (∀ post : Int32 → Prop, post (nI y) → wY_asks_5 post (nI r) fd rc ob dc dn hd st sz pY nY d ke (k + 1) (nI m) (nI i)) := by
  have ec : (nI r).toNatClampNeg = r := nI_clamp (by omega)
  have hin : vp_in (nI r) 20 := vp_in_nI hr (by omega)
  have es' : st (nI r).toNatClampNeg = nI s := by rw [ec]; exact es
  have ez' : sz (nI r).toNatClampNeg = nI z := by rw [ec]; exact ez
  intro k
  induction k with
  | zero =>
    intro i m hi hm
    obtain ⟨e1, e2⟩ := cc_yl hm hs
    have hle : sz (nI r).toNatClampNeg ≤ nI i := by rw [ez']; exact nI_le (by omega) (by omega)
    have ev : nI m * st (nI r).toNatClampNeg / 100 = nI (m * s / 100) := by rw [es']; exact e1
    refine ⟨m * s / 100, e2, fun post hP => ?_, fun post hP => ?_⟩
    · refine And.intro hin (br_t hle ⟨hin, by decide, ?_⟩)
      rw [ev]; exact hP
    · refine And.intro hin (br_t hle (And.intro hin ⟨by decide, ?_⟩))
      rw [ev]; exact hP
  | succ k ih =>
    intro i m hi hm
    have hlt : ¬ sz (nI r).toNatClampNeg ≤ nI i := by rw [ez']; exact nI_ge (by omega) (by omega)
    have h3 : ¬ (3 : Int32) ≤ nI i := nI_ge (b := 3) (by omega) (by decide)
    obtain ⟨ep, en, c, hc, ec2⟩ := hp i (by omega)
    have eX : (nI (3 * r) + nI i).toNatClampNeg = 3 * r + i := by rw [nI_add]; exact nI_clamp (by omega)
    have eY : (3 * nI r + nI i).toNatClampNeg = 3 * r + i := by rw [show (3 : Int32) * nI r = nI (3 * r) from pk_mul 3 r]; exact eX
    have iX : vp_in (nI (3 * r) + nI i) 60 := by rw [nI_add]; exact vp_in_nI (by omega) (by omega)
    have iY : vp_in (3 * nI r + nI i) 60 := by rw [show (3 : Int32) * nI r = nI (3 * r) from pk_mul 3 r]; exact iX
    have qX : pX (nI (3 * r) + nI i).toNatClampNeg = nI c := by rw [eX]; exact ec2
    have qY : pY (3 * nI r + nI i).toNatClampNeg = nI c := by rw [eY, ep]; exact ec2
    have gX : vp_in (pX (nI (3 * r) + nI i).toNatClampNeg) 16 := by rw [qX]; exact vp_in_nI hc (by omega)
    have gY : vp_in (pY (3 * nI r + nI i).toNatClampNeg) 16 := by rw [qY]; exact vp_in_nI hc (by omega)
    obtain ⟨v, hv, ev⟩ := B c hc
    have dX : d (pX (nI (3 * r) + nI i).toNatClampNeg).toNatClampNeg = nI v := by rw [qX, nI_clamp (by omega)]; exact ev
    have dY : d (pY (3 * nI r + nI i).toNatClampNeg).toNatClampNeg = nI v := by rw [qY, nI_clamp (by omega)]; exact ev
    have e100 : (100 : Int32) - nI v = nI (100 - v) := pk_sub (a := 100) hv
    by_cases z0 : nX (3 * r + i) = 0
    · have zX : nX (nI (3 * r) + nI i).toNatClampNeg = 0 := by rw [eX]; exact z0
      have zY : nY (3 * nI r + nI i).toNatClampNeg = 0 := by rw [eY, en]; exact z0
      obtain ⟨y, hy, hX, hY⟩ := ih (i + 1) (if m ≤ v then m else v) (by omega) (by split <;> omega)
      refine ⟨y, hy, fun post hP => ?_, fun post hP => ?_⟩
      · exact And.intro hin (br_f hlt ⟨iX, gX, nm_r dX ⟨iX, br_t zX (cc_x59 hm hv rfl (hX post hP))⟩⟩)
      · exact And.intro hin (br_f hlt (br_f h3 ⟨iY, gY, nm_r dY ⟨iY, br_t zY (cc_y57 hm hv rfl (hY post hP))⟩⟩))
    · have zX : ¬ nX (nI (3 * r) + nI i).toNatClampNeg = 0 := by rw [eX]; exact z0
      have zY : ¬ nY (3 * nI r + nI i).toNatClampNeg = 0 := by rw [eY, en]; exact z0
      obtain ⟨y, hy, hX, hY⟩ := ih (i + 1) (if m ≤ 100 - v then m else 100 - v) (by omega) (by split <;> omega)
      refine ⟨y, hy, fun post hP => ?_, fun post hP => ?_⟩
      · exact And.intro hin (br_f hlt ⟨iX, gX, nm_r dX ⟨iX, br_f zX (cc_x59 hm (by omega) e100 (hX post hP))⟩⟩)
      · exact And.intro hin (br_f hlt (br_f h3 ⟨iY, gY, nm_r dY ⟨iY, br_f zY (nm_r e100 (cc_y57 hm (by omega) rfl (hY post hP)))⟩⟩))
theorem cc_yield {d : Nat → Int32} {r : Nat} (hr : r < 20) (G : cc_G hd st sz pX nX pY nY r) (B : cc_Bd d) : ∃ y, y ≤ 100 ∧
    (∀ post : Int32 → Prop, post (nI y) → wpX_derivedYield post (rc, fd, ob, hd, st, sz, pX, nX, dc, dn, d, ke) (nI r)) ∧
    (∀ post : Int32 → Prop, post (nI y) → wpY_asks post (fd, rc, ob, dc, dn, hd, st, sz, pY, nY, d, ke) (nI r)) := by
  obtain ⟨-, ⟨s, -, hs, es⟩, z, hz, ez, hp⟩ := G
  obtain ⟨y, hy, hX, hY⟩ := cc_yLoop (ob := ob) (hd := hd) (dc := dc) (dn := dn) (ke := ke) (fd := fd) (rc := rc) hr hs es hz ez hp B z 0 100 (by omega) (by omega)
  refine ⟨y, hy, fun post hP => ?_, fun post hP => ?_⟩
  · refine nm_r (e' := nI (3 * r)) ?_ ⟨_, hX post hP⟩
    rw [show (3 : Int32) = nI 3 from rfl, pk_mul, Nat.mul_comm]
  · exact ⟨_, hY post hP⟩
theorem cc_rLoop {n l : Nat} (w : Int32) (hn : n ≤ 20) (hl : l < 4) (G : ∀ r, r < n → cc_G hd st sz pX nX pY nY r) : ∀ (k i : Nat) (d : Nat → Int32) (b : Int32), i + k = n → cc_Bd d → (b = 0 ∨ b = 1) → ∃ (b' : Int32) (d' : Nat → Int32), cc_Bd d' ∧ ((b' = b ∧ d' = d) ∨ (b' = 1 ∧ cc_sm l d < cc_sm l d')) ∧
    (∀ post : Int32 → SX → Prop, post b' (nI n, fd, ob, hd, st, sz, pX, nX, dc, dn, d', ke) → wX_raiseHeads_5 post (nI l) w (nI n) fd (k + 1) b (nI i) ob hd st sz pX nX dc dn d ke) ∧
    (∀ post : Int32 → SY → Prop, post b' (fd, nI n, ob, dc, dn, hd, st, sz, pY, nY, d', ke) → wY_raise_5 post (nI l) w fd (nI n) (k + 1) b (nI i) ob dc dn hd st sz pY nY d ke) := by
  intro k
  induction k with
  | zero =>
    intro i d b hi B hb
    have hle : nI n ≤ nI i := nI_le (by omega) (by omega)
    exact ⟨b, d, B, Or.inl ⟨rfl, rfl⟩, fun post hP => br_t hle ⟨cc_nb hb, hP⟩, fun post hP => br_t hle ⟨cc_nb hb, hP⟩⟩
  | succ k ih =>
    intro i d b hi B hb
    have hlt : ¬ nI n ≤ nI i := nI_ge (by omega) (by omega)
    have h20 : ¬ (20 : Int32) ≤ nI i := nI_ge (b := 20) (by omega) (by decide)
    have hin : vp_in (nI i) 20 := vp_in_nI (by omega) (by omega)
    obtain ⟨h, hh, eh0⟩ := (G i (by omega)).1
    have eh : hd (nI i).toNatClampNeg = nI h := by rw [nI_clamp (by omega)]; exact eh0
    by_cases hw : nI i = w
    · obtain ⟨b', d', B', R, hX, hY⟩ := ih (i + 1) d b (by omega) B hb
      exact ⟨b', d', B', R, fun post hP => br_f hlt ⟨hin, nm_r eh (br_t hw (nm_r (nI_1 i) (hX post hP)))⟩, fun post hP => br_f hlt (br_f h20 ⟨hin, nm_r eh (br_t hw (nm_r (nI_1 i) (hY post hP)))⟩)⟩
    · by_cases hlv : nI h / 4 = nI l
      · obtain ⟨y, hy, yX, yY⟩ := cc_yield (ob := ob) (dc := dc) (dn := dn) (ke := ke) (fd := fd) (rc := nI n) (by omega) (G i (by omega)) B
        have h16 : vp_in (nI h) 16 := vp_in_nI hh (by omega)
        have ehc : (nI h).toNatClampNeg = h := nI_clamp (by omega)
        obtain ⟨v, hv, ev⟩ := B h hh
        have ev' : d (nI h).toNatClampNeg = nI v := by rw [ehc]; exact ev
        by_cases hyv : y ≤ v
        · have c1 : nI y ≤ d (nI h).toNatClampNeg := by rw [ev']; exact nI_le hyv (by omega)
          obtain ⟨b', d', B', R, hX, hY⟩ := ih (i + 1) d b (by omega) B hb
          exact ⟨b', d', B', R, fun post hP => br_f hlt ⟨hin, nm_r eh (br_f hw (And.intro (by decide) (br_t hlv (yX _ ⟨h16, br_t c1 (nm_r (nI_1 i) (hX post hP))⟩))))⟩,
            fun post hP => br_f hlt (br_f h20 ⟨hin, nm_r eh (br_f hw ⟨by decide, br_t hlv (yY _ ⟨h16, br_t c1 (nm_r (nI_1 i) (hY post hP))⟩)⟩)⟩)⟩
        · have c1 : ¬ nI y ≤ d (nI h).toNatClampNeg := by rw [ev']; exact nI_ge (by omega) (by omega)
          have eu : upd d (nI h).toNatClampNeg (nI y) = upd d h (nI y) := by rw [ehc]
          have hlh : h / 4 = l := by
            rw [cc_div4 hh] at hlv
            exact (nI_eq (by omega) (by omega)).mp hlv
          have sl := cc_sm_lt (q := y) hlh ev (by omega) hy
          obtain ⟨b', d', B', R, hX, hY⟩ := ih (i + 1) (upd d h (nI y)) 1 (by omega) (cc_Bd_upd B hy) (Or.inr rfl)
          refine ⟨b', d', B', Or.inr ?_, fun post hP => br_f hlt ⟨hin, nm_r eh (br_f hw (And.intro (by decide) (br_t hlv (yX _ ⟨h16, br_f c1 ⟨h16, nm_r eu (nm_r (nI_1 i) (hX post hP))⟩⟩))))⟩,
            fun post hP => br_f hlt (br_f h20 ⟨hin, nm_r eh (br_f hw ⟨by decide, br_t hlv (yY _ ⟨h16, br_f c1 ⟨h16, nm_r eu (nm_r (nI_1 i) (hY post hP))⟩⟩)⟩)⟩)⟩
          rcases R with ⟨r1, r2⟩ | ⟨r1, r2⟩
          · exact ⟨r1, by rw [r2]; exact sl⟩
          · exact ⟨r1, Nat.lt_trans sl r2⟩
      · obtain ⟨b', d', B', R, hX, hY⟩ := ih (i + 1) d b (by omega) B hb
        exact ⟨b', d', B', R, fun post hP => br_f hlt ⟨hin, nm_r eh (br_f hw (And.intro (by decide) (br_f hlv (nm_r (nI_1 i) (hX post hP)))))⟩,
          fun post hP => br_f hlt (br_f h20 ⟨hin, nm_r eh (br_f hw ⟨by decide, br_f hlv (nm_r (nI_1 i) (hY post hP))⟩)⟩)⟩
theorem cc_raise {n l : Nat} {d : Nat → Int32} (w : Int32) (hn : n ≤ 20) (hl : l < 4) (G : ∀ r, r < n → cc_G hd st sz pX nX pY nY r) (B : cc_Bd d) : ∃ (b' : Int32) (d' : Nat → Int32), cc_Bd d' ∧ (b' = 0 ∨ (b' = 1 ∧ cc_sm l d < cc_sm l d')) ∧
    (∀ post : Int32 → SX → Prop, post b' (nI n, fd, ob, hd, st, sz, pX, nX, dc, dn, d', ke) → wpX_raiseHeads post (nI n, fd, ob, hd, st, sz, pX, nX, dc, dn, d, ke) (nI l) w) ∧
    (∀ post : Int32 → SY → Prop, post b' (fd, nI n, ob, dc, dn, hd, st, sz, pY, nY, d', ke) → wpY_raise post (fd, nI n, ob, dc, dn, hd, st, sz, pY, nY, d, ke) (nI l) w) := by
  obtain ⟨b', d', B', R, hX, hY⟩ := cc_rLoop (ob := ob) (dc := dc) (dn := dn) (ke := ke) (fd := fd) w hn hl G n 0 d 0 (by omega) B (Or.inl rfl)
  exact ⟨b', d', B', R.imp (fun z => z.1) id, fun post hP => ⟨_, hX post hP⟩, fun post hP => ⟨_, hY post hP⟩⟩
theorem cc_sLoop {n l : Nat} (w : Int32) (hn : n ≤ 20) (hl : l < 4) (G : ∀ r, r < n → cc_G hd st sz pX nX pY nY r) : ∀ (k p : Nat) (d : Nat → Int32), p + k = 401 → p ≤ cc_sm l d → cc_Bd d → ∃ d' : Nat → Int32, cc_Bd d' ∧
    (∀ post : SX → Prop, post (nI n, fd, ob, hd, st, sz, pX, nX, dc, dn, d', ke) → wX_settleLevel_5 post (nI l) w (k + 1) 1 (nI p) (nI n) fd ob hd st sz pX nX dc dn d ke) ∧
    (∀ (post : SY → Prop) (J : Int32 → Int32 → Int32 → (Nat → Int32) → (Nat → Int32) → (Nat → Int32) → (Nat → Int32) → (Nat → Int32) → (Nat → Int32) → (Nat → Int32) → (Nat → Int32) → (Nat → Int32) → (Nat → Int32) → Prop), J (nI (l + 1)) fd (nI n) ob dc dn hd st sz pY nY d' ke → wY_workOut_55 post J w (nI l) (k + 1) 1 (nI p) fd (nI n) ob dc dn hd st sz pY nY d ke) := by
  intro k
  induction k with
  | zero =>
    intro p d hp hs B
    have := cc_sm_le B hl
    omega
  | succ k ih =>
    intro p d hp hs B
    have h4 := cc_sm_le B hl
    have n1 : ¬ (1 : Int32) = 0 := by decide
    have h401 : ¬ (401 : Int32) ≤ nI p := nI_ge (b := 401) (by omega) (by decide)
    have h500 : ¬ (500 : Int32) ≤ nI p := nI_ge (b := 500) (by omega) (by decide)
    obtain ⟨b', d1, B1, R, rX, rY⟩ := cc_raise (ob := ob) (dc := dc) (dn := dn) (ke := ke) (fd := fd) w hn hl G B
    rcases R with rfl | ⟨rfl, hlt⟩
    · refine ⟨d1, B1, fun post hP => br_f n1 (br_f h401 (rX _ ?_)), fun post J hJ => br_f h500 (br_f n1 (rY _ ?_))⟩
      · exact nm_r (nI_1 p) (br_t rfl hP)
      · have h500' : ¬ (500 : Int32) ≤ nI (p + 1) := nI_ge (b := 500) (by omega) (by decide)
        exact nm_r (nI_1 p) (br_f h500' (br_t rfl (nm_r (nI_1 l) hJ)))
    · obtain ⟨d', B', hX, hY⟩ := ih (p + 1) d1 (by omega) (by omega) B1
      refine ⟨d', B', fun post hP => br_f n1 (br_f h401 (rX _ ?_)), fun post J hJ => br_f h500 (br_f n1 (rY _ ?_))⟩
      · exact nm_r (nI_1 p) (hX post hP)
      · exact nm_r (nI_1 p) (hY post J hJ)
theorem cc_lev {n : Nat} (w : Int32) (hn : n ≤ 20) (G : ∀ r, r < n → cc_G hd st sz pX nX pY nY r) : ∀ (k l : Nat) (d : Nat → Int32), l + k = 4 → cc_Bd d → ∃ d' : Nat → Int32, cc_Bd d' ∧
    (∀ post : SX → Prop, post (nI n, fd, ob, hd, st, sz, pX, nX, dc, dn, d', ke) → wX_derive_43 post w (k + 1) (nI l) (nI n) fd ob hd st sz pX nX dc dn d ke) ∧
    (∀ post : SY → Prop, post (fd, nI n, ob, dc, dn, hd, st, sz, pY, nY, d', ke) → wY_workOut_43 post w (k + 1) (nI l) fd (nI n) ob dc dn hd st sz pY nY d ke) := by
  intro k
  induction k with
  | zero =>
    intro l d hl B
    have h4 : (4 : Int32) ≤ nI l := nI_le (a := 4) (by omega) (by omega)
    exact ⟨d, B, fun post hP => br_t h4 hP, fun post hP => br_t h4 hP⟩
  | succ k ih =>
    intro l d hl B
    have h4 : ¬ (4 : Int32) ≤ nI l := nI_ge (b := 4) (by omega) (by decide)
    obtain ⟨d1, B1, sX, sY⟩ := cc_sLoop (ob := ob) (dc := dc) (dn := dn) (ke := ke) (fd := fd) (l := l) w hn (by omega) G 401 0 d (by omega) (by omega) B
    obtain ⟨d', B', hX, hY⟩ := ih (l + 1) d1 (by omega) B1
    refine ⟨d', B', fun post hP => br_f h4 ⟨402, sX _ ?_⟩, fun post hP => br_f h4 ⟨402, sY _ _ (hY post hP)⟩⟩
    exact nm_r (nI_1 l) (hX post hP)
theorem cc_ini {n v : Nat} (w o : Int32) (hv : v ≤ 100) (O : cc_Bd ob) : ∀ (k i : Nat) (d : Nat → Int32), i + k = 16 → (∀ c, c < i → ∃ m, m ≤ 100 ∧ d c = nI m) → ∃ d' : Nat → Int32, cc_Bd d' ∧
    (∀ post : SX → Prop, (∃ n43 : Nat, wX_derive_43 post w n43 0 (nI n) fd ob hd st sz pX nX dc dn d' ke) → wX_derive_3 post w o (nI v) (nI n) fd (k + 1) (nI i) ob hd st sz pX nX dc dn d ke) ∧
    (∀ post : SY → Prop, (∃ n43 : Nat, wY_workOut_43 post w n43 0 fd (nI n) ob dc dn hd st sz pY nY d' ke) → wY_workOut_3 post o (nI v) w fd (nI n) (k + 1) (nI i) ob dc dn hd st sz pY nY d ke) := by
  intro k
  induction k with
  | zero =>
    intro i d hi B
    have h16 : (16 : Int32) ≤ nI i := nI_le (a := 16) (by omega) (by omega)
    exact ⟨d, fun c hc => B c (by omega), fun post hP => br_t h16 hP, fun post hP => br_t h16 hP⟩
  | succ k ih =>
    intro i d hi B
    have h16 : ¬ (16 : Int32) ≤ nI i := nI_ge (b := 16) (by omega) (by decide)
    have hin : vp_in (nI i) 16 := vp_in_nI (by omega) (by omega)
    have ec : (nI i).toNatClampNeg = i := nI_clamp (by omega)
    have up : ∀ m, m ≤ 100 → ∀ c, c < i + 1 → ∃ m', m' ≤ 100 ∧ upd d i (nI m) c = nI m' := by
      intro m hm c hc
      by_cases e : c = i
      · subst e
        exact ⟨m, hm, pk_us⟩
      · obtain ⟨m', h1, h2⟩ := B c (by omega)
        exact ⟨m', h1, by rw [pk_un e]; exact h2⟩
    by_cases ho : nI i = o
    · obtain ⟨d', B', hX, hY⟩ := ih (i + 1) (upd d i (nI v)) (by omega) (up v hv)
      have eu : upd d (nI i).toNatClampNeg (nI v) = upd d i (nI v) := by rw [ec]
      exact ⟨d', B', fun post hP => br_f h16 (br_t ho ⟨hin, nm_r eu (nm_r (nI_1 i) (hX post hP))⟩), fun post hP => br_f h16 (br_t ho ⟨hin, nm_r eu (nm_r (nI_1 i) (hY post hP))⟩)⟩
    · obtain ⟨m, hm, em⟩ := O i (by omega)
      obtain ⟨d', B', hX, hY⟩ := ih (i + 1) (upd d i (nI m)) (by omega) (up m hm)
      have eu : upd d (nI i).toNatClampNeg (ob (nI i).toNatClampNeg) = upd d i (nI m) := by rw [ec, em]
      exact ⟨d', B', fun post hP => br_f h16 (br_f ho ⟨hin, hin, nm_r eu (nm_r (nI_1 i) (hX post hP))⟩), fun post hP => br_f h16 (br_f ho ⟨hin, hin, nm_r eu (nm_r (nI_1 i) (hY post hP))⟩)⟩
/-- both sides work the certainties out, and alike -/
theorem cc_derive {n v : Nat} {d : Nat → Int32} (w o : Int32) (hv : v ≤ 100) (hn : n ≤ 20) (O : cc_Bd ob) (G : ∀ r, r < n → cc_G hd st sz pX nX pY nY r) : ∃ d' : Nat → Int32, cc_Bd d' ∧
    (∀ post : SX → Prop, post (nI n, fd, ob, hd, st, sz, pX, nX, dc, dn, d', ke) → wpX_derive post (nI n, fd, ob, hd, st, sz, pX, nX, dc, dn, d, ke) w o (nI v)) ∧
    (∀ post : SY → Prop, post (fd, nI n, ob, dc, dn, hd, st, sz, pY, nY, d', ke) → wpY_workOut post (fd, nI n, ob, dc, dn, hd, st, sz, pY, nY, d, ke) o (nI v) w) := by
  obtain ⟨d1, B1, iX, iY⟩ := cc_ini (hd := hd) (st := st) (sz := sz) (pX := pX) (nX := nX) (pY := pY) (nY := nY) (dc := dc) (dn := dn) (ke := ke) (fd := fd) (n := n) w o hv O 16 0 d (by omega) (fun c hc => by omega)
  obtain ⟨d', B', hX, hY⟩ := cc_lev (ob := ob) (dc := dc) (dn := dn) (ke := ke) (fd := fd) w hn G 4 0 d1 (by omega) B1
  exact ⟨d', B', fun post hP => ⟨17, iX post ⟨5, hX post hP⟩⟩, fun post hP => ⟨17, iY post ⟨5, hY post hP⟩⟩⟩
theorem cc_asIs {n : Nat} {d : Nat → Int32} (hn : n ≤ 20) (O : cc_Bd ob) (G : ∀ r, r < n → cc_G hd st sz pX nX pY nY r) : ∃ d' : Nat → Int32, cc_Bd d' ∧
    (∀ post : SX → Prop, post (nI n, fd, ob, hd, st, sz, pX, nX, dc, dn, d', ke) → wpX_deriveAsIs post (nI n, fd, ob, hd, st, sz, pX, nX, dc, dn, d, ke)) ∧
    (∀ post : SY → Prop, post (fd, nI n, ob, dc, dn, hd, st, sz, pY, nY, d', ke) → wpY_workOut post (fd, nI n, ob, dc, dn, hd, st, sz, pY, nY, d, ke) (-1) 0 (-1)) := by
  obtain ⟨d', B', hX, hY⟩ := cc_derive (dc := dc) (dn := dn) (ke := ke) (fd := fd) (d := d) (v := 0) (-1) (-1) (by omega) hn O G
  refine ⟨d', B', fun post hP => ?_, fun post hP => hY post hP⟩
  unfold wpX_deriveAsIs
  exact hX _ hP
end
