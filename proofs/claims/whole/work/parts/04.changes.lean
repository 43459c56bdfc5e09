section
variable {ob dc dn d ke : Nat → Int32} {fd rc : Int32}
theorem cc_m3 (r : Nat) : nI r * 3 = nI (3 * r) := by
  rw [show (3 : Int32) = nI 3 from rfl, pk_mul, Nat.mul_comm]
theorem cc_3m (r : Nat) : 3 * nI r = nI (3 * r) := pk_mul 3 r
theorem cc_a3 (r : Nat) : nI r + 3 = nI (r + 3) := nI_add r 3
theorem cc_fit {hd st sz pX nX pY nY : Nat → Int32} {q : Nat} (hq : q ≤ 3) (h : Int32) : ∀ (k i : Nat), i + k = q →
    ((∀ post : Int32 → Prop, post 0 → wX_draftFits_7 post (h / 4) rc (nI q) ob hd st sz pX nX dc dn d ke (k + 1) (nI i)) ∧ (∀ (x2 : Int32) (post : Int32 → SY → Prop), post (-3) (nI q, rc, ob, dc, dn, hd, st, sz, pY, nY, d, ke) → wY_rule_26 post h x2 (nI q) rc ob dc dn hd st sz pY nY d ke (k + 1) (nI i))) ∨
    ((∀ post : Int32 → Prop, post 1 → wX_draftFits_7 post (h / 4) rc (nI q) ob hd st sz pX nX dc dn d ke (k + 1) (nI i)) ∧ (∀ (x2 : Int32) (post : Int32 → SY → Prop), wY_rule_83 post h x2 (nI q) rc ob dc dn hd st sz pY nY d ke → wY_rule_26 post h x2 (nI q) rc ob dc dn hd st sz pY nY d ke (k + 1) (nI i))) := by
  have n4 : ¬ (4 : Int32) = 0 := by decide
  intro k
  induction k with
  | zero =>
    intro i hi
    have hle : nI q ≤ nI i := nI_le (by omega) (by omega)
    exact Or.inr ⟨fun post hP => br_t hle hP, fun x2 post hP => br_t hle hP⟩
  | succ k ih =>
    intro i hi
    have hlt : ¬ nI q ≤ nI i := nI_ge (by omega) (by omega)
    have h3 : ¬ (3 : Int32) ≤ nI i := nI_ge (b := 3) (by omega) (by decide)
    have hin : vp_in (nI i) 3 := vp_in_nI (by omega) (by omega)
    by_cases e1 : h / 4 < dc (nI i).toNatClampNeg / 4
    · exact Or.inl ⟨fun post hP => br_f hlt ⟨hin, And.intro n4 (br_t e1 hP)⟩, fun x2 post hP => br_f hlt (br_f h3 ⟨hin, n4, nm_e ⟨n4, br_t e1 hP⟩⟩)⟩
    · by_cases e2 : dn (nI i).toNatClampNeg = 0
      · refine (ih (i + 1) (by omega)).imp (fun H => ?_) (fun H => ?_)
        · exact ⟨fun post hP => br_f hlt ⟨hin, And.intro n4 (br_f e1 ⟨hin, br_t e2 (nm_r (nI_1 i) (H.1 post hP))⟩)⟩, fun x2 post hP => br_f hlt (br_f h3 ⟨hin, n4, nm_e ⟨n4, br_f e1 ⟨hin, br_t e2 (nm_r (nI_1 i) (H.2 x2 post hP))⟩⟩⟩)⟩
        · exact ⟨fun post hP => br_f hlt ⟨hin, And.intro n4 (br_f e1 ⟨hin, br_t e2 (nm_r (nI_1 i) (H.1 post hP))⟩)⟩, fun x2 post hP => br_f hlt (br_f h3 ⟨hin, n4, nm_e ⟨n4, br_f e1 ⟨hin, br_t e2 (nm_r (nI_1 i) (H.2 x2 post hP))⟩⟩⟩)⟩
      · by_cases e3 : dc (nI i).toNatClampNeg / 4 = h / 4
        · exact Or.inl ⟨fun post hP => br_f hlt ⟨hin, And.intro n4 (br_f e1 ⟨hin, br_f e2 (br_t e3 hP)⟩)⟩, fun x2 post hP => br_f hlt (br_f h3 ⟨hin, n4, nm_e ⟨n4, br_f e1 ⟨hin, br_f e2 ⟨n4, br_t e3 hP⟩⟩⟩⟩)⟩
        · refine (ih (i + 1) (by omega)).imp (fun H => ?_) (fun H => ?_)
          · exact ⟨fun post hP => br_f hlt ⟨hin, And.intro n4 (br_f e1 ⟨hin, br_f e2 (br_f e3 (nm_r (nI_1 i) (H.1 post hP)))⟩)⟩, fun x2 post hP => br_f hlt (br_f h3 ⟨hin, n4, nm_e ⟨n4, br_f e1 ⟨hin, br_f e2 ⟨n4, br_f e3 (nm_r (nI_1 i) (H.2 x2 post hP))⟩⟩⟩⟩)⟩
          · exact ⟨fun post hP => br_f hlt ⟨hin, And.intro n4 (br_f e1 ⟨hin, br_f e2 (br_f e3 (nm_r (nI_1 i) (H.1 post hP)))⟩)⟩, fun x2 post hP => br_f hlt (br_f h3 ⟨hin, n4, nm_e ⟨n4, br_f e1 ⟨hin, br_f e2 ⟨n4, br_f e3 (nm_r (nI_1 i) (H.2 x2 post hP))⟩⟩⟩⟩)⟩
/-- the first i cells of rule b's premises are the draft's, and those of the rules before are as they were -/
def cc_mv (dc dn P N p m : Nat → Int32) (b i : Nat) : Prop := (∀ j, j < i → p (3 * b + j) = dc j ∧ m (3 * b + j) = vp_nar .boolean (dn j)) ∧ ∀ j, j < 3 * b → p j = P j ∧ m j = N j
theorem cc_mv_s {dc dn P N p m : Nat → Int32} {b i : Nat} (h : cc_mv dc dn P N p m b i) : cc_mv dc dn P N (upd p (3 * b + i) (dc i)) (upd m (3 * b + i) (vp_nar .boolean (dn i))) b (i + 1) := by
  refine ⟨fun j hj => ?_, fun j hj => ?_⟩
  · by_cases e : j = i
    · subst e
      exact ⟨pk_us, pk_us⟩
    · rw [pk_un (by omega), pk_un (by omega)]
      exact h.1 j (by omega)
  · rw [pk_un (by omega), pk_un (by omega)]
    exact h.2 j hj
theorem cc_mX {hd st sz P N : Nat → Int32} {n q : Nat} (hn : n < 20) (hq : q ≤ 3) : ∀ (k i : Nat) (pX nX : Nat → Int32), i + k = q → cc_mv dc dn P N pX nX n i → ∃ p' m' : Nat → Int32, cc_mv dc dn P N p' m' n q ∧
    (∀ post : SX → Prop, post (nI n, 0, ob, hd, st, upd sz n (nI q), p', m', dc, dn, d, ke) → wX_moveDraftTo_6 post (nI n) (nI (3 * n)) (nI n) (nI q) (k + 1) (nI i) ob hd st sz pX nX dc dn d ke) := by
  intro k
  induction k with
  | zero =>
    intro i pX nX hi H
    have e : i = q := by omega
    subst e
    have hle : nI i ≤ nI i := nI_le (by omega) (by omega)
    refine ⟨pX, nX, H, fun post hP => br_t hle ⟨vp_in_nI hn (by omega), nm_r ?_ hP⟩⟩
    rw [nI_clamp (by omega)]
  | succ k ih =>
    intro i pX nX hi H
    have hlt : ¬ nI q ≤ nI i := nI_ge (by omega) (by omega)
    have hin : vp_in (nI i) 3 := vp_in_nI (by omega) (by omega)
    have e1 : (nI (3 * n) + nI i).toNatClampNeg = 3 * n + i := by rw [nI_add]; exact nI_clamp (by omega)
    have i1 : vp_in (nI (3 * n) + nI i) 60 := by rw [nI_add]; exact vp_in_nI (by omega) (by omega)
    have e2 : (nI i).toNatClampNeg = i := nI_clamp (by omega)
    obtain ⟨p', m', H', hX⟩ := ih (i + 1) _ _ (by omega) (cc_mv_s H)
    refine ⟨p', m', H', fun post hP => br_f hlt ⟨hin, i1, nm_r ?_ ⟨hin, i1, nm_r ?_ (nm_r (nI_1 i) (hX post hP))⟩⟩⟩
    · rw [e1, e2]
    · rw [e1, e2]
theorem cc_mY {hd st sz P N : Nat → Int32} {n : Nat} (hn : n < 20) : ∀ (k i : Nat) (pY nY : Nat → Int32), i + k = 3 → cc_mv dc dn P N pY nY n i → ∃ p' m' : Nat → Int32, cc_mv dc dn P N p' m' n 3 ∧
    (∀ post : Int32 → SY → Prop, post (nI n) (0, nI (n + 1), ob, dc, dn, hd, st, sz, p', m', d, ke) → wY_rule_124 post (nI n) fd (nI n) (k + 1) (nI i) ob dc dn hd st sz pY nY d ke) := by
  intro k
  induction k with
  | zero =>
    intro i pY nY hi H
    have e : i = 3 := by omega
    subst e
    have hle : (3 : Int32) ≤ nI 3 := by decide
    exact ⟨pY, nY, H, fun post hP => br_t hle (nm_r (nI_1 n) hP)⟩
  | succ k ih =>
    intro i pY nY hi H
    have hlt : ¬ (3 : Int32) ≤ nI i := nI_ge (b := 3) (by omega) (by decide)
    have hin : vp_in (nI i) 3 := vp_in_nI (by omega) (by omega)
    have e1 : (3 * nI n + nI i).toNatClampNeg = 3 * n + i := by rw [cc_3m, nI_add]; exact nI_clamp (by omega)
    have i1 : vp_in (3 * nI n + nI i) 60 := by rw [cc_3m, nI_add]; exact vp_in_nI (by omega) (by omega)
    have e2 : (nI i).toNatClampNeg = i := nI_clamp (by omega)
    obtain ⟨p', m', H', hY⟩ := ih (i + 1) _ _ (by omega) (cc_mv_s H)
    refine ⟨p', m', H', fun post hP => br_f hlt ⟨hin, i1, nm_r ?_ ⟨hin, i1, nm_r ?_ (nm_r (nI_1 i) (hY post hP))⟩⟩⟩
    · rw [e1, e2]
    · rw [e1, e2]
theorem cc_G_new {hd st sz pX nX pY nY pX' nX' pY' nY' : Nat → Int32} {n q h s : Nat} (hq : q ≤ 3) (hh : h < 16) (s1 : 1 ≤ s) (s2 : s ≤ 100) (D : cc_D dc) (G : ∀ r, r < n → cc_G hd st sz pX nX pY nY r) (MX : cc_mv dc dn pX nX pX' nX' n q) (MY : cc_mv dc dn pY nY pY' nY' n 3) : ∀ r, r < n + 1 → cc_G (upd hd n (nI h)) (upd st n (nI s)) (upd sz n (nI q)) pX' nX' pY' nY' r := by
  intro r hr
  by_cases e : r = n
  · subst e
    refine ⟨⟨h, hh, pk_us⟩, ⟨s, s1, s2, pk_us⟩, q, hq, pk_us, fun i hi => ?_⟩
    obtain ⟨a1, a2⟩ := MX.1 i hi
    obtain ⟨b1, b2⟩ := MY.1 i (by omega)
    obtain ⟨c, hc, ec⟩ := D i (by omega)
    exact ⟨by rw [a1, b1], by rw [a2, b2], c, hc, by rw [a1]; exact ec⟩
  · obtain ⟨⟨h0, g1, g2⟩, ⟨s0, g3, g4, g5⟩, z, g6, g7, g8⟩ := G r (by omega)
    refine ⟨⟨h0, g1, by rw [pk_un e]; exact g2⟩, ⟨s0, g3, g4, by rw [pk_un e]; exact g5⟩, z, g6, by rw [pk_un e]; exact g7, fun i hi => ?_⟩
    obtain ⟨a1, a2⟩ := MX.2 (3 * r + i) (by omega)
    obtain ⟨b1, b2⟩ := MY.2 (3 * r + i) (by omega)
    rw [a1, a2, b1, b2]
    exact g8 i hi
/-- the first i cells of rule b's premises are the next rule's, and all others are as they were -/
def cc_dn (P N p m : Nat → Int32) (b i : Nat) : Prop := (∀ j, j < i → p (3 * b + j) = P (3 * b + 3 + j) ∧ m (3 * b + j) = vp_nar .boolean (N (3 * b + 3 + j))) ∧ ∀ j, j < 3 * b ∨ 3 * b + 3 ≤ j → p j = P j ∧ m j = N j
theorem cc_dn_0 {P N : Nat → Int32} {b : Nat} : cc_dn P N P N b 0 := ⟨fun j hj => by omega, fun j hj => ⟨rfl, rfl⟩⟩
theorem cc_dn_s {P N p m : Nat → Int32} {b i : Nat} (hi : i < 3) (h : cc_dn P N p m b i) : cc_dn P N (upd p (3 * b + i) (p (3 * b + 3 + i))) (upd m (3 * b + i) (vp_nar .boolean (m (3 * b + 3 + i)))) b (i + 1) := by
  obtain ⟨a1, a2⟩ := h.2 (3 * b + 3 + i) (by omega)
  refine ⟨fun j hj => ?_, fun j hj => ?_⟩
  · by_cases e : j = i
    · subst e
      exact ⟨by rw [pk_us]; exact a1, by rw [pk_us, a2]⟩
    · rw [pk_un (by omega), pk_un (by omega)]
      exact h.1 j (by omega)
  · rw [pk_un (by omega), pk_un (by omega)]
    exact h.2 j hj
theorem cc_dX {hd st sz P N : Nat → Int32} {b : Nat} (hb : b + 1 < 20) : ∀ (k i : Nat) (pX nX : Nat → Int32), i + k = 3 → cc_dn P N pX nX b i → ∃ p' m' : Nat → Int32, cc_dn P N p' m' b 3 ∧
    (∀ post : SX → Prop, post (rc, fd, ob, hd, st, sz, p', m', dc, dn, d, ke) → wX_copyRuleDown_48 post (nI (3 * b)) rc fd (k + 1) (nI i) ob hd st sz pX nX dc dn d ke) := by
  intro k
  induction k with
  | zero =>
    intro i pX nX hi H
    have e : i = 3 := by omega
    subst e
    have hle : (3 : Int32) ≤ nI 3 := by decide
    exact ⟨pX, nX, H, fun post hP => br_t hle hP⟩
  | succ k ih =>
    intro i pX nX hi H
    have hlt : ¬ (3 : Int32) ≤ nI i := nI_ge (b := 3) (by omega) (by decide)
    have e1 : (nI (3 * b) + nI i).toNatClampNeg = 3 * b + i := by rw [nI_add]; exact nI_clamp (by omega)
    have i1 : vp_in (nI (3 * b) + nI i) 60 := by rw [nI_add]; exact vp_in_nI (by omega) (by omega)
    have e2 : (nI (3 * b) + 3 + nI i).toNatClampNeg = 3 * b + 3 + i := by rw [cc_a3, nI_add]; exact nI_clamp (by omega)
    have i2 : vp_in (nI (3 * b) + 3 + nI i) 60 := by rw [cc_a3, nI_add]; exact vp_in_nI (by omega) (by omega)
    obtain ⟨p', m', H', hX⟩ := ih (i + 1) _ _ (by omega) (cc_dn_s (by omega) H)
    refine ⟨p', m', H', fun post hP => br_f hlt ⟨i2, i1, nm_r ?_ ⟨i2, i1, nm_r ?_ (nm_r (nI_1 i) (hX post hP))⟩⟩⟩
    · rw [e1, e2]
    · rw [e1, e2]
theorem cc_dY {hd st sz P N : Nat → Int32} {b : Nat} (hb : b + 1 < 20) : ∀ (k i : Nat) (pY nY : Nat → Int32), i + k = 3 → cc_dn P N pY nY b i → ∃ p' m' : Nat → Int32, cc_dn P N p' m' b 3 ∧
    (∀ (post : Int32 → SY → Prop) (J : Int32 → (Nat → Int32) → (Nat → Int32) → (Nat → Int32) → (Nat → Int32) → (Nat → Int32) → (Nat → Int32) → (Nat → Int32) → (Nat → Int32) → (Nat → Int32) → (Nat → Int32) → Prop), J (nI (b + 1)) ob dc dn hd st sz p' m' d ke → wY_remove_72 post J (nI b) fd rc (k + 1) (nI i) ob dc dn hd st sz pY nY d ke) := by
  intro k
  induction k with
  | zero =>
    intro i pY nY hi H
    have e : i = 3 := by omega
    subst e
    have hle : (3 : Int32) ≤ nI 3 := by decide
    exact ⟨pY, nY, H, fun post J hP => br_t hle (nm_r (nI_1 b) hP)⟩
  | succ k ih =>
    intro i pY nY hi H
    have hlt : ¬ (3 : Int32) ≤ nI i := nI_ge (b := 3) (by omega) (by decide)
    have e1 : (3 * nI b + nI i).toNatClampNeg = 3 * b + i := by rw [cc_3m, nI_add]; exact nI_clamp (by omega)
    have i1 : vp_in (3 * nI b + nI i) 60 := by rw [cc_3m, nI_add]; exact vp_in_nI (by omega) (by omega)
    have e2 : (3 * nI b + 3 + nI i).toNatClampNeg = 3 * b + 3 + i := by rw [cc_3m, cc_a3, nI_add]; exact nI_clamp (by omega)
    have i2 : vp_in (3 * nI b + 3 + nI i) 60 := by rw [cc_3m, cc_a3, nI_add]; exact vp_in_nI (by omega) (by omega)
    obtain ⟨p', m', H', hY⟩ := ih (i + 1) _ _ (by omega) (cc_dn_s (by omega) H)
    refine ⟨p', m', H', fun post J hP => br_f hlt ⟨i2, i1, nm_r ?_ ⟨i2, i1, nm_r ?_ (nm_r (nI_1 i) (hY post J hP))⟩⟩⟩
    · rw [e1, e2]
    · rw [e1, e2]
theorem cc_G_dn {hd st sz pX nX pY nY pX' nX' pY' nY' : Nat → Int32} {n b : Nat} (hb : b + 1 < n) (G : ∀ r, r < n → cc_G hd st sz pX nX pY nY r) (MX : cc_dn pX nX pX' nX' b 3) (MY : cc_dn pY nY pY' nY' b 3) : ∀ r, r < n → cc_G (upd hd b (hd (b + 1))) (upd st b (st (b + 1))) (upd sz b (sz (b + 1))) pX' nX' pY' nY' r := by
  intro r hr
  by_cases e : r = b
  · subst e
    obtain ⟨⟨h0, g1, g2⟩, ⟨s0, g3, g4, g5⟩, z, g6, g7, g8⟩ := G (r + 1) (by omega)
    refine ⟨⟨h0, g1, by rw [pk_us]; exact g2⟩, ⟨s0, g3, g4, by rw [pk_us]; exact g5⟩, z, g6, by rw [pk_us]; exact g7, fun i hi => ?_⟩
    obtain ⟨a1, a2⟩ := MX.1 i (by omega)
    obtain ⟨b1, b2⟩ := MY.1 i (by omega)
    obtain ⟨c1, c2, c3⟩ := g8 i hi
    rw [show 3 * (r + 1) + i = 3 * r + 3 + i from by omega] at c1 c2 c3
    rw [a1, a2, b1, b2, c1, c2]
    exact ⟨rfl, rfl, c3⟩
  · obtain ⟨⟨h0, g1, g2⟩, ⟨s0, g3, g4, g5⟩, z, g6, g7, g8⟩ := G r hr
    refine ⟨⟨h0, g1, by rw [pk_un e]; exact g2⟩, ⟨s0, g3, g4, by rw [pk_un e]; exact g5⟩, z, g6, by rw [pk_un e]; exact g7, fun i hi => ?_⟩
    obtain ⟨a1, a2⟩ := MX.2 (3 * r + i) (by omega)
    obtain ⟨b1, b2⟩ := MY.2 (3 * r + i) (by omega)
    rw [a1, a2, b1, b2]
    exact g8 i hi
theorem cc_cpX {hd st sz pX nX : Nat → Int32} {b : Nat} (hb : b + 1 < 20) : ∃ p' m' : Nat → Int32, cc_dn pX nX p' m' b 3 ∧
    (∀ post : SX → Prop, post (rc, fd, ob, upd hd b (hd (b + 1)), upd st b (st (b + 1)), upd sz b (sz (b + 1)), p', m', dc, dn, d, ke) → wpX_copyRuleDown post (rc, fd, ob, hd, st, sz, pX, nX, dc, dn, d, ke) (nI b)) := by
  obtain ⟨p', m', H, hX⟩ := cc_dX (ob := ob) (dc := dc) (dn := dn) (d := d) (ke := ke) (fd := fd) (rc := rc) (hd := upd hd b (hd (b + 1))) (st := upd st b (st (b + 1))) (sz := upd sz b (sz (b + 1))) hb 3 0 pX nX (by omega) cc_dn_0
  have i0 : vp_in (nI b) 20 := vp_in_nI (by omega) (by omega)
  have i1 : vp_in (nI b + 1) 20 := by rw [nI_1]; exact vp_in_nI hb (by omega)
  have e0 : (nI b).toNatClampNeg = b := nI_clamp (by omega)
  have e1 : (nI b + 1).toNatClampNeg = b + 1 := by rw [nI_1]; exact nI_clamp (by omega)
  have eu : ∀ f : Nat → Int32, upd f (nI b).toNatClampNeg (f (nI b + 1).toNatClampNeg) = upd f b (f (b + 1)) := fun f => by rw [e0, e1]
  refine ⟨p', m', H, fun post hP => ?_⟩
  exact And.intro i1 ⟨i0, nm_r (eu hd) ⟨i1, i0, nm_r (eu st) ⟨i1, i0, nm_r (eu sz) (nm_r (cc_m3 b) ⟨4, hX post hP⟩)⟩⟩⟩
theorem cc_rem {n : Nat} (hn : n ≤ 20) : ∀ (k i : Nat) (hd st sz pX nX pY nY : Nat → Int32), i + k + 1 = n → (∀ r, r < n → cc_G hd st sz pX nX pY nY r) → ∃ hd' st' sz' pX' nX' pY' nY' : Nat → Int32, (∀ r, r < n → cc_G hd' st' sz' pX' nX' pY' nY' r) ∧
    (∀ post : Int32 → SX → Prop, post (nI (n - 1)) (nI (n - 1), fd, ob, hd', st', sz', pX', nX', dc, dn, d, ke) → wX_remove_12 post (k + 1) (nI i) (nI n) fd ob hd st sz pX nX dc dn d ke) ∧
    (∀ post : Int32 → SY → Prop, post (nI (n - 1)) (fd, nI (n - 1), ob, dc, dn, hd', st', sz', pY', nY', d, ke) → wY_remove_12 post fd (nI n) (k + 1) (nI i) ob dc dn hd st sz pY nY d ke) := by
  intro k
  induction k with
  | zero =>
    intro i hd st sz pX nX pY nY hi G
    have e : nI n - 1 = nI (n - 1) := pk_sub (b := 1) (by omega)
    have hX : nI n ≤ nI i + 1 := by rw [nI_1]; exact nI_le (by omega) (by omega)
    have hY : nI n - 1 ≤ nI i := by rw [e]; exact nI_le (by omega) (by omega)
    exact ⟨hd, st, sz, pX, nX, pY, nY, G, fun post hP => br_t hX (nm_r e hP), fun post hP => br_t hY (nm_r e hP)⟩
  | succ k ih =>
    intro i hd st sz pX nX pY nY hi G
    have e : nI n - 1 = nI (n - 1) := pk_sub (b := 1) (by omega)
    have hX : ¬ nI n ≤ nI i + 1 := by rw [nI_1]; exact nI_ge (by omega) (by omega)
    have hY : ¬ nI n - 1 ≤ nI i := by rw [e]; exact nI_ge (by omega) (by omega)
    have h19 : ¬ (19 : Int32) ≤ nI i := nI_ge (b := 19) (by omega) (by decide)
    have i0 : vp_in (nI i) 20 := vp_in_nI (by omega) (by omega)
    have i1 : vp_in (nI i + 1) 20 := by rw [nI_1]; exact vp_in_nI (by omega) (by omega)
    have e0 : (nI i).toNatClampNeg = i := nI_clamp (by omega)
    have e1 : (nI i + 1).toNatClampNeg = i + 1 := by rw [nI_1]; exact nI_clamp (by omega)
    have eu : ∀ f : Nat → Int32, upd f (nI i).toNatClampNeg (f (nI i + 1).toNatClampNeg) = upd f i (f (i + 1)) := fun f => by rw [e0, e1]
    obtain ⟨p1, m1, MX, cX⟩ := cc_cpX (ob := ob) (dc := dc) (dn := dn) (d := d) (ke := ke) (fd := fd) (rc := nI n) (hd := hd) (st := st) (sz := sz) (pX := pX) (nX := nX) (b := i) (by omega)
    obtain ⟨p2, m2, MY, cY⟩ := cc_dY (ob := ob) (dc := dc) (dn := dn) (d := d) (ke := ke) (fd := fd) (rc := nI n) (hd := upd hd i (hd (i + 1))) (st := upd st i (st (i + 1))) (sz := upd sz i (sz (i + 1))) (b := i) (by omega) 3 0 pY nY (by omega) cc_dn_0
    obtain ⟨hd', st', sz', pX', nX', pY', nY', G', rX, rY⟩ := ih (i + 1) _ _ _ _ _ _ _ (by omega) (cc_G_dn (by omega) G MX MY)
    refine ⟨hd', st', sz', pX', nX', pY', nY', G', fun post hP => br_f hX (cX _ ?_), fun post hP => ?_⟩
    · exact nm_r (nI_1 i) (rX post hP)
    · exact br_f hY (br_f h19 ⟨i1, i0, nm_r (eu hd) ⟨i1, i0, nm_r (eu st) ⟨i1, i0, nm_r (eu sz) ⟨4, cY _ _ (rY post hP)⟩⟩⟩⟩)
end
