section
theorem pk_us {f : Nat → Int32} {k : Nat} {x : Int32} : upd f k x k = x := if_pos rfl
theorem pk_un {f : Nat → Int32} {k j : Nat} {x : Int32} (h : j ≠ k) : upd f k x j = f j := if_neg h
theorem pk_sub {a b : Nat} (h : b ≤ a) : nI a - nI b = nI (a - b) := by
  obtain ⟨c, rfl⟩ : ∃ c, a = c + b := ⟨a - b, by omega⟩
  rw [← nI_add, Int32.add_sub_cancel, Nat.add_sub_cancel]
theorem pk_m1 (n : Nat) : nI (n + 1) + (-1) = nI n := by
  rw [← nI_1, Int32.add_assoc, show (1 : Int32) + (-1) = 0 from rfl, Int32.add_zero]
theorem pk_mul (a b : Nat) : nI a * nI b = nI (a * b) := (Int32.ofNat_mul a b).symm
theorem pk_div {a d : Nat} (ha : a < 2 ^ 31) (h0 : 0 < d) (hd : d < 2 ^ 31) : nI a / nI d = nI (a / d) := by
  apply Int32.toInt_inj.mp
  rw [lg_idiv_nonneg (by rw [nI_toInt ha]; omega) (by rw [nI_toInt hd]; omega), nI_toInt ha, nI_toInt hd, nI_toInt (Nat.lt_of_le_of_lt (Nat.div_le_self a d) ha)]
  first | rfl | exact (Int.natCast_ediv _ _).symm
theorem pk_ix (x : Int32) {n : Nat} (hn : n < 2 ^ 31) : x < 0 ∨ nI n ≤ x ∨ ∃ j : Nat, j < n ∧ x = nI j := by
  by_cases h : x < 0
  · exact Or.inl h
  · obtain ⟨j, hj, rfl⟩ := nI_of h
    by_cases h2 : j < n
    · exact Or.inr (Or.inr ⟨j, h2, rfl⟩)
    · exact Or.inr (Or.inl (nI_le (by omega) hj))
theorem pk_in {x : Int32} (n N : Nat) (h : n < N) (hx : x = nI n := by rfl) (hN : N < 2 ^ 31 := by omega) : vp_in x N := by
  subst hx
  exact vp_in_nI h hN
theorem pk_cl {x : Int32} (n : Nat) (hx : x = nI n := by rfl) (h : n < 2 ^ 31 := by omega) : x.toNatClampNeg = n := by
  subst hx
  exact nI_clamp h
theorem pk_le {x y : Int32} {A B : Prop} (a b : Nat) (f : a ≤ b → A) (g : b < a → B) (hx : x = nI a := by rfl) (hy : y = nI b := by rfl) (ha : a < 2 ^ 31 := by omega) (hb : b < 2 ^ 31 := by omega) : (x ≤ y → A) ∧ (¬ x ≤ y → B) := by
  subst hx hy
  rw [nI_leI ha hb]
  exact ⟨f, fun z => g (by omega)⟩
theorem pk_lt {x y : Int32} {A B : Prop} (a b : Nat) (f : a < b → A) (g : b ≤ a → B) (hx : x = nI a := by rfl) (hy : y = nI b := by rfl) (ha : a < 2 ^ 31 := by omega) (hb : b < 2 ^ 31 := by omega) : (x < y → A) ∧ (¬ x < y → B) := by
  subst hx hy
  rw [nI_ltI ha hb]
  exact ⟨f, fun z => g (by omega)⟩
theorem pk_eq {x y : Int32} {A B : Prop} (a b : Nat) (f : a = b → A) (g : a ≠ b → B) (hx : x = nI a := by rfl) (hy : y = nI b := by rfl) (ha : a < 2 ^ 31 := by omega) (hb : b < 2 ^ 31 := by omega) : (x = y → A) ∧ (¬ x = y → B) := by
  subst hx hy
  rw [nI_eq ha hb]
  exact ⟨f, g⟩
/-- the sixteen certainties lie between 0 and 100 -/
def cc_Bd (d : Nat → Int32) : Prop := ∀ c, c < 16 → ∃ n, n ≤ 100 ∧ d c = nI n
theorem cc_Bd_upd {d : Nat → Int32} {h q : Nat} (H : cc_Bd d) (hq : q ≤ 100) : cc_Bd (upd d h (nI q)) := by
  intro c hc
  by_cases e : c = h
  · subst e
    exact ⟨q, hq, pk_us⟩
  · obtain ⟨n, hn, e2⟩ := H c hc
    exact ⟨n, hn, by rw [pk_un e]; exact e2⟩
/-- the sum of the four certainties of a level -/
def cc_sm (l : Nat) (d : Nat → Int32) : Nat := (d (4 * l)).toNatClampNeg + (d (4 * l + 1)).toNatClampNeg + (d (4 * l + 2)).toNatClampNeg + (d (4 * l + 3)).toNatClampNeg
theorem cc_val {d : Nat → Int32} (H : cc_Bd d) {c : Nat} (hc : c < 16) : (d c).toNatClampNeg ≤ 100 := by
  obtain ⟨n, hn, e⟩ := H c hc
  rw [e, nI_clamp (by omega)]
  exact hn
theorem cc_sm_le {d : Nat → Int32} (H : cc_Bd d) {l : Nat} (hl : l < 4) : cc_sm l d ≤ 400 := by
  have h0 := cc_val H (c := 4 * l) (by omega)
  have h1 := cc_val H (c := 4 * l + 1) (by omega)
  have h2 := cc_val H (c := 4 * l + 2) (by omega)
  have h3 := cc_val H (c := 4 * l + 3) (by omega)
  unfold cc_sm
  omega
theorem cc_sm_lt {d : Nat → Int32} {l h n q : Nat} (hh : h / 4 = l) (e : d h = nI n) (hnq : n < q) (hq : q ≤ 100) : cc_sm l d < cc_sm l (upd d h (nI q)) := by
  have e1 : (nI q).toNatClampNeg = q := nI_clamp (by omega)
  have e2 : (d h).toNatClampNeg = n := by rw [e]; exact nI_clamp (by omega)
  have c4 : h = 4 * l ∨ h = 4 * l + 1 ∨ h = 4 * l + 2 ∨ h = 4 * l + 3 := by omega
  unfold cc_sm
  rcases c4 with rfl | rfl | rfl | rfl
  · rw [pk_us, pk_un (by omega), pk_un (by omega), pk_un (by omega)]; omega
  · rw [pk_us, pk_un (by omega), pk_un (by omega), pk_un (by omega)]; omega
  · rw [pk_us, pk_un (by omega), pk_un (by omega), pk_un (by omega)]; omega
  · rw [pk_us, pk_un (by omega), pk_un (by omega), pk_un (by omega)]; omega
theorem cc_yl {m s : Nat} (hm : m ≤ 100) (hs : s ≤ 100) : nI m * nI s / 100 = nI (m * s / 100) ∧ m * s / 100 ≤ 100 := by
  have h : m * s ≤ 100 * 100 := Nat.mul_le_mul hm hs
  constructor
  · rw [pk_mul]
    exact pk_div (d := 100) (by omega) (by omega) (by omega)
  · omega
theorem cc_div4 {h : Nat} (hh : h < 16) : nI h / 4 = nI (h / 4) := pk_div (d := 4) (by omega) (by omega) (by omega)
/-- rule r is well formed, and both sides hold the same of it -/
def cc_G (hd st sz pX nX pY nY : Nat → Int32) (r : Nat) : Prop :=
  (∃ h, h < 16 ∧ hd r = nI h) ∧ (∃ s, 1 ≤ s ∧ s ≤ 100 ∧ st r = nI s) ∧
  ∃ z, z ≤ 3 ∧ sz r = nI z ∧ ∀ i, i < z → pY (3 * r + i) = pX (3 * r + i) ∧ nY (3 * r + i) = nX (3 * r + i) ∧ ∃ c, c < 16 ∧ pX (3 * r + i) = nI c
/-- the drafted claims are claims -/
def cc_D (dc : Nat → Int32) : Prop := ∀ i, i < 3 → ∃ c, c < 16 ∧ dc i = nI c
/-- a number is below 0, or n or more, or one of 0 .. n - 1 -/
theorem cc_ix (x : Int32) : (x < 0 ∧ ¬ 0 ≤ x) ∨ (¬ x < 0 ∧ 0 ≤ x ∧ ¬ x < 16 ∧ 16 ≤ x ∧ ¬ x ≤ 15 ∧ 15 < x) ∨ ∃ j : Nat, j < 16 ∧ x = nI j := by
  rcases pk_ix x (n := 16) (by omega) with h | h | h
  · exact Or.inl ⟨h, Int32.not_le.mpr h⟩
  · have h' : (16 : Int32) ≤ x := h
    have h0 : (0 : Int32) ≤ x := Int32.le_trans (by decide) h'
    have h1 : (15 : Int32) < x := Int32.lt_of_lt_of_le (by decide) h'
    exact Or.inr (Or.inl ⟨Int32.not_lt.mpr h0, h0, Int32.not_lt.mpr h', h', Int32.not_le.mpr h1, h1⟩)
  · exact Or.inr (Or.inr h)
theorem cc_ic (x : Int32) : (x < 0 ∧ ¬ 0 ≤ x) ∨ (¬ x < 0 ∧ 0 ≤ x ∧ ¬ x ≤ 100 ∧ 100 < x) ∨ ∃ j : Nat, j ≤ 100 ∧ x = nI j := by
  rcases pk_ix x (n := 101) (by omega) with h | h | ⟨j, hj, e⟩
  · exact Or.inl ⟨h, Int32.not_le.mpr h⟩
  · have h' : (101 : Int32) ≤ x := h
    have h0 : (0 : Int32) ≤ x := Int32.le_trans (by decide) h'
    have h1 : (100 : Int32) < x := Int32.lt_of_lt_of_le (by decide) h'
    exact Or.inr (Or.inl ⟨Int32.not_lt.mpr h0, h0, Int32.not_le.mpr h1, h1⟩)
  · exact Or.inr (Or.inr ⟨j, by omega, e⟩)
theorem cc_is (x : Int32) : (x < 1 ∧ ¬ 1 ≤ x) ∨ (¬ x < 1 ∧ 1 ≤ x ∧ ¬ x ≤ 100 ∧ 100 < x) ∨ ∃ j : Nat, 1 ≤ j ∧ j ≤ 100 ∧ x = nI j := by
  rcases cc_ic x with ⟨h, -⟩ | ⟨h0, h1, h2, h3⟩ | ⟨j, hj, e⟩
  · have h1 : x < 1 := Int32.lt_trans h (by decide)
    exact Or.inl ⟨h1, Int32.not_le.mpr h1⟩
  · have h4 : (1 : Int32) ≤ x := Int32.le_trans (by decide) (Int32.le_of_lt h3)
    exact Or.inr (Or.inl ⟨Int32.not_lt.mpr h4, h4, h2, h3⟩)
  · by_cases z : j = 0
    · subst z
      subst e
      exact Or.inl ⟨by decide, by decide⟩
    · exact Or.inr (Or.inr ⟨j, by omega, hj, e⟩)
theorem cc_ir (x : Int32) {n : Nat} (hn : n ≤ 20) : (x < 0 ∧ ¬ 0 ≤ x) ∨ (¬ x < 0 ∧ 0 ≤ x ∧ ¬ x < nI n ∧ nI n ≤ x) ∨ ∃ j : Nat, j < n ∧ x = nI j := by
  rcases pk_ix x (n := n) (by omega) with h | h | h
  · exact Or.inl ⟨h, Int32.not_le.mpr h⟩
  · have h0 : (0 : Int32) ≤ x := Int32.le_trans (nI_pos' (by omega)) h
    exact Or.inr (Or.inl ⟨Int32.not_lt.mpr h0, h0, Int32.not_lt.mpr h, h⟩)
  · exact Or.inr (Or.inr h)
end
section
section
variable {ob hd st sz pX nX pY nY dc dn ke : Nat → Int32} {fd rc : Int32}
theorem cc_nb {b : Int32} (h : b = 0 ∨ b = 1) : narrow .boolean (.int b) = .int b := by
  rcases h with rfl | rfl <;> rfl
theorem cc_x59 {post : Int32 → Prop} {J : Int32 → Int32 → Prop} {x1 x3 z0 : Int32} {m i w : Nat} {d : Nat → Int32} (hm : m ≤ 100) (hw : w ≤ 100) (ez : z0 = nI w) (h : J (nI (if m ≤ w then m else w)) (nI (i + 1))) : wX_derivedYield_59 post J x1 (nI m) x3 (nI i) z0 rc fd ob hd st sz pX nX dc dn d ke := by
  subst ez
  by_cases c : m ≤ w
  · rw [if_pos c] at h
    exact br_t (nI_le c (by omega)) (nm_r (nI_1 i) h)
  · rw [if_neg c] at h
    exact br_f (nI_ge (by omega) (by omega)) (nm_r (nI_1 i) h)
theorem cc_y57 {post : Int32 → Prop} {J : Int32 → Int32 → Prop} {x1 z0 : Int32} {m i w : Nat} {d : Nat → Int32} (hm : m ≤ 100) (hw : w ≤ 100) (ez : z0 = nI w) (h : J (nI (if m ≤ w then m else w)) (nI (i + 1))) : wY_asks_57 post J x1 (nI m) (nI i) z0 fd rc ob dc dn hd st sz pY nY d ke := by
  subst ez
  by_cases c : m ≤ w
  · rw [if_pos c] at h
    exact br_t (nI_le c (by omega)) (nm_r (nI_1 i) h)
  · rw [if_neg c] at h
    exact br_f (nI_ge (by omega) (by omega)) (nm_r (nI_1 i) h)
theorem cc_yLoop {d : Nat → Int32} {r z s : Nat} (hr : r < 20) (hs : s ≤ 100) (es : st r = nI s) (hz : z ≤ 3) (ez : sz r = nI z) (hp : ∀ i, i < z → pY (3 * r + i) = pX (3 * r + i) ∧ nY (3 * r + i) = nX (3 * r + i) ∧ ∃ c, c < 16 ∧ pX (3 * r + i) = nI c) (B : cc_Bd d) : ∀ k i m, i + k = z → m ≤ 100 → ∃ y, y ≤ 100 ∧
    (∀ post : Int32 → Prop, post (nI y) → wX_derivedYield_10 post (nI r) (nI (3 * r)) rc fd ob hd st sz pX nX dc dn d ke (k + 1) (nI m) (nI i)) ∧
    (∀ post : Int32 → Prop, post (nI y) → wY_asks_5 post (nI r) fd rc ob dc dn hd st sz pY nY d ke (k + 1) (nI m) (nI i)) := by
  have ec : (nI r).toNatClampNeg = r := nI_clamp (by omega)
  have hin : vp_in (nI r) 20 := vp_in_nI hr (by omega)
  have es' : st (nI r).toNatClampNeg = nI s := by rw [ec]; exact es
  have ez' : sz (nI r).toNatClampNeg = nI z := by rw [ec]; exact ez
  intro k
  induction k with
  | zero =>
    intro i m hi hm
    obtain ⟨e1, e2⟩ := cc_yl hm hs
    have hle : sz (nI r).toNatClampNeg ≤ nI i := by rw [ez']; exact nI_le (by omega) (by omega)
    have ev : nI m * st (nI r).toNatClampNeg / 100 = nI (m * s / 100) := by rw [es']; exact e1
    refine ⟨m * s / 100, e2, fun post hP => ?_, fun post hP => ?_⟩
    · refine And.intro hin (br_t hle ⟨hin, by decide, ?_⟩)
      rw [ev]; exact hP
    · refine And.intro hin (br_t hle (And.intro hin ⟨by decide, ?_⟩))
      rw [ev]; exact hP
  | succ k ih =>
    intro i m hi hm
    have hlt : ¬ sz (nI r).toNatClampNeg ≤ nI i := by rw [ez']; exact nI_ge (by omega) (by omega)
    have h3 : ¬ (3 : Int32) ≤ nI i := nI_ge (b := 3) (by omega) (by decide)
    obtain ⟨ep, en, c, hc, ec2⟩ := hp i (by omega)
    have eX : (nI (3 * r) + nI i).toNatClampNeg = 3 * r + i := by rw [nI_add]; exact nI_clamp (by omega)
    have eY : (3 * nI r + nI i).toNatClampNeg = 3 * r + i := by rw [show (3 : Int32) * nI r = nI (3 * r) from pk_mul 3 r]; exact eX
    have iX : vp_in (nI (3 * r) + nI i) 60 := by rw [nI_add]; exact vp_in_nI (by omega) (by omega)
    have iY : vp_in (3 * nI r + nI i) 60 := by rw [show (3 : Int32) * nI r = nI (3 * r) from pk_mul 3 r]; exact iX
    have qX : pX (nI (3 * r) + nI i).toNatClampNeg = nI c := by rw [eX]; exact ec2
    have qY : pY (3 * nI r + nI i).toNatClampNeg = nI c := by rw [eY, ep]; exact ec2
    have gX : vp_in (pX (nI (3 * r) + nI i).toNatClampNeg) 16 := by rw [qX]; exact vp_in_nI hc (by omega)
    have gY : vp_in (pY (3 * nI r + nI i).toNatClampNeg) 16 := by rw [qY]; exact vp_in_nI hc (by omega)
    obtain ⟨v, hv, ev⟩ := B c hc
    have dX : d (pX (nI (3 * r) + nI i).toNatClampNeg).toNatClampNeg = nI v := by rw [qX, nI_clamp (by omega)]; exact ev
    have dY : d (pY (3 * nI r + nI i).toNatClampNeg).toNatClampNeg = nI v := by rw [qY, nI_clamp (by omega)]; exact ev
    have e100 : (100 : Int32) - nI v = nI (100 - v) := pk_sub (a := 100) hv
    by_cases z0 : nX (3 * r + i) = 0
    · have zX : nX (nI (3 * r) + nI i).toNatClampNeg = 0 := by rw [eX]; exact z0
      have zY : nY (3 * nI r + nI i).toNatClampNeg = 0 := by rw [eY, en]; exact z0
      obtain ⟨y, hy, hX, hY⟩ := ih (i + 1) (if m ≤ v then m else v) (by omega) (by split <;> omega)
      refine ⟨y, hy, fun post hP => ?_, fun post hP => ?_⟩
      · exact And.intro hin (br_f hlt ⟨iX, gX, nm_r dX ⟨iX, br_t zX (cc_x59 hm hv rfl (hX post hP))⟩⟩)
      · exact And.intro hin (br_f hlt (br_f h3 ⟨iY, gY, nm_r dY ⟨iY, br_t zY (cc_y57 hm hv rfl (hY post hP))⟩⟩))
    · have zX : ¬ nX (nI (3 * r) + nI i).toNatClampNeg = 0 := by rw [eX]; exact z0
      have zY : ¬ nY (3 * nI r + nI i).toNatClampNeg = 0 := by rw [eY, en]; exact z0
      obtain ⟨y, hy, hX, hY⟩ := ih (i + 1) (if m ≤ 100 - v then m else 100 - v) (by omega) (by split <;> omega)
      refine ⟨y, hy, fun post hP => ?_, fun post hP => ?_⟩
      · exact And.intro hin (br_f hlt ⟨iX, gX, nm_r dX ⟨iX, br_f zX (cc_x59 hm (by omega) e100 (hX post hP))⟩⟩)
      · exact And.intro hin (br_f hlt (br_f h3 ⟨iY, gY, nm_r dY ⟨iY, br_f zY (nm_r e100 (cc_y57 hm (by omega) rfl (hY post hP)))⟩⟩))
theorem cc_yield {d : Nat → Int32} {r : Nat} (hr : r < 20) (G : cc_G hd st sz pX nX pY nY r) (B : cc_Bd d) : ∃ y, y ≤ 100 ∧
    (∀ post : Int32 → Prop, post (nI y) → wpX_derivedYield post (rc, fd, ob, hd, st, sz, pX, nX, dc, dn, d, ke) (nI r)) ∧
    (∀ post : Int32 → Prop, post (nI y) → wpY_asks post (fd, rc, ob, dc, dn, hd, st, sz, pY, nY, d, ke) (nI r)) := by
  obtain ⟨-, ⟨s, -, hs, es⟩, z, hz, ez, hp⟩ := G
  obtain ⟨y, hy, hX, hY⟩ := cc_yLoop (ob := ob) (hd := hd) (dc := dc) (dn := dn) (ke := ke) (fd := fd) (rc := rc) hr hs es hz ez hp B z 0 100 (by omega) (by omega)
  refine ⟨y, hy, fun post hP => ?_, fun post hP => ?_⟩
  · refine nm_r (e' := nI (3 * r)) ?_ ⟨_, hX post hP⟩
    rw [show (3 : Int32) = nI 3 from rfl, pk_mul, Nat.mul_comm]
  · exact ⟨_, hY post hP⟩
theorem cc_rLoop {n l : Nat} (w : Int32) (hn : n ≤ 20) (hl : l < 4) (G : ∀ r, r < n → cc_G hd st sz pX nX pY nY r) : ∀ (k i : Nat) (d : Nat → Int32) (b : Int32), i + k = n → cc_Bd d → (b = 0 ∨ b = 1) → ∃ (b' : Int32) (d' : Nat → Int32), cc_Bd d' ∧ ((b' = b ∧ d' = d) ∨ (b' = 1 ∧ cc_sm l d < cc_sm l d')) ∧
    (∀ post : Int32 → SX → Prop, post b' (nI n, fd, ob, hd, st, sz, pX, nX, dc, dn, d', ke) → wX_raiseHeads_5 post (nI l) w (nI n) fd (k + 1) b (nI i) ob hd st sz pX nX dc dn d ke) ∧
    (∀ post : Int32 → SY → Prop, post b' (fd, nI n, ob, dc, dn, hd, st, sz, pY, nY, d', ke) → wY_raise_5 post (nI l) w fd (nI n) (k + 1) b (nI i) ob dc dn hd st sz pY nY d ke) := by
  intro k
  induction k with
  | zero =>
    intro i d b hi B hb
    have hle : nI n ≤ nI i := nI_le (by omega) (by omega)
    exact ⟨b, d, B, Or.inl ⟨rfl, rfl⟩, fun post hP => br_t hle ⟨cc_nb hb, hP⟩, fun post hP => br_t hle ⟨cc_nb hb, hP⟩⟩
  | succ k ih =>
    intro i d b hi B hb
    have hlt : ¬ nI n ≤ nI i := nI_ge (by omega) (by omega)
    have h20 : ¬ (20 : Int32) ≤ nI i := nI_ge (b := 20) (by omega) (by decide)
    have hin : vp_in (nI i) 20 := vp_in_nI (by omega) (by omega)
    obtain ⟨h, hh, eh0⟩ := (G i (by omega)).1
    have eh : hd (nI i).toNatClampNeg = nI h := by rw [nI_clamp (by omega)]; exact eh0
    by_cases hw : nI i = w
    · obtain ⟨b', d', B', R, hX, hY⟩ := ih (i + 1) d b (by omega) B hb
      exact ⟨b', d', B', R, fun post hP => br_f hlt ⟨hin, nm_r eh (br_t hw (nm_r (nI_1 i) (hX post hP)))⟩, fun post hP => br_f hlt (br_f h20 ⟨hin, nm_r eh (br_t hw (nm_r (nI_1 i) (hY post hP)))⟩)⟩
    · by_cases hlv : nI h / 4 = nI l
      · obtain ⟨y, hy, yX, yY⟩ := cc_yield (ob := ob) (dc := dc) (dn := dn) (ke := ke) (fd := fd) (rc := nI n) (by omega) (G i (by omega)) B
        have h16 : vp_in (nI h) 16 := vp_in_nI hh (by omega)
        have ehc : (nI h).toNatClampNeg = h := nI_clamp (by omega)
        obtain ⟨v, hv, ev⟩ := B h hh
        have ev' : d (nI h).toNatClampNeg = nI v := by rw [ehc]; exact ev
        by_cases hyv : y ≤ v
        · have c1 : nI y ≤ d (nI h).toNatClampNeg := by rw [ev']; exact nI_le hyv (by omega)
          obtain ⟨b', d', B', R, hX, hY⟩ := ih (i + 1) d b (by omega) B hb
          exact ⟨b', d', B', R, fun post hP => br_f hlt ⟨hin, nm_r eh (br_f hw (And.intro (by decide) (br_t hlv (yX _ ⟨h16, br_t c1 (nm_r (nI_1 i) (hX post hP))⟩))))⟩,
            fun post hP => br_f hlt (br_f h20 ⟨hin, nm_r eh (br_f hw ⟨by decide, br_t hlv (yY _ ⟨h16, br_t c1 (nm_r (nI_1 i) (hY post hP))⟩)⟩)⟩)⟩
        · have c1 : ¬ nI y ≤ d (nI h).toNatClampNeg := by rw [ev']; exact nI_ge (by omega) (by omega)
          have eu : upd d (nI h).toNatClampNeg (nI y) = upd d h (nI y) := by rw [ehc]
          have hlh : h / 4 = l := by
            rw [cc_div4 hh] at hlv
            exact (nI_eq (by omega) (by omega)).mp hlv
          have sl := cc_sm_lt (q := y) hlh ev (by omega) hy
          obtain ⟨b', d', B', R, hX, hY⟩ := ih (i + 1) (upd d h (nI y)) 1 (by omega) (cc_Bd_upd B hy) (Or.inr rfl)
          refine ⟨b', d', B', Or.inr ?_, fun post hP => br_f hlt ⟨hin, nm_r eh (br_f hw (And.intro (by decide) (br_t hlv (yX _ ⟨h16, br_f c1 ⟨h16, nm_r eu (nm_r (nI_1 i) (hX post hP))⟩⟩))))⟩,
            fun post hP => br_f hlt (br_f h20 ⟨hin, nm_r eh (br_f hw ⟨by decide, br_t hlv (yY _ ⟨h16, br_f c1 ⟨h16, nm_r eu (nm_r (nI_1 i) (hY post hP))⟩⟩)⟩)⟩)⟩
          rcases R with ⟨r1, r2⟩ | ⟨r1, r2⟩
          · exact ⟨r1, by rw [r2]; exact sl⟩
          · exact ⟨r1, Nat.lt_trans sl r2⟩
      · obtain ⟨b', d', B', R, hX, hY⟩ := ih (i + 1) d b (by omega) B hb
        exact ⟨b', d', B', R, fun post hP => br_f hlt ⟨hin, nm_r eh (br_f hw (And.intro (by decide) (br_f hlv (nm_r (nI_1 i) (hX post hP)))))⟩,
          fun post hP => br_f hlt (br_f h20 ⟨hin, nm_r eh (br_f hw ⟨by decide, br_f hlv (nm_r (nI_1 i) (hY post hP))⟩)⟩)⟩
theorem cc_raise {n l : Nat} {d : Nat → Int32} (w : Int32) (hn : n ≤ 20) (hl : l < 4) (G : ∀ r, r < n → cc_G hd st sz pX nX pY nY r) (B : cc_Bd d) : ∃ (b' : Int32) (d' : Nat → Int32), cc_Bd d' ∧ (b' = 0 ∨ (b' = 1 ∧ cc_sm l d < cc_sm l d')) ∧
    (∀ post : Int32 → SX → Prop, post b' (nI n, fd, ob, hd, st, sz, pX, nX, dc, dn, d', ke) → wpX_raiseHeads post (nI n, fd, ob, hd, st, sz, pX, nX, dc, dn, d, ke) (nI l) w) ∧
    (∀ post : Int32 → SY → Prop, post b' (fd, nI n, ob, dc, dn, hd, st, sz, pY, nY, d', ke) → wpY_raise post (fd, nI n, ob, dc, dn, hd, st, sz, pY, nY, d, ke) (nI l) w) := by
  obtain ⟨b', d', B', R, hX, hY⟩ := cc_rLoop (ob := ob) (dc := dc) (dn := dn) (ke := ke) (fd := fd) w hn hl G n 0 d 0 (by omega) B (Or.inl rfl)
  exact ⟨b', d', B', R.imp (fun z => z.1) id, fun post hP => ⟨_, hX post hP⟩, fun post hP => ⟨_, hY post hP⟩⟩
theorem cc_sLoop {n l : Nat} (w : Int32) (hn : n ≤ 20) (hl : l < 4) (G : ∀ r, r < n → cc_G hd st sz pX nX pY nY r) : ∀ (k p : Nat) (d : Nat → Int32), p + k = 401 → p ≤ cc_sm l d → cc_Bd d → ∃ d' : Nat → Int32, cc_Bd d' ∧
    (∀ post : SX → Prop, post (nI n, fd, ob, hd, st, sz, pX, nX, dc, dn, d', ke) → wX_settleLevel_5 post (nI l) w (k + 1) 1 (nI p) (nI n) fd ob hd st sz pX nX dc dn d ke) ∧
    (∀ (post : SY → Prop) (J : Int32 → Int32 → Int32 → (Nat → Int32) → (Nat → Int32) → (Nat → Int32) → (Nat → Int32) → (Nat → Int32) → (Nat → Int32) → (Nat → Int32) → (Nat → Int32) → (Nat → Int32) → (Nat → Int32) → Prop), J (nI (l + 1)) fd (nI n) ob dc dn hd st sz pY nY d' ke → wY_workOut_55 post J w (nI l) (k + 1) 1 (nI p) fd (nI n) ob dc dn hd st sz pY nY d ke) := by
  intro k
  induction k with
  | zero =>
    intro p d hp hs B
    have := cc_sm_le B hl
    omega
  | succ k ih =>
    intro p d hp hs B
    have h4 := cc_sm_le B hl
    have n1 : ¬ (1 : Int32) = 0 := by decide
    have h401 : ¬ (401 : Int32) ≤ nI p := nI_ge (b := 401) (by omega) (by decide)
    have h500 : ¬ (500 : Int32) ≤ nI p := nI_ge (b := 500) (by omega) (by decide)
    obtain ⟨b', d1, B1, R, rX, rY⟩ := cc_raise (ob := ob) (dc := dc) (dn := dn) (ke := ke) (fd := fd) w hn hl G B
    rcases R with rfl | ⟨rfl, hlt⟩
    · refine ⟨d1, B1, fun post hP => br_f n1 (br_f h401 (rX _ ?_)), fun post J hJ => br_f h500 (br_f n1 (rY _ ?_))⟩
      · exact nm_r (nI_1 p) (br_t rfl hP)
      · have h500' : ¬ (500 : Int32) ≤ nI (p + 1) := nI_ge (b := 500) (by omega) (by decide)
        exact nm_r (nI_1 p) (br_f h500' (br_t rfl (nm_r (nI_1 l) hJ)))
    · obtain ⟨d', B', hX, hY⟩ := ih (p + 1) d1 (by omega) (by omega) B1
      refine ⟨d', B', fun post hP => br_f n1 (br_f h401 (rX _ ?_)), fun post J hJ => br_f h500 (br_f n1 (rY _ ?_))⟩
      · exact nm_r (nI_1 p) (hX post hP)
      · exact nm_r (nI_1 p) (hY post J hJ)
theorem cc_lev {n : Nat} (w : Int32) (hn : n ≤ 20) (G : ∀ r, r < n → cc_G hd st sz pX nX pY nY r) : ∀ (k l : Nat) (d : Nat → Int32), l + k = 4 → cc_Bd d → ∃ d' : Nat → Int32, cc_Bd d' ∧
    (∀ post : SX → Prop, post (nI n, fd, ob, hd, st, sz, pX, nX, dc, dn, d', ke) → wX_derive_43 post w (k + 1) (nI l) (nI n) fd ob hd st sz pX nX dc dn d ke) ∧
    (∀ post : SY → Prop, post (fd, nI n, ob, dc, dn, hd, st, sz, pY, nY, d', ke) → wY_workOut_43 post w (k + 1) (nI l) fd (nI n) ob dc dn hd st sz pY nY d ke) := by
  intro k
  induction k with
  | zero =>
    intro l d hl B
    have h4 : (4 : Int32) ≤ nI l := nI_le (a := 4) (by omega) (by omega)
    exact ⟨d, B, fun post hP => br_t h4 hP, fun post hP => br_t h4 hP⟩
  | succ k ih =>
    intro l d hl B
    have h4 : ¬ (4 : Int32) ≤ nI l := nI_ge (b := 4) (by omega) (by decide)
    obtain ⟨d1, B1, sX, sY⟩ := cc_sLoop (ob := ob) (dc := dc) (dn := dn) (ke := ke) (fd := fd) (l := l) w hn (by omega) G 401 0 d (by omega) (by omega) B
    obtain ⟨d', B', hX, hY⟩ := ih (l + 1) d1 (by omega) B1
    refine ⟨d', B', fun post hP => br_f h4 ⟨402, sX _ ?_⟩, fun post hP => br_f h4 ⟨402, sY _ _ (hY post hP)⟩⟩
    exact nm_r (nI_1 l) (hX post hP)
theorem cc_ini {n v : Nat} (w o : Int32) (hv : v ≤ 100) (O : cc_Bd ob) : ∀ (k i : Nat) (d : Nat → Int32), i + k = 16 → (∀ c, c < i → ∃ m, m ≤ 100 ∧ d c = nI m) → ∃ d' : Nat → Int32, cc_Bd d' ∧
    (∀ post : SX → Prop, (∃ n43 : Nat, wX_derive_43 post w n43 0 (nI n) fd ob hd st sz pX nX dc dn d' ke) → wX_derive_3 post w o (nI v) (nI n) fd (k + 1) (nI i) ob hd st sz pX nX dc dn d ke) ∧
    (∀ post : SY → Prop, (∃ n43 : Nat, wY_workOut_43 post w n43 0 fd (nI n) ob dc dn hd st sz pY nY d' ke) → wY_workOut_3 post o (nI v) w fd (nI n) (k + 1) (nI i) ob dc dn hd st sz pY nY d ke) := by
  intro k
  induction k with
  | zero =>
    intro i d hi B
    have h16 : (16 : Int32) ≤ nI i := nI_le (a := 16) (by omega) (by omega)
    exact ⟨d, fun c hc => B c (by omega), fun post hP => br_t h16 hP, fun post hP => br_t h16 hP⟩
  | succ k ih =>
    intro i d hi B
    have h16 : ¬ (16 : Int32) ≤ nI i := nI_ge (b := 16) (by omega) (by decide)
    have hin : vp_in (nI i) 16 := vp_in_nI (by omega) (by omega)
    have ec : (nI i).toNatClampNeg = i := nI_clamp (by omega)
    have up : ∀ m, m ≤ 100 → ∀ c, c < i + 1 → ∃ m', m' ≤ 100 ∧ upd d i (nI m) c = nI m' := by
      intro m hm c hc
      by_cases e : c = i
      · subst e
        exact ⟨m, hm, pk_us⟩
      · obtain ⟨m', h1, h2⟩ := B c (by omega)
        exact ⟨m', h1, by rw [pk_un e]; exact h2⟩
    by_cases ho : nI i = o
    · obtain ⟨d', B', hX, hY⟩ := ih (i + 1) (upd d i (nI v)) (by omega) (up v hv)
      have eu : upd d (nI i).toNatClampNeg (nI v) = upd d i (nI v) := by rw [ec]
      exact ⟨d', B', fun post hP => br_f h16 (br_t ho ⟨hin, nm_r eu (nm_r (nI_1 i) (hX post hP))⟩), fun post hP => br_f h16 (br_t ho ⟨hin, nm_r eu (nm_r (nI_1 i) (hY post hP))⟩)⟩
    · obtain ⟨m, hm, em⟩ := O i (by omega)
      obtain ⟨d', B', hX, hY⟩ := ih (i + 1) (upd d i (nI m)) (by omega) (up m hm)
      have eu : upd d (nI i).toNatClampNeg (ob (nI i).toNatClampNeg) = upd d i (nI m) := by rw [ec, em]
      exact ⟨d', B', fun post hP => br_f h16 (br_f ho ⟨hin, hin, nm_r eu (nm_r (nI_1 i) (hX post hP))⟩), fun post hP => br_f h16 (br_f ho ⟨hin, hin, nm_r eu (nm_r (nI_1 i) (hY post hP))⟩)⟩
/-- both sides work the certainties out, and alike -/
theorem cc_derive {n v : Nat} {d : Nat → Int32} (w o : Int32) (hv : v ≤ 100) (hn : n ≤ 20) (O : cc_Bd ob) (G : ∀ r, r < n → cc_G hd st sz pX nX pY nY r) : ∃ d' : Nat → Int32, cc_Bd d' ∧
    (∀ post : SX → Prop, post (nI n, fd, ob, hd, st, sz, pX, nX, dc, dn, d', ke) → wpX_derive post (nI n, fd, ob, hd, st, sz, pX, nX, dc, dn, d, ke) w o (nI v)) ∧
    (∀ post : SY → Prop, post (fd, nI n, ob, dc, dn, hd, st, sz, pY, nY, d', ke) → wpY_workOut post (fd, nI n, ob, dc, dn, hd, st, sz, pY, nY, d, ke) o (nI v) w) := by
  obtain ⟨d1, B1, iX, iY⟩ := cc_ini (hd := hd) (st := st) (sz := sz) (pX := pX) (nX := nX) (pY := pY) (nY := nY) (dc := dc) (dn := dn) (ke := ke) (fd := fd) (n := n) w o hv O 16 0 d (by omega) (fun c hc => by omega)
  obtain ⟨d', B', hX, hY⟩ := cc_lev (ob := ob) (dc := dc) (dn := dn) (ke := ke) (fd := fd) w hn G 4 0 d1 (by omega) B1
  exact ⟨d', B', fun post hP => ⟨17, iX post ⟨5, hX post hP⟩⟩, fun post hP => ⟨17, iY post ⟨5, hY post hP⟩⟩⟩
theorem cc_asIs {n : Nat} {d : Nat → Int32} (hn : n ≤ 20) (O : cc_Bd ob) (G : ∀ r, r < n → cc_G hd st sz pX nX pY nY r) : ∃ d' : Nat → Int32, cc_Bd d' ∧
    (∀ post : SX → Prop, post (nI n, fd, ob, hd, st, sz, pX, nX, dc, dn, d', ke) → wpX_deriveAsIs post (nI n, fd, ob, hd, st, sz, pX, nX, dc, dn, d, ke)) ∧
    (∀ post : SY → Prop, post (fd, nI n, ob, dc, dn, hd, st, sz, pY, nY, d', ke) → wpY_workOut post (fd, nI n, ob, dc, dn, hd, st, sz, pY, nY, d, ke) (-1) 0 (-1)) := by
  obtain ⟨d', B', hX, hY⟩ := cc_derive (dc := dc) (dn := dn) (ke := ke) (fd := fd) (d := d) (v := 0) (-1) (-1) (by omega) hn O G
  refine ⟨d', B', fun post hP => ?_, fun post hP => hY post hP⟩
  unfold wpX_deriveAsIs
  exact hX _ hP
end
end
section
section
variable {ob hd st sz pX nX pY nY dc dn : Nat → Int32} {fd rc : Int32}
theorem cc_sup {ke d : Nat → Int32} {n c : Nat} (hn : n ≤ 20) (hc : c < 16) (G : ∀ r, r < n → cc_G hd st sz pX nX pY nY r) (B : cc_Bd d) : ∀ (k i : Nat), i + k = n → ∃ a : Int32,
    (∀ post : Int32 → SX → Prop, post a (nI n, fd, ob, hd, st, sz, pX, nX, dc, dn, d, ke) → wX_supporter_15 post (nI c) (nI n) fd ob hd st sz pX nX dc dn d ke (k + 1) (nI i)) ∧
    (∀ post : Int32 → SY → Prop, post a (fd, nI n, ob, dc, dn, hd, st, sz, pY, nY, d, ke) → wY_supporter_19 post (nI c) fd (nI n) ob dc dn hd st sz pY nY d ke (k + 1) (nI i)) := by
  have hcin : vp_in (nI c) 16 := vp_in_nI hc (by omega)
  intro k
  induction k with
  | zero =>
    intro i hi
    have hle : nI n ≤ nI i := nI_le (by omega) (by omega)
    exact ⟨-2, fun post hP => br_t hle hP, fun post hP => br_t hle hP⟩
  | succ k ih =>
    intro i hi
    have hlt : ¬ nI n ≤ nI i := nI_ge (by omega) (by omega)
    have h20 : ¬ (20 : Int32) ≤ nI i := nI_ge (b := 20) (by omega) (by decide)
    have hin : vp_in (nI i) 20 := vp_in_nI (by omega) (by omega)
    obtain ⟨a, hX, hY⟩ := ih (i + 1) (by omega)
    obtain ⟨y, hy, yX, yY⟩ := cc_yield (ob := ob) (dc := dc) (dn := dn) (ke := ke) (fd := fd) (rc := nI n) (by omega) (G i (by omega)) B
    by_cases e1 : hd (nI i).toNatClampNeg = nI c
    · by_cases e2 : d (nI c).toNatClampNeg ≤ 0
      · exact ⟨a, fun post hP => br_f hlt ⟨hin, br_t e1 ⟨hcin, br_t e2 (nm_r (nI_1 i) (hX post hP))⟩⟩, fun post hP => br_f hlt (br_f h20 ⟨hin, br_t e1 ⟨hcin, br_t e2 (nm_r (nI_1 i) (hY post hP))⟩⟩)⟩
      · by_cases e3 : nI y = d (nI c).toNatClampNeg
        · exact ⟨nI i, fun post hP => br_f hlt ⟨hin, br_t e1 ⟨hcin, br_f e2 (yX _ ⟨hcin, br_t e3 hP⟩)⟩⟩, fun post hP => br_f hlt (br_f h20 ⟨hin, br_t e1 ⟨hcin, br_f e2 (yY _ ⟨hcin, br_t e3 hP⟩)⟩⟩)⟩
        · exact ⟨a, fun post hP => br_f hlt ⟨hin, br_t e1 ⟨hcin, br_f e2 (yX _ ⟨hcin, br_f e3 (nm_r (nI_1 i) (hX post hP))⟩)⟩⟩, fun post hP => br_f hlt (br_f h20 ⟨hin, br_t e1 ⟨hcin, br_f e2 (yY _ ⟨hcin, br_f e3 (nm_r (nI_1 i) (hY post hP))⟩)⟩⟩)⟩
    · exact ⟨a, fun post hP => br_f hlt ⟨hin, br_f e1 (nm_r (nI_1 i) (hX post hP))⟩, fun post hP => br_f hlt (br_f h20 ⟨hin, br_f e1 (nm_r (nI_1 i) (hY post hP))⟩)⟩
theorem cc_atL {ke d : Nat → Int32} (x : Int32) : ∀ (k i : Nat) (a : Int32), i + k = 16 → ∃ r : Int32,
    (∀ post : Int32 → SX → Prop, post r (rc, fd, ob, hd, st, sz, pX, nX, dc, dn, d, ke) → wX_atLeast_8 post x rc fd ob hd st sz pX nX dc dn d ke (k + 1) a (nI i)) ∧
    (∀ post : Int32 → SY → Prop, post r (fd, rc, ob, dc, dn, hd, st, sz, pY, nY, d, ke) → wY_atLeast_11 post x fd rc ob dc dn hd st sz pY nY d ke (k + 1) a (nI i)) := by
  intro k
  induction k with
  | zero =>
    intro i a hi
    have h16 : (16 : Int32) ≤ nI i := nI_le (a := 16) (by omega) (by omega)
    exact ⟨a, fun post hP => br_t h16 hP, fun post hP => br_t h16 hP⟩
  | succ k ih =>
    intro i a hi
    have h16 : ¬ (16 : Int32) ≤ nI i := nI_ge (b := 16) (by omega) (by decide)
    have hin : vp_in (nI i) 16 := vp_in_nI (by omega) (by omega)
    by_cases e : d (nI i).toNatClampNeg < x
    · obtain ⟨r, hX, hY⟩ := ih (i + 1) a (by omega)
      exact ⟨r, fun post hP => br_f h16 ⟨hin, br_t e (nm_r (nI_1 i) (hX post hP))⟩, fun post hP => br_f h16 ⟨hin, br_t e (nm_r (nI_1 i) (hY post hP))⟩⟩
    · obtain ⟨r, hX, hY⟩ := ih (i + 1) (a + 1) (by omega)
      exact ⟨r, fun post hP => br_f h16 ⟨hin, br_f e (nm_e (nm_r (nI_1 i) (hX post hP)))⟩, fun post hP => br_f h16 ⟨hin, br_f e (nm_e (nm_r (nI_1 i) (hY post hP)))⟩⟩
theorem cc_str {ke d : Nat → Int32} {t : Nat} (ht : t < 16) : ∀ (k i b : Nat), i + k = t + 1 → b < 16 → ∃ r : Int32,
    (∀ post : Int32 → SX → Prop, post r (rc, fd, ob, hd, st, sz, pX, nX, dc, dn, d, ke) → wX_strongest_35 post (nI t) rc fd ob hd st sz pX nX dc dn d ke (k + 1) (nI b) (nI i)) ∧
    (∀ post : Int32 → SY → Prop, post r (fd, rc, ob, dc, dn, hd, st, sz, pY, nY, d, ke) → wY_strongest_38 post (nI t) fd rc ob dc dn hd st sz pY nY d ke (k + 1) (nI b) (nI i)) := by
  intro k
  induction k with
  | zero =>
    intro i b hi hb
    have h16 : nI t < nI i := nI_lt (by omega) (by omega)
    exact ⟨nI b, fun post hP => br_t h16 hP, fun post hP => br_t h16 hP⟩
  | succ k ih =>
    intro i b hi hb
    have h16 : ¬ nI t < nI i := nI_nlt (by omega) (by omega)
    have hin : vp_in (nI i) 16 := vp_in_nI (by omega) (by omega)
    have hbn : vp_in (nI b) 16 := vp_in_nI (by omega) (by omega)
    by_cases e : d (nI i).toNatClampNeg ≤ d (nI b).toNatClampNeg
    · obtain ⟨r, hX, hY⟩ := ih (i + 1) b (by omega) hb
      exact ⟨r, fun post hP => br_f h16 ⟨hin, hbn, br_t e (nm_r (nI_1 i) (hX post hP))⟩, fun post hP => br_f h16 ⟨hin, hbn, br_t e (nm_r (nI_1 i) (hY post hP))⟩⟩
    · obtain ⟨r, hX, hY⟩ := ih (i + 1) i (by omega) (by omega)
      exact ⟨r, fun post hP => br_f h16 ⟨hin, hbn, br_f e (nm_r (nI_1 i) (hX post hP))⟩, fun post hP => br_f h16 ⟨hin, hbn, br_f e (nm_r (nI_1 i) (hY post hP))⟩⟩
theorem cc_kLoop {d : Nat → Int32} : ∀ (k i : Nat) (ke : Nat → Int32), i + k = 16 → ∃ ke' : Nat → Int32,
    (∀ post : SX → Prop, post (rc, fd, ob, hd, st, sz, pX, nX, dc, dn, d, ke') → wX_keepDerived_2 post rc fd (k + 1) (nI i) ob hd st sz pX nX dc dn d ke) ∧
    (∀ post : SY → Prop, post (fd, rc, ob, dc, dn, hd, st, sz, pY, nY, d, ke') → wY_keep_9 post fd rc (k + 1) (nI i) ob dc dn hd st sz pY nY d ke) := by
  intro k
  induction k with
  | zero =>
    intro i ke hi
    have h16 : (16 : Int32) ≤ nI i := nI_le (a := 16) (by omega) (by omega)
    exact ⟨ke, fun post hP => br_t h16 hP, fun post hP => br_t h16 hP⟩
  | succ k ih =>
    intro i ke hi
    have h16 : ¬ (16 : Int32) ≤ nI i := nI_ge (b := 16) (by omega) (by decide)
    have hin : vp_in (nI i) 16 := vp_in_nI (by omega) (by omega)
    obtain ⟨ke', hX, hY⟩ := ih (i + 1) (upd ke (nI i).toNatClampNeg (d (nI i).toNatClampNeg)) (by omega)
    exact ⟨ke', fun post hP => br_f h16 ⟨hin, hin, nm_e (nm_r (nI_1 i) (hX post hP))⟩, fun post hP => br_f h16 ⟨hin, hin, nm_e (nm_r (nI_1 i) (hY post hP))⟩⟩
theorem cc_oLoop {d ke : Nat → Int32} : ∀ (k i : Nat) (a : Int32), i + k = 16 → ∃ r : Int32,
    (∀ post : Int32 → Prop, post r → wX_countOtherThanKept_4 post rc fd ob hd st sz pX nX dc dn d ke (k + 1) a (nI i)) ∧
    (∀ post : Int32 → Prop, post r → wY_others_4 post fd rc ob dc dn hd st sz pY nY d ke (k + 1) a (nI i)) := by
  intro k
  induction k with
  | zero =>
    intro i a hi
    have h16 : (16 : Int32) ≤ nI i := nI_le (a := 16) (by omega) (by omega)
    exact ⟨a, fun post hP => br_t h16 hP, fun post hP => br_t h16 hP⟩
  | succ k ih =>
    intro i a hi
    have h16 : ¬ (16 : Int32) ≤ nI i := nI_ge (b := 16) (by omega) (by decide)
    have hin : vp_in (nI i) 16 := vp_in_nI (by omega) (by omega)
    by_cases e : d (nI i).toNatClampNeg = ke (nI i).toNatClampNeg
    · obtain ⟨r, hX, hY⟩ := ih (i + 1) a (by omega)
      exact ⟨r, fun post hP => br_f h16 ⟨hin, hin, br_t e (nm_r (nI_1 i) (hX post hP))⟩, fun post hP => br_f h16 ⟨hin, hin, br_t e (nm_r (nI_1 i) (hY post hP))⟩⟩
    · obtain ⟨r, hX, hY⟩ := ih (i + 1) (a + 1) (by omega)
      exact ⟨r, fun post hP => br_f h16 ⟨hin, hin, br_f e (nm_e (nm_r (nI_1 i) (hX post hP)))⟩, fun post hP => br_f h16 ⟨hin, hin, br_f e (nm_e (nm_r (nI_1 i) (hY post hP)))⟩⟩
theorem cc_oth {d ke : Nat → Int32} : ∃ r : Int32,
    (∀ post : Int32 → Prop, post r → wpX_countOtherThanKept post (rc, fd, ob, hd, st, sz, pX, nX, dc, dn, d, ke)) ∧
    (∀ post : Int32 → Prop, post r → wpY_others post (fd, rc, ob, dc, dn, hd, st, sz, pY, nY, d, ke)) := by
  obtain ⟨r, hX, hY⟩ := cc_oLoop (ob := ob) (hd := hd) (st := st) (sz := sz) (pX := pX) (nX := nX) (pY := pY) (nY := nY) (dc := dc) (dn := dn) (fd := fd) (rc := rc) (d := d) (ke := ke) 16 0 0 (by omega)
  exact ⟨r, fun post hP => ⟨17, hX post hP⟩, fun post hP => ⟨17, hY post hP⟩⟩
/-- the certainties as they are, kept: X by two calls, Y by one -/
theorem cc_keep {n : Nat} {d ke : Nat → Int32} (hn : n ≤ 20) (O : cc_Bd ob) (G : ∀ r, r < n → cc_G hd st sz pX nX pY nY r) : ∃ d' ke' : Nat → Int32, cc_Bd d' ∧
    (∀ post : SX → Prop, post (nI n, fd, ob, hd, st, sz, pX, nX, dc, dn, d', ke) → wpX_deriveAsIs post (nI n, fd, ob, hd, st, sz, pX, nX, dc, dn, d, ke)) ∧
    (∀ post : SX → Prop, post (nI n, fd, ob, hd, st, sz, pX, nX, dc, dn, d', ke') → wpX_keepDerived post (nI n, fd, ob, hd, st, sz, pX, nX, dc, dn, d', ke)) ∧
    (∀ post : SY → Prop, post (fd, nI n, ob, dc, dn, hd, st, sz, pY, nY, d', ke') → wpY_keep post (fd, nI n, ob, dc, dn, hd, st, sz, pY, nY, d, ke)) := by
  obtain ⟨d', B', hX, hY⟩ := cc_asIs (dc := dc) (dn := dn) (ke := ke) (fd := fd) (d := d) hn O G
  obtain ⟨ke', kX, kY⟩ := cc_kLoop (ob := ob) (hd := hd) (st := st) (sz := sz) (pX := pX) (nX := nX) (pY := pY) (nY := nY) (dc := dc) (dn := dn) (fd := fd) (rc := nI n) (d := d') 16 0 ke (by omega)
  refine ⟨d', ke', B', hX, fun post hP => ⟨17, kX post hP⟩, fun post hP => ?_⟩
  unfold wpY_keep
  exact hY _ ⟨17, kY post hP⟩
theorem cc_ess {n : Nat} {ke : Nat → Int32} (hn : n ≤ 20) (O : cc_Bd ob) (G : ∀ r, r < n → cc_G hd st sz pX nX pY nY r) : ∀ (k i : Nat) (a : Int32) (d : Nat → Int32), i + k = n → ∃ (r : Int32) (d' : Nat → Int32),
    (∀ post : Int32 → SX → Prop, post r (nI n, fd, ob, hd, st, sz, pX, nX, dc, dn, d', ke) → wX_essential_12 post (k + 1) a (nI i) (nI n) fd ob hd st sz pX nX dc dn d ke) ∧
    (∀ post : Int32 → SY → Prop, post r (fd, nI n, ob, dc, dn, hd, st, sz, pY, nY, d', ke) → wY_essential_8 post (k + 1) a (nI i) fd (nI n) ob dc dn hd st sz pY nY d ke) := by
  intro k
  induction k with
  | zero =>
    intro i a d hi
    have hle : nI n ≤ nI i := nI_le (by omega) (by omega)
    exact ⟨a, d, fun post hP => br_t hle hP, fun post hP => br_t hle hP⟩
  | succ k ih =>
    intro i a d hi
    have hlt : ¬ nI n ≤ nI i := nI_ge (by omega) (by omega)
    have h20 : ¬ (20 : Int32) ≤ nI i := nI_ge (b := 20) (by omega) (by decide)
    obtain ⟨d1, B1, dX, dY⟩ := cc_derive (dc := dc) (dn := dn) (ke := ke) (fd := fd) (d := d) (v := 0) (nI i) (-1) (by omega) hn O G
    obtain ⟨q, oX, oY⟩ := cc_oth (ob := ob) (hd := hd) (st := st) (sz := sz) (pX := pX) (nX := nX) (pY := pY) (nY := nY) (dc := dc) (dn := dn) (fd := fd) (rc := nI n) (d := d1) (ke := ke)
    by_cases e : q ≤ 0
    · obtain ⟨r, d', hX, hY⟩ := ih (i + 1) a d1 (by omega)
      refine ⟨r, d', fun post hP => br_f hlt (dX _ ?_), fun post hP => br_f hlt (br_f h20 (dY _ ?_))⟩
      · exact oX _ (br_t e (nm_r (nI_1 i) (hX post hP)))
      · exact oY _ (br_t e (nm_r (nI_1 i) (hY post hP)))
    · obtain ⟨r, d', hX, hY⟩ := ih (i + 1) (a + 1) d1 (by omega)
      refine ⟨r, d', fun post hP => br_f hlt (dX _ ?_), fun post hP => br_f hlt (br_f h20 (dY _ ?_))⟩
      · exact oX _ (br_f e (nm_e (nm_r (nI_1 i) (hX post hP))))
      · exact oY _ (br_f e (nm_e (nm_r (nI_1 i) (hY post hP))))
end
end
section
section
variable {ob dc dn d ke : Nat → Int32} {fd rc : Int32}
theorem cc_m3 (r : Nat) : nI r * 3 = nI (3 * r) := by
  rw [show (3 : Int32) = nI 3 from rfl, pk_mul, Nat.mul_comm]
theorem cc_3m (r : Nat) : 3 * nI r = nI (3 * r) := pk_mul 3 r
theorem cc_a3 (r : Nat) : nI r + 3 = nI (r + 3) := nI_add r 3
theorem cc_fit {hd st sz pX nX pY nY : Nat → Int32} {q : Nat} (hq : q ≤ 3) (h : Int32) : ∀ (k i : Nat), i + k = q →
    ((∀ post : Int32 → Prop, post 0 → wX_draftFits_7 post (h / 4) rc (nI q) ob hd st sz pX nX dc dn d ke (k + 1) (nI i)) ∧ (∀ (x2 : Int32) (post : Int32 → SY → Prop), post (-3) (nI q, rc, ob, dc, dn, hd, st, sz, pY, nY, d, ke) → wY_rule_26 post h x2 (nI q) rc ob dc dn hd st sz pY nY d ke (k + 1) (nI i))) ∨
    ((∀ post : Int32 → Prop, post 1 → wX_draftFits_7 post (h / 4) rc (nI q) ob hd st sz pX nX dc dn d ke (k + 1) (nI i)) ∧ (∀ (x2 : Int32) (post : Int32 → SY → Prop), wY_rule_83 post h x2 (nI q) rc ob dc dn hd st sz pY nY d ke → wY_rule_26 post h x2 (nI q) rc ob dc dn hd st sz pY nY d ke (k + 1) (nI i))) := by
  have n4 : ¬ (4 : Int32) = 0 := by decide
  intro k
  induction k with
  | zero =>
    intro i hi
    have hle : nI q ≤ nI i := nI_le (by omega) (by omega)
    exact Or.inr ⟨fun post hP => br_t hle hP, fun x2 post hP => br_t hle hP⟩
  | succ k ih =>
    intro i hi
    have hlt : ¬ nI q ≤ nI i := nI_ge (by omega) (by omega)
    have h3 : ¬ (3 : Int32) ≤ nI i := nI_ge (b := 3) (by omega) (by decide)
    have hin : vp_in (nI i) 3 := vp_in_nI (by omega) (by omega)
    by_cases e1 : h / 4 < dc (nI i).toNatClampNeg / 4
    · exact Or.inl ⟨fun post hP => br_f hlt ⟨hin, And.intro n4 (br_t e1 hP)⟩, fun x2 post hP => br_f hlt (br_f h3 ⟨hin, n4, nm_e ⟨n4, br_t e1 hP⟩⟩)⟩
    · by_cases e2 : dn (nI i).toNatClampNeg = 0
      · refine (ih (i + 1) (by omega)).imp (fun H => ?_) (fun H => ?_)
        · exact ⟨fun post hP => br_f hlt ⟨hin, And.intro n4 (br_f e1 ⟨hin, br_t e2 (nm_r (nI_1 i) (H.1 post hP))⟩)⟩, fun x2 post hP => br_f hlt (br_f h3 ⟨hin, n4, nm_e ⟨n4, br_f e1 ⟨hin, br_t e2 (nm_r (nI_1 i) (H.2 x2 post hP))⟩⟩⟩)⟩
        · exact ⟨fun post hP => br_f hlt ⟨hin, And.intro n4 (br_f e1 ⟨hin, br_t e2 (nm_r (nI_1 i) (H.1 post hP))⟩)⟩, fun x2 post hP => br_f hlt (br_f h3 ⟨hin, n4, nm_e ⟨n4, br_f e1 ⟨hin, br_t e2 (nm_r (nI_1 i) (H.2 x2 post hP))⟩⟩⟩)⟩
      · by_cases e3 : dc (nI i).toNatClampNeg / 4 = h / 4
        · exact Or.inl ⟨fun post hP => br_f hlt ⟨hin, And.intro n4 (br_f e1 ⟨hin, br_f e2 (br_t e3 hP)⟩)⟩, fun x2 post hP => br_f hlt (br_f h3 ⟨hin, n4, nm_e ⟨n4, br_f e1 ⟨hin, br_f e2 ⟨n4, br_t e3 hP⟩⟩⟩⟩)⟩
        · refine (ih (i + 1) (by omega)).imp (fun H => ?_) (fun H => ?_)
          · exact ⟨fun post hP => br_f hlt ⟨hin, And.intro n4 (br_f e1 ⟨hin, br_f e2 (br_f e3 (nm_r (nI_1 i) (H.1 post hP)))⟩)⟩, fun x2 post hP => br_f hlt (br_f h3 ⟨hin, n4, nm_e ⟨n4, br_f e1 ⟨hin, br_f e2 ⟨n4, br_f e3 (nm_r (nI_1 i) (H.2 x2 post hP))⟩⟩⟩⟩)⟩
          · exact ⟨fun post hP => br_f hlt ⟨hin, And.intro n4 (br_f e1 ⟨hin, br_f e2 (br_f e3 (nm_r (nI_1 i) (H.1 post hP)))⟩)⟩, fun x2 post hP => br_f hlt (br_f h3 ⟨hin, n4, nm_e ⟨n4, br_f e1 ⟨hin, br_f e2 ⟨n4, br_f e3 (nm_r (nI_1 i) (H.2 x2 post hP))⟩⟩⟩⟩)⟩
/-- the first i cells of rule b's premises are the draft's, and those of the rules before are as they were -/
def cc_mv (dc dn P N p m : Nat → Int32) (b i : Nat) : Prop := (∀ j, j < i → p (3 * b + j) = dc j ∧ m (3 * b + j) = vp_nar .boolean (dn j)) ∧ ∀ j, j < 3 * b → p j = P j ∧ m j = N j
theorem cc_mv_s {dc dn P N p m : Nat → Int32} {b i : Nat} (h : cc_mv dc dn P N p m b i) : cc_mv dc dn P N (upd p (3 * b + i) (dc i)) (upd m (3 * b + i) (vp_nar .boolean (dn i))) b (i + 1) := by
  refine ⟨fun j hj => ?_, fun j hj => ?_⟩
  · by_cases e : j = i
    · subst e
      exact ⟨pk_us, pk_us⟩
    · rw [pk_un (by omega), pk_un (by omega)]
      exact h.1 j (by omega)
  · rw [pk_un (by omega), pk_un (by omega)]
    exact h.2 j hj
theorem cc_mX {hd st sz P N : Nat → Int32} {n q : Nat} (hn : n < 20) (hq : q ≤ 3) : ∀ (k i : Nat) (pX nX : Nat → Int32), i + k = q → cc_mv dc dn P N pX nX n i → ∃ p' m' : Nat → Int32, cc_mv dc dn P N p' m' n q ∧
    (∀ post : SX → Prop, post (nI n, 0, ob, hd, st, upd sz n (nI q), p', m', dc, dn, d, ke) → wX_moveDraftTo_6 post (nI n) (nI (3 * n)) (nI n) (nI q) (k + 1) (nI i) ob hd st sz pX nX dc dn d ke) := by
  intro k
  induction k with
  | zero =>
    intro i pX nX hi H
    have e : i = q := by omega
    subst e
    have hle : nI i ≤ nI i := nI_le (by omega) (by omega)
    refine ⟨pX, nX, H, fun post hP => br_t hle ⟨vp_in_nI hn (by omega), nm_r ?_ hP⟩⟩
    rw [nI_clamp (by omega)]
  | succ k ih =>
    intro i pX nX hi H
    have hlt : ¬ nI q ≤ nI i := nI_ge (by omega) (by omega)
    have hin : vp_in (nI i) 3 := vp_in_nI (by omega) (by omega)
    have e1 : (nI (3 * n) + nI i).toNatClampNeg = 3 * n + i := by rw [nI_add]; exact nI_clamp (by omega)
    have i1 : vp_in (nI (3 * n) + nI i) 60 := by rw [nI_add]; exact vp_in_nI (by omega) (by omega)
    have e2 : (nI i).toNatClampNeg = i := nI_clamp (by omega)
    obtain ⟨p', m', H', hX⟩ := ih (i + 1) _ _ (by omega) (cc_mv_s H)
    refine ⟨p', m', H', fun post hP => br_f hlt ⟨hin, i1, nm_r ?_ ⟨hin, i1, nm_r ?_ (nm_r (nI_1 i) (hX post hP))⟩⟩⟩
    · rw [e1, e2]
    · rw [e1, e2]
theorem cc_mY {hd st sz P N : Nat → Int32} {n : Nat} (hn : n < 20) : ∀ (k i : Nat) (pY nY : Nat → Int32), i + k = 3 → cc_mv dc dn P N pY nY n i → ∃ p' m' : Nat → Int32, cc_mv dc dn P N p' m' n 3 ∧
    (∀ post : Int32 → SY → Prop, post (nI n) (0, nI (n + 1), ob, dc, dn, hd, st, sz, p', m', d, ke) → wY_rule_124 post (nI n) fd (nI n) (k + 1) (nI i) ob dc dn hd st sz pY nY d ke) := by
  intro k
  induction k with
  | zero =>
    intro i pY nY hi H
    have e : i = 3 := by omega
    subst e
    have hle : (3 : Int32) ≤ nI 3 := by decide
    exact ⟨pY, nY, H, fun post hP => br_t hle (nm_r (nI_1 n) hP)⟩
  | succ k ih =>
    intro i pY nY hi H
    have hlt : ¬ (3 : Int32) ≤ nI i := nI_ge (b := 3) (by omega) (by decide)
    have hin : vp_in (nI i) 3 := vp_in_nI (by omega) (by omega)
    have e1 : (3 * nI n + nI i).toNatClampNeg = 3 * n + i := by rw [cc_3m, nI_add]; exact nI_clamp (by omega)
    have i1 : vp_in (3 * nI n + nI i) 60 := by rw [cc_3m, nI_add]; exact vp_in_nI (by omega) (by omega)
    have e2 : (nI i).toNatClampNeg = i := nI_clamp (by omega)
    obtain ⟨p', m', H', hY⟩ := ih (i + 1) _ _ (by omega) (cc_mv_s H)
    refine ⟨p', m', H', fun post hP => br_f hlt ⟨hin, i1, nm_r ?_ ⟨hin, i1, nm_r ?_ (nm_r (nI_1 i) (hY post hP))⟩⟩⟩
    · rw [e1, e2]
    · rw [e1, e2]
theorem cc_G_new {hd st sz pX nX pY nY pX' nX' pY' nY' : Nat → Int32} {n q h s : Nat} (hq : q ≤ 3) (hh : h < 16) (s1 : 1 ≤ s) (s2 : s ≤ 100) (D : cc_D dc) (G : ∀ r, r < n → cc_G hd st sz pX nX pY nY r) (MX : cc_mv dc dn pX nX pX' nX' n q) (MY : cc_mv dc dn pY nY pY' nY' n 3) : ∀ r, r < n + 1 → cc_G (upd hd n (nI h)) (upd st n (nI s)) (upd sz n (nI q)) pX' nX' pY' nY' r := by
  intro r hr
  by_cases e : r = n
  · subst e
    refine ⟨⟨h, hh, pk_us⟩, ⟨s, s1, s2, pk_us⟩, q, hq, pk_us, fun i hi => ?_⟩
    obtain ⟨a1, a2⟩ := MX.1 i hi
    obtain ⟨b1, b2⟩ := MY.1 i (by omega)
    obtain ⟨c, hc, ec⟩ := D i (by omega)
    exact ⟨by rw [a1, b1], by rw [a2, b2], c, hc, by rw [a1]; exact ec⟩
  · obtain ⟨⟨h0, g1, g2⟩, ⟨s0, g3, g4, g5⟩, z, g6, g7, g8⟩ := G r (by omega)
    refine ⟨⟨h0, g1, by rw [pk_un e]; exact g2⟩, ⟨s0, g3, g4, by rw [pk_un e]; exact g5⟩, z, g6, by rw [pk_un e]; exact g7, fun i hi => ?_⟩
    obtain ⟨a1, a2⟩ := MX.2 (3 * r + i) (by omega)
    obtain ⟨b1, b2⟩ := MY.2 (3 * r + i) (by omega)
    rw [a1, a2, b1, b2]
    exact g8 i hi
/-- the first i cells of rule b's premises are the next rule's, and all others are as they were -/
def cc_dn (P N p m : Nat → Int32) (b i : Nat) : Prop := (∀ j, j < i → p (3 * b + j) = P (3 * b + 3 + j) ∧ m (3 * b + j) = vp_nar .boolean (N (3 * b + 3 + j))) ∧ ∀ j, j < 3 * b ∨ 3 * b + 3 ≤ j → p j = P j ∧ m j = N j
theorem cc_dn_0 {P N : Nat → Int32} {b : Nat} : cc_dn P N P N b 0 := ⟨fun j hj => by omega, fun j hj => ⟨rfl, rfl⟩⟩
theorem cc_dn_s {P N p m : Nat → Int32} {b i : Nat} (hi : i < 3) (h : cc_dn P N p m b i) : cc_dn P N (upd p (3 * b + i) (p (3 * b + 3 + i))) (upd m (3 * b + i) (vp_nar .boolean (m (3 * b + 3 + i)))) b (i + 1) := by
  obtain ⟨a1, a2⟩ := h.2 (3 * b + 3 + i) (by omega)
  refine ⟨fun j hj => ?_, fun j hj => ?_⟩
  · by_cases e : j = i
    · subst e
      exact ⟨by rw [pk_us]; exact a1, by rw [pk_us, a2]⟩
    · rw [pk_un (by omega), pk_un (by omega)]
      exact h.1 j (by omega)
  · rw [pk_un (by omega), pk_un (by omega)]
    exact h.2 j hj
theorem cc_dX {hd st sz P N : Nat → Int32} {b : Nat} (hb : b + 1 < 20) : ∀ (k i : Nat) (pX nX : Nat → Int32), i + k = 3 → cc_dn P N pX nX b i → ∃ p' m' : Nat → Int32, cc_dn P N p' m' b 3 ∧
    (∀ post : SX → Prop, post (rc, fd, ob, hd, st, sz, p', m', dc, dn, d, ke) → wX_copyRuleDown_48 post (nI (3 * b)) rc fd (k + 1) (nI i) ob hd st sz pX nX dc dn d ke) := by
  intro k
  induction k with
  | zero =>
    intro i pX nX hi H
    have e : i = 3 := by omega
    subst e
    have hle : (3 : Int32) ≤ nI 3 := by decide
    exact ⟨pX, nX, H, fun post hP => br_t hle hP⟩
  | succ k ih =>
    intro i pX nX hi H
    have hlt : ¬ (3 : Int32) ≤ nI i := nI_ge (b := 3) (by omega) (by decide)
    have e1 : (nI (3 * b) + nI i).toNatClampNeg = 3 * b + i := by rw [nI_add]; exact nI_clamp (by omega)
    have i1 : vp_in (nI (3 * b) + nI i) 60 := by rw [nI_add]; exact vp_in_nI (by omega) (by omega)
    have e2 : (nI (3 * b) + 3 + nI i).toNatClampNeg = 3 * b + 3 + i := by rw [cc_a3, nI_add]; exact nI_clamp (by omega)
    have i2 : vp_in (nI (3 * b) + 3 + nI i) 60 := by rw [cc_a3, nI_add]; exact vp_in_nI (by omega) (by omega)
    obtain ⟨p', m', H', hX⟩ := ih (i + 1) _ _ (by omega) (cc_dn_s (by omega) H)
    refine ⟨p', m', H', fun post hP => br_f hlt ⟨i2, i1, nm_r ?_ ⟨i2, i1, nm_r ?_ (nm_r (nI_1 i) (hX post hP))⟩⟩⟩
    · rw [e1, e2]
    · rw [e1, e2]
theorem cc_dY {hd st sz P N : Nat → Int32} {b : Nat} (hb : b + 1 < 20) : ∀ (k i : Nat) (pY nY : Nat → Int32), i + k = 3 → cc_dn P N pY nY b i → ∃ p' m' : Nat → Int32, cc_dn P N p' m' b 3 ∧
    (∀ (post : Int32 → SY → Prop) (J : Int32 → (Nat → Int32) → (Nat → Int32) → (Nat → Int32) → (Nat → Int32) → (Nat → Int32) → (Nat → Int32) → (Nat → Int32) → (Nat → Int32) → (Nat → Int32) → (Nat → Int32) → Prop), J (nI (b + 1)) ob dc dn hd st sz p' m' d ke → wY_remove_72 post J (nI b) fd rc (k + 1) (nI i) ob dc dn hd st sz pY nY d ke) := by
  intro k
  induction k with
  | zero =>
    intro i pY nY hi H
    have e : i = 3 := by omega
    subst e
    have hle : (3 : Int32) ≤ nI 3 := by decide
    exact ⟨pY, nY, H, fun post J hP => br_t hle (nm_r (nI_1 b) hP)⟩
  | succ k ih =>
    intro i pY nY hi H
    have hlt : ¬ (3 : Int32) ≤ nI i := nI_ge (b := 3) (by omega) (by decide)
    have e1 : (3 * nI b + nI i).toNatClampNeg = 3 * b + i := by rw [cc_3m, nI_add]; exact nI_clamp (by omega)
    have i1 : vp_in (3 * nI b + nI i) 60 := by rw [cc_3m, nI_add]; exact vp_in_nI (by omega) (by omega)
    have e2 : (3 * nI b + 3 + nI i).toNatClampNeg = 3 * b + 3 + i := by rw [cc_3m, cc_a3, nI_add]; exact nI_clamp (by omega)
    have i2 : vp_in (3 * nI b + 3 + nI i) 60 := by rw [cc_3m, cc_a3, nI_add]; exact vp_in_nI (by omega) (by omega)
    obtain ⟨p', m', H', hY⟩ := ih (i + 1) _ _ (by omega) (cc_dn_s (by omega) H)
    refine ⟨p', m', H', fun post J hP => br_f hlt ⟨i2, i1, nm_r ?_ ⟨i2, i1, nm_r ?_ (nm_r (nI_1 i) (hY post J hP))⟩⟩⟩
    · rw [e1, e2]
    · rw [e1, e2]
theorem cc_G_dn {hd st sz pX nX pY nY pX' nX' pY' nY' : Nat → Int32} {n b : Nat} (hb : b + 1 < n) (G : ∀ r, r < n → cc_G hd st sz pX nX pY nY r) (MX : cc_dn pX nX pX' nX' b 3) (MY : cc_dn pY nY pY' nY' b 3) : ∀ r, r < n → cc_G (upd hd b (hd (b + 1))) (upd st b (st (b + 1))) (upd sz b (sz (b + 1))) pX' nX' pY' nY' r := by
  intro r hr
  by_cases e : r = b
  · subst e
    obtain ⟨⟨h0, g1, g2⟩, ⟨s0, g3, g4, g5⟩, z, g6, g7, g8⟩ := G (r + 1) (by omega)
    refine ⟨⟨h0, g1, by rw [pk_us]; exact g2⟩, ⟨s0, g3, g4, by rw [pk_us]; exact g5⟩, z, g6, by rw [pk_us]; exact g7, fun i hi => ?_⟩
    obtain ⟨a1, a2⟩ := MX.1 i (by omega)
    obtain ⟨b1, b2⟩ := MY.1 i (by omega)
    obtain ⟨c1, c2, c3⟩ := g8 i hi
    rw [show 3 * (r + 1) + i = 3 * r + 3 + i from by omega] at c1 c2 c3
    rw [a1, a2, b1, b2, c1, c2]
    exact ⟨rfl, rfl, c3⟩
  · obtain ⟨⟨h0, g1, g2⟩, ⟨s0, g3, g4, g5⟩, z, g6, g7, g8⟩ := G r hr
    refine ⟨⟨h0, g1, by rw [pk_un e]; exact g2⟩, ⟨s0, g3, g4, by rw [pk_un e]; exact g5⟩, z, g6, by rw [pk_un e]; exact g7, fun i hi => ?_⟩
    obtain ⟨a1, a2⟩ := MX.2 (3 * r + i) (by omega)
    obtain ⟨b1, b2⟩ := MY.2 (3 * r + i) (by omega)
    rw [a1, a2, b1, b2]
    exact g8 i hi
theorem cc_cpX {hd st sz pX nX : Nat → Int32} {b : Nat} (hb : b + 1 < 20) : ∃ p' m' : Nat → Int32, cc_dn pX nX p' m' b 3 ∧
    (∀ post : SX → Prop, post (rc, fd, ob, upd hd b (hd (b + 1)), upd st b (st (b + 1)), upd sz b (sz (b + 1)), p', m', dc, dn, d, ke) → wpX_copyRuleDown post (rc, fd, ob, hd, st, sz, pX, nX, dc, dn, d, ke) (nI b)) := by
  obtain ⟨p', m', H, hX⟩ := cc_dX (ob := ob) (dc := dc) (dn := dn) (d := d) (ke := ke) (fd := fd) (rc := rc) (hd := upd hd b (hd (b + 1))) (st := upd st b (st (b + 1))) (sz := upd sz b (sz (b + 1))) hb 3 0 pX nX (by omega) cc_dn_0
  have i0 : vp_in (nI b) 20 := vp_in_nI (by omega) (by omega)
  have i1 : vp_in (nI b + 1) 20 := by rw [nI_1]; exact vp_in_nI hb (by omega)
  have e0 : (nI b).toNatClampNeg = b := nI_clamp (by omega)
  have e1 : (nI b + 1).toNatClampNeg = b + 1 := by rw [nI_1]; exact nI_clamp (by omega)
  have eu : ∀ f : Nat → Int32, upd f (nI b).toNatClampNeg (f (nI b + 1).toNatClampNeg) = upd f b (f (b + 1)) := fun f => by rw [e0, e1]
  refine ⟨p', m', H, fun post hP => ?_⟩
  exact And.intro i1 ⟨i0, nm_r (eu hd) ⟨i1, i0, nm_r (eu st) ⟨i1, i0, nm_r (eu sz) (nm_r (cc_m3 b) ⟨4, hX post hP⟩)⟩⟩⟩
theorem cc_rem {n : Nat} (hn : n ≤ 20) : ∀ (k i : Nat) (hd st sz pX nX pY nY : Nat → Int32), i + k + 1 = n → (∀ r, r < n → cc_G hd st sz pX nX pY nY r) → ∃ hd' st' sz' pX' nX' pY' nY' : Nat → Int32, (∀ r, r < n → cc_G hd' st' sz' pX' nX' pY' nY' r) ∧
    (∀ post : Int32 → SX → Prop, post (nI (n - 1)) (nI (n - 1), fd, ob, hd', st', sz', pX', nX', dc, dn, d, ke) → wX_remove_12 post (k + 1) (nI i) (nI n) fd ob hd st sz pX nX dc dn d ke) ∧
    (∀ post : Int32 → SY → Prop, post (nI (n - 1)) (fd, nI (n - 1), ob, dc, dn, hd', st', sz', pY', nY', d, ke) → wY_remove_12 post fd (nI n) (k + 1) (nI i) ob dc dn hd st sz pY nY d ke) := by
  intro k
  induction k with
  | zero =>
    intro i hd st sz pX nX pY nY hi G
    have e : nI n - 1 = nI (n - 1) := pk_sub (b := 1) (by omega)
    have hX : nI n ≤ nI i + 1 := by rw [nI_1]; exact nI_le (by omega) (by omega)
    have hY : nI n - 1 ≤ nI i := by rw [e]; exact nI_le (by omega) (by omega)
    exact ⟨hd, st, sz, pX, nX, pY, nY, G, fun post hP => br_t hX (nm_r e hP), fun post hP => br_t hY (nm_r e hP)⟩
  | succ k ih =>
    intro i hd st sz pX nX pY nY hi G
    have e : nI n - 1 = nI (n - 1) := pk_sub (b := 1) (by omega)
    have hX : ¬ nI n ≤ nI i + 1 := by rw [nI_1]; exact nI_ge (by omega) (by omega)
    have hY : ¬ nI n - 1 ≤ nI i := by rw [e]; exact nI_ge (by omega) (by omega)
    have h19 : ¬ (19 : Int32) ≤ nI i := nI_ge (b := 19) (by omega) (by decide)
    have i0 : vp_in (nI i) 20 := vp_in_nI (by omega) (by omega)
    have i1 : vp_in (nI i + 1) 20 := by rw [nI_1]; exact vp_in_nI (by omega) (by omega)
    have e0 : (nI i).toNatClampNeg = i := nI_clamp (by omega)
    have e1 : (nI i + 1).toNatClampNeg = i + 1 := by rw [nI_1]; exact nI_clamp (by omega)
    have eu : ∀ f : Nat → Int32, upd f (nI i).toNatClampNeg (f (nI i + 1).toNatClampNeg) = upd f i (f (i + 1)) := fun f => by rw [e0, e1]
    obtain ⟨p1, m1, MX, cX⟩ := cc_cpX (ob := ob) (dc := dc) (dn := dn) (d := d) (ke := ke) (fd := fd) (rc := nI n) (hd := hd) (st := st) (sz := sz) (pX := pX) (nX := nX) (b := i) (by omega)
    obtain ⟨p2, m2, MY, cY⟩ := cc_dY (ob := ob) (dc := dc) (dn := dn) (d := d) (ke := ke) (fd := fd) (rc := nI n) (hd := upd hd i (hd (i + 1))) (st := upd st i (st (i + 1))) (sz := upd sz i (sz (i + 1))) (b := i) (by omega) 3 0 pY nY (by omega) cc_dn_0
    obtain ⟨hd', st', sz', pX', nX', pY', nY', G', rX, rY⟩ := ih (i + 1) _ _ _ _ _ _ _ (by omega) (cc_G_dn (by omega) G MX MY)
    refine ⟨hd', st', sz', pX', nX', pY', nY', G', fun post hP => br_f hX (cX _ ?_), fun post hP => ?_⟩
    · exact nm_r (nI_1 i) (rX post hP)
    · exact br_f hY (br_f h19 ⟨i1, i0, nm_r (eu hd) ⟨i1, i0, nm_r (eu st) ⟨i1, i0, nm_r (eu sz) ⟨4, cY _ _ (rY post hP)⟩⟩⟩⟩)
end
end
section
/-- the two states hold the same, but for the premises' cells beyond a rule's own -/
def i_Rel (_ : Nat) (u : SX) (v : SY) : Prop := ∃ (n q : Nat) (ob hd st sz pX nX pY nY dc dn d ke : Nat → Int32), u = (nI n, nI q, ob, hd, st, sz, pX, nX, dc, dn, d, ke) ∧ v = (nI q, nI n, ob, dc, dn, hd, st, sz, pY, nY, d, ke) ∧ n ≤ 20 ∧ q ≤ 3 ∧ cc_Bd ob ∧ cc_D dc ∧ ∀ r, r < n → cc_G hd st sz pX nX pY nY r
theorem i_up {k : Nat} {u : SX} {v : SY} (h : i_Rel k u v) : i_Rel (k + 4) u v := h
section
variable {ob hd st sz pX nX pY nY dc dn d ke : Nat → Int32} {fd rc : Int32} {k n q : Nat}
theorem cc_rel (hn : n ≤ 20) (hq : q ≤ 3) (O : cc_Bd ob) (D : cc_D dc) (G : ∀ r, r < n → cc_G hd st sz pX nX pY nY r) : i_Rel k (nI n, nI q, ob, hd, st, sz, pX, nX, dc, dn, d, ke) (nI q, nI n, ob, dc, dn, hd, st, sz, pY, nY, d, ke) := ⟨n, q, ob, hd, st, sz, pX, nX, pY, nY, dc, dn, d, ke, rfl, rfl, hn, hq, O, D, G⟩
theorem cc_n1 : ¬ (1 : Int32) = 0 := by decide
theorem cc_n4 : ¬ (4 : Int32) = 0 := by decide
theorem cc_claim (x : Int32) : (∃ j : Nat, j < 16 ∧ x = nI j ∧ (∀ post : Int32 → Prop, post 1 → wpX_isClaim post x) ∧ (∀ post : Int32 → Prop, post 0 → wpY_bad post (fd, rc, ob, dc, dn, hd, st, sz, pY, nY, d, ke) x)) ∨ ((∀ post : Int32 → Prop, post 0 → wpX_isClaim post x) ∧ (∀ post : Int32 → Prop, post 1 → wpY_bad post (fd, rc, ob, dc, dn, hd, st, sz, pY, nY, d, ke) x)) := by
  rcases cc_ix x with ⟨h, -⟩ | ⟨h0, -, -, h1, h2, -⟩ | ⟨j, hj, rfl⟩
  · exact Or.inr ⟨fun post hP => br_t h hP, fun post hP => br_t h hP⟩
  · exact Or.inr ⟨fun post hP => br_f h0 (br_t h1 hP), fun post hP => br_f h0 (br_f h2 hP)⟩
  · have h0 : ¬ nI j < 0 := nI_pos (by omega)
    have h1 : ¬ (16 : Int32) ≤ nI j := nI_ge (b := 16) hj (by decide)
    have h2 : nI j ≤ 15 := nI_le (b := 15) (by omega) (by decide)
    exact Or.inl ⟨j, hj, rfl, fun post hP => br_f h0 (br_f h1 hP), fun post hP => br_f h0 (br_t h2 hP)⟩
theorem cc_rule (hn : n ≤ 20) (x : Int32) : (∃ j : Nat, j < n ∧ x = nI j ∧ (∀ post : Int32 → Prop, post 1 → wpX_isRule post (nI n, fd, ob, hd, st, sz, pX, nX, dc, dn, d, ke) x) ∧ (∀ post : Int32 → Prop, post 0 → wpY_badRule post (fd, nI n, ob, dc, dn, hd, st, sz, pY, nY, d, ke) x)) ∨ ((∀ post : Int32 → Prop, post 0 → wpX_isRule post (nI n, fd, ob, hd, st, sz, pX, nX, dc, dn, d, ke) x) ∧ (∀ post : Int32 → Prop, post 1 → wpY_badRule post (fd, nI n, ob, dc, dn, hd, st, sz, pY, nY, d, ke) x)) := by
  rcases cc_ir x hn with ⟨h, -⟩ | ⟨h0, -, -, h1⟩ | ⟨j, hj, rfl⟩
  · exact Or.inr ⟨fun post hP => br_t h hP, fun post hP => br_t h hP⟩
  · exact Or.inr ⟨fun post hP => br_f h0 (br_t h1 hP), fun post hP => br_f h0 (br_t h1 hP)⟩
  · have h0 : ¬ nI j < 0 := nI_pos (by omega)
    have h1 : ¬ nI n ≤ nI j := nI_ge hj (by omega)
    have h2 : nI j < 20 := nI_lt (b := 20) (by omega) (by decide)
    exact Or.inl ⟨j, hj, rfl, fun post hP => br_f h0 (br_f h1 hP), fun post hP => br_f h0 (br_f h1 (br_t h2 hP))⟩
/-- a strength: X asks a method of its own, Y two comparisons -/
theorem cc_stren (x : Int32) : (∃ j : Nat, 1 ≤ j ∧ j ≤ 100 ∧ x = nI j ∧ (∀ post : Int32 → Prop, post 1 → wpX_isStrength post x) ∧ (∀ A B C : Prop, B → (x < 1 → A) ∧ (¬ x < 1 → ((x ≤ 100 → B) ∧ (¬ x ≤ 100 → C))))) ∨ ((∀ post : Int32 → Prop, post 0 → wpX_isStrength post x) ∧ (∀ A B : Prop, A → (x < 1 → A) ∧ (¬ x < 1 → ((x ≤ 100 → B) ∧ (¬ x ≤ 100 → A))))) := by
  rcases cc_is x with ⟨h, -⟩ | ⟨h0, -, h1, h2⟩ | ⟨j, hj, hj2, rfl⟩
  · exact Or.inr ⟨fun post hP => br_t h hP, fun A B hP => br_t h hP⟩
  · exact Or.inr ⟨fun post hP => br_f h0 (br_t h2 hP), fun A B hP => br_f h0 (br_f h1 hP)⟩
  · have h0 : ¬ nI j < 1 := nI_nlt (b := 1) hj (by omega)
    have h1 : ¬ (100 : Int32) < nI j := nI_nlt (a := 100) hj2 (by omega)
    have h2 : nI j ≤ 100 := nI_le (b := 100) hj2 (by decide)
    exact Or.inl ⟨j, hj, hj2, rfl, fun post hP => br_f h0 (br_f h1 hP), fun A B C hP => br_f h0 (br_t h2 hP)⟩
theorem cc_cert (x : Int32) : (∃ j : Nat, j ≤ 100 ∧ x = nI j ∧ (∀ post : Int32 → Prop, post 1 → wpX_isCertainty post x) ∧ (∀ A B C : Prop, B → (x < 0 → A) ∧ (¬ x < 0 → ((x ≤ 100 → B) ∧ (¬ x ≤ 100 → C))))) ∨ ((∀ post : Int32 → Prop, post 0 → wpX_isCertainty post x) ∧ (∀ A B : Prop, A → (x < 0 → A) ∧ (¬ x < 0 → ((x ≤ 100 → B) ∧ (¬ x ≤ 100 → A))))) := by
  rcases cc_ic x with ⟨h, -⟩ | ⟨h0, -, h1, h2⟩ | ⟨j, hj2, rfl⟩
  · exact Or.inr ⟨fun post hP => br_t h hP, fun A B hP => br_t h hP⟩
  · exact Or.inr ⟨fun post hP => br_f h0 (br_t h2 hP), fun A B hP => br_f h0 (br_f h1 hP)⟩
  · have h0 : ¬ nI j < 0 := nI_pos (by omega)
    have h1 : ¬ (100 : Int32) < nI j := nI_nlt (a := 100) hj2 (by omega)
    have h2 : nI j ≤ 100 := nI_le (b := 100) hj2 (by decide)
    exact Or.inl ⟨j, hj2, rfl, fun post hP => br_f h0 (br_f h1 hP), fun A B C hP => br_f h0 (br_t h2 hP)⟩
theorem cc_D_upd {j : Nat} (D : cc_D dc) (hj : j < 16) : cc_D (upd dc q (nI j)) := by
  intro i hi
  by_cases e : i = q
  · subst e
    exact ⟨j, hj, pk_us⟩
  · obtain ⟨c, h1, h2⟩ := D i hi
    exact ⟨c, h1, by rw [pk_un e]; exact h2⟩
end
theorem i_vc0 : wpX_init (fun u => wpY_init (fun v => i_Rel 0 u v)) :=
  cc_rel (k := 0) (n := 0) (q := 0) (by omega) (by omega) (fun c _ => ⟨0, by omega, rfl⟩) (fun i _ => ⟨0, by omega, rfl⟩) (fun r hr => by omega)
theorem i_vc_premise {k : Nat} {u : SX} {v : SY} (I : i_Rel k u v) (hk : k + 4 ≤ 2048) (v1 : Int32) (v2 : Int32) : wpX_premise (fun r u' => wpY_premise (fun r' v' => r' = r ∧ i_Rel (k + 4) u' v') v v1 v2) u v1 v2 := by
  obtain ⟨n, q, ob, hd, st, sz, pX, nX, pY, nY, dc, dn, d, ke, rfl, rfl, hn, hq, O, D, G⟩ := I
  rcases cc_claim (ob := ob) (hd := hd) (st := st) (sz := sz) (pY := pY) (nY := nY) (dc := dc) (dn := dn) (d := d) (ke := ke) (fd := nI q) (rc := nI n) v1 with ⟨j, hj, rfl, cX, cY⟩ | ⟨cX, cY⟩
  · by_cases c3 : q < 3
    · have hlt : nI q < 3 := nI_lt (b := 3) c3 (by decide)
      have hin : vp_in (nI q) 3 := vp_in_nI c3 (by omega)
      have eq : (nI q).toNatClampNeg = q := nI_clamp (by omega)
      have eu : ∀ (f : Nat → Int32) (x : Int32), upd f (nI q).toNatClampNeg x = upd f q x := fun f x => by rw [eq]
      by_cases z : v2 = 0
      · have X : ∀ post : Int32 → SX → Prop, post (nI (q + 1)) (nI n, nI (q + 1), ob, hd, st, sz, pX, nX, upd dc q (nI j), upd dn q (vp_nar .boolean 0), d, ke) → wpX_premise post (nI n, nI q, ob, hd, st, sz, pX, nX, dc, dn, d, ke) (nI j) v2 := fun post hP => by
          unfold wpX_premise
          exact cX _ (br_f cc_n1 (br_t hlt ⟨hin, nm_r (eu _ _) (br_t z (And.intro hin (nm_r (eu _ _) (nm_r (nI_1 q) hP))))⟩))
        have Y : ∀ post : Int32 → SY → Prop, post (nI (q + 1)) (nI (q + 1), nI n, ob, upd dc q (nI j), upd dn q (vp_nar .boolean 0), hd, st, sz, pY, nY, d, ke) → wpY_premise post (nI q, nI n, ob, dc, dn, hd, st, sz, pY, nY, d, ke) (nI j) v2 := fun post hP => by
          unfold wpY_premise
          exact cY _ (br_t rfl (br_t hlt ⟨hin, nm_r (eu _ _) (br_t z (And.intro hin (nm_r (eu _ _) (nm_r (nI_1 q) hP))))⟩))
        exact X _ (Y _ ⟨rfl, cc_rel hn (by omega) O (cc_D_upd D hj) G⟩)
      · have X : ∀ post : Int32 → SX → Prop, post (nI (q + 1)) (nI n, nI (q + 1), ob, hd, st, sz, pX, nX, upd dc q (nI j), upd dn q (vp_nar .boolean 1), d, ke) → wpX_premise post (nI n, nI q, ob, hd, st, sz, pX, nX, dc, dn, d, ke) (nI j) v2 := fun post hP => by
          unfold wpX_premise
          exact cX _ (br_f cc_n1 (br_t hlt ⟨hin, nm_r (eu _ _) (br_f z (And.intro hin (nm_r (eu _ _) (nm_r (nI_1 q) hP))))⟩))
        have Y : ∀ post : Int32 → SY → Prop, post (nI (q + 1)) (nI (q + 1), nI n, ob, upd dc q (nI j), upd dn q (vp_nar .boolean 1), hd, st, sz, pY, nY, d, ke) → wpY_premise post (nI q, nI n, ob, dc, dn, hd, st, sz, pY, nY, d, ke) (nI j) v2 := fun post hP => by
          unfold wpY_premise
          exact cY _ (br_t rfl (br_t hlt ⟨hin, nm_r (eu _ _) (br_f z (And.intro hin (nm_r (eu _ _) (nm_r (nI_1 q) hP))))⟩))
        exact X _ (Y _ ⟨rfl, cc_rel hn (by omega) O (cc_D_upd D hj) G⟩)
    · have hlt : ¬ nI q < 3 := nI_nlt (b := 3) (by omega) (by omega)
      have X : ∀ post : Int32 → SX → Prop, post (-2) (nI n, nI q, ob, hd, st, sz, pX, nX, dc, dn, d, ke) → wpX_premise post (nI n, nI q, ob, hd, st, sz, pX, nX, dc, dn, d, ke) (nI j) v2 := fun post hP => by
        unfold wpX_premise
        exact cX _ (br_f cc_n1 (br_f hlt hP))
      have Y : ∀ post : Int32 → SY → Prop, post (-2) (nI q, nI n, ob, dc, dn, hd, st, sz, pY, nY, d, ke) → wpY_premise post (nI q, nI n, ob, dc, dn, hd, st, sz, pY, nY, d, ke) (nI j) v2 := fun post hP => by
        unfold wpY_premise
        exact cY _ (br_t rfl (br_f hlt hP))
      exact X _ (Y _ ⟨rfl, cc_rel hn hq O D G⟩)
  · have X : ∀ post : Int32 → SX → Prop, post (-1) (nI n, nI q, ob, hd, st, sz, pX, nX, dc, dn, d, ke) → wpX_premise post (nI n, nI q, ob, hd, st, sz, pX, nX, dc, dn, d, ke) v1 v2 := fun post hP => by
      unfold wpX_premise
      exact cX _ (br_t rfl hP)
    have Y : ∀ post : Int32 → SY → Prop, post (-1) (nI q, nI n, ob, dc, dn, hd, st, sz, pY, nY, d, ke) → wpY_premise post (nI q, nI n, ob, dc, dn, hd, st, sz, pY, nY, d, ke) v1 v2 := fun post hP => by
      unfold wpY_premise
      exact cY _ (br_f cc_n1 hP)
    exact X _ (Y _ ⟨rfl, cc_rel hn hq O D G⟩)
theorem i_vc_clear {k : Nat} {u : SX} {v : SY} (I : i_Rel k u v) (hk : k + 4 ≤ 2048) : wpX_clear (fun r u' => wpY_clear (fun r' v' => r' = r ∧ i_Rel (k + 4) u' v') v) u := by
  obtain ⟨n, q, ob, hd, st, sz, pX, nX, pY, nY, dc, dn, d, ke, rfl, rfl, hn, hq, O, D, G⟩ := I
  exact ⟨rfl, cc_rel (q := 0) hn (by omega) O D G⟩
theorem i_vc_rule {k : Nat} {u : SX} {v : SY} (I : i_Rel k u v) (hk : k + 4 ≤ 2048) (v1 : Int32) (v2 : Int32) : wpX_rule (fun r u' => wpY_rule (fun r' v' => r' = r ∧ i_Rel (k + 4) u' v') v v1 v2) u v1 v2 := by
  obtain ⟨n, q, ob, hd, st, sz, pX, nX, pY, nY, dc, dn, d, ke, rfl, rfl, hn, hq, O, D, G⟩ := I
  rcases cc_claim (ob := ob) (hd := hd) (st := st) (sz := sz) (pY := pY) (nY := nY) (dc := dc) (dn := dn) (d := d) (ke := ke) (fd := nI q) (rc := nI n) v1 with ⟨j, hj, rfl, cX, cY⟩ | ⟨cX, cY⟩
  · rcases cc_stren v2 with ⟨s, s1, s2, rfl, sX, sY⟩ | ⟨sX, sY⟩
    · rcases cc_fit (ob := ob) (hd := hd) (st := st) (sz := sz) (pX := pX) (nX := nX) (pY := pY) (nY := nY) (dc := dc) (dn := dn) (d := d) (ke := ke) (rc := nI n) hq (nI j) q 0 (by omega) with ⟨fX, fY⟩ | ⟨fX, fY⟩
      · have X : ∀ post : Int32 → SX → Prop, post (-3) (nI n, nI q, ob, hd, st, sz, pX, nX, dc, dn, d, ke) → wpX_rule post (nI n, nI q, ob, hd, st, sz, pX, nX, dc, dn, d, ke) (nI j) (nI s) := fun post hP => by
          unfold wpX_rule
          refine cX _ (br_f cc_n1 (sX _ (br_f cc_n1 ?_)))
          exact And.intro cc_n4 ⟨q + 1, fX _ (br_t rfl hP)⟩
        have Y : ∀ post : Int32 → SY → Prop, post (-3) (nI q, nI n, ob, dc, dn, hd, st, sz, pY, nY, d, ke) → wpY_rule post (nI q, nI n, ob, dc, dn, hd, st, sz, pY, nY, d, ke) (nI j) (nI s) := fun post hP => by
          unfold wpY_rule
          exact cY _ (br_t rfl (sY _ _ _ ⟨q + 1, fY _ _ hP⟩))
        exact X _ (Y _ ⟨rfl, cc_rel hn hq O D G⟩)
      · by_cases c20 : n < 20
        · have hlt : nI n < 20 := nI_lt (b := 20) c20 (by decide)
          have hin : vp_in (nI n) 20 := vp_in_nI c20 (by omega)
          have en : (nI n).toNatClampNeg = n := nI_clamp (by omega)
          have eu : ∀ (f : Nat → Int32) (x : Int32), upd f (nI n).toNatClampNeg x = upd f n x := fun f x => by rw [en]
          obtain ⟨pX', nX', MX, mX⟩ := cc_mX (ob := ob) (dc := dc) (dn := dn) (d := d) (ke := ke) (hd := upd hd n (nI j)) (st := upd st n (nI s)) (sz := sz) (P := pX) (N := nX) c20 hq q 0 pX nX (by omega) ⟨fun i hi => by omega, fun i _ => ⟨rfl, rfl⟩⟩
          obtain ⟨pY', nY', MY, mY⟩ := cc_mY (ob := ob) (dc := dc) (dn := dn) (d := d) (ke := ke) (fd := nI q) (hd := upd hd n (nI j)) (st := upd st n (nI s)) (sz := upd sz n (nI q)) (P := pY) (N := nY) c20 3 0 pY nY (by omega) ⟨fun i hi => by omega, fun i _ => ⟨rfl, rfl⟩⟩
          have X : ∀ post : Int32 → SX → Prop, post (nI n) (nI (n + 1), 0, ob, upd hd n (nI j), upd st n (nI s), upd sz n (nI q), pX', nX', dc, dn, d, ke) → wpX_rule post (nI n, nI q, ob, hd, st, sz, pX, nX, dc, dn, d, ke) (nI j) (nI s) := fun post hP => by
            unfold wpX_rule
            refine cX _ (br_f cc_n1 (sX _ (br_f cc_n1 ?_)))
            refine And.intro cc_n4 ⟨q + 1, fX _ (br_f cc_n1 (br_t hlt ⟨hin, nm_r (eu _ _) ⟨hin, nm_r (eu _ _) ?_⟩⟩))⟩
            refine nm_r (cc_m3 n) ⟨q + 1, mX _ ?_⟩
            exact nm_r (nI_1 n) hP
          have Y : ∀ post : Int32 → SY → Prop, post (nI n) (0, nI (n + 1), ob, dc, dn, upd hd n (nI j), upd st n (nI s), upd sz n (nI q), pY', nY', d, ke) → wpY_rule post (nI q, nI n, ob, dc, dn, hd, st, sz, pY, nY, d, ke) (nI j) (nI s) := fun post hP => by
            unfold wpY_rule
            refine cY _ (br_t rfl (sY _ _ _ ⟨q + 1, fY _ _ ?_⟩))
            exact br_t hlt ⟨hin, nm_r (eu _ _) ⟨hin, nm_r (eu _ _) ⟨hin, nm_r (eu _ _) ⟨4, mY _ hP⟩⟩⟩⟩
          exact X _ (Y _ ⟨rfl, cc_rel (q := 0) (by omega) (by omega) O D (cc_G_new hq hj s1 s2 D G MX MY)⟩)
        · have hlt : ¬ nI n < 20 := nI_nlt (b := 20) (by omega) (by omega)
          have X : ∀ post : Int32 → SX → Prop, post (-4) (nI n, nI q, ob, hd, st, sz, pX, nX, dc, dn, d, ke) → wpX_rule post (nI n, nI q, ob, hd, st, sz, pX, nX, dc, dn, d, ke) (nI j) (nI s) := fun post hP => by
            unfold wpX_rule
            refine cX _ (br_f cc_n1 (sX _ (br_f cc_n1 ?_)))
            exact And.intro cc_n4 ⟨q + 1, fX _ (br_f cc_n1 (br_f hlt hP))⟩
          have Y : ∀ post : Int32 → SY → Prop, post (-4) (nI q, nI n, ob, dc, dn, hd, st, sz, pY, nY, d, ke) → wpY_rule post (nI q, nI n, ob, dc, dn, hd, st, sz, pY, nY, d, ke) (nI j) (nI s) := fun post hP => by
            unfold wpY_rule
            refine cY _ (br_t rfl (sY _ _ _ ⟨q + 1, fY _ _ ?_⟩))
            exact br_f hlt hP
          exact X _ (Y _ ⟨rfl, cc_rel hn hq O D G⟩)
    · have X : ∀ post : Int32 → SX → Prop, post (-2) (nI n, nI q, ob, hd, st, sz, pX, nX, dc, dn, d, ke) → wpX_rule post (nI n, nI q, ob, hd, st, sz, pX, nX, dc, dn, d, ke) (nI j) v2 := fun post hP => by
        unfold wpX_rule
        exact cX _ (br_f cc_n1 (sX _ (br_t rfl hP)))
      have Y : ∀ post : Int32 → SY → Prop, post (-2) (nI q, nI n, ob, dc, dn, hd, st, sz, pY, nY, d, ke) → wpY_rule post (nI q, nI n, ob, dc, dn, hd, st, sz, pY, nY, d, ke) (nI j) v2 := fun post hP => by
        unfold wpY_rule
        exact cY _ (br_t rfl (sY _ _ hP))
      exact X _ (Y _ ⟨rfl, cc_rel hn hq O D G⟩)
  · have X : ∀ post : Int32 → SX → Prop, post (-1) (nI n, nI q, ob, hd, st, sz, pX, nX, dc, dn, d, ke) → wpX_rule post (nI n, nI q, ob, hd, st, sz, pX, nX, dc, dn, d, ke) v1 v2 := fun post hP => by
      unfold wpX_rule
      exact cX _ (br_t rfl hP)
    have Y : ∀ post : Int32 → SY → Prop, post (-1) (nI q, nI n, ob, dc, dn, hd, st, sz, pY, nY, d, ke) → wpY_rule post (nI q, nI n, ob, dc, dn, hd, st, sz, pY, nY, d, ke) v1 v2 := fun post hP => by
      unfold wpY_rule
      exact cY _ (br_f cc_n1 hP)
    exact X _ (Y _ ⟨rfl, cc_rel hn hq O D G⟩)
theorem i_vc_remove {k : Nat} {u : SX} {v : SY} (I : i_Rel k u v) (hk : k + 4 ≤ 2048) (v1 : Int32) : wpX_remove (fun r u' => wpY_remove (fun r' v' => r' = r ∧ i_Rel (k + 4) u' v') v v1) u v1 := by
  obtain ⟨n, q, ob, hd, st, sz, pX, nX, pY, nY, dc, dn, d, ke, rfl, rfl, hn, hq, O, D, G⟩ := I
  rcases cc_rule (ob := ob) (hd := hd) (st := st) (sz := sz) (pX := pX) (nX := nX) (pY := pY) (nY := nY) (dc := dc) (dn := dn) (d := d) (ke := ke) (fd := nI q) hn v1 with ⟨j, hj, rfl, cX, cY⟩ | ⟨cX, cY⟩
  · obtain ⟨hd', st', sz', pX', nX', pY', nY', G', rX, rY⟩ := cc_rem (ob := ob) (dc := dc) (dn := dn) (d := d) (ke := ke) (fd := nI q) hn (n - 1 - j) j hd st sz pX nX pY nY (by omega) G
    have X : ∀ post : Int32 → SX → Prop, post (nI (n - 1)) (nI (n - 1), nI q, ob, hd', st', sz', pX', nX', dc, dn, d, ke) → wpX_remove post (nI n, nI q, ob, hd, st, sz, pX, nX, dc, dn, d, ke) (nI j) := fun post hP => by
      unfold wpX_remove
      exact cX _ (br_f cc_n1 ⟨_, rX post hP⟩)
    have Y : ∀ post : Int32 → SY → Prop, post (nI (n - 1)) (nI q, nI (n - 1), ob, dc, dn, hd', st', sz', pY', nY', d, ke) → wpY_remove post (nI q, nI n, ob, dc, dn, hd, st, sz, pY, nY, d, ke) (nI j) := fun post hP => by
      unfold wpY_remove
      exact cY _ (br_t rfl ⟨_, rY post hP⟩)
    exact X _ (Y _ ⟨rfl, cc_rel (by omega) hq O D (fun r hr => G' r (by omega))⟩)
  · have X : ∀ post : Int32 → SX → Prop, post (-1) (nI n, nI q, ob, hd, st, sz, pX, nX, dc, dn, d, ke) → wpX_remove post (nI n, nI q, ob, hd, st, sz, pX, nX, dc, dn, d, ke) v1 := fun post hP => by
      unfold wpX_remove
      exact cX _ (br_t rfl hP)
    have Y : ∀ post : Int32 → SY → Prop, post (-1) (nI q, nI n, ob, dc, dn, hd, st, sz, pY, nY, d, ke) → wpY_remove post (nI q, nI n, ob, dc, dn, hd, st, sz, pY, nY, d, ke) v1 := fun post hP => by
      unfold wpY_remove
      exact cY _ (br_f cc_n1 hP)
    exact X _ (Y _ ⟨rfl, cc_rel hn hq O D G⟩)
end
section
theorem cc_G_st {hd st sz pX nX pY nY : Nat → Int32} {n j s : Nat} (s1 : 1 ≤ s) (s2 : s ≤ 100) (G : ∀ r, r < n → cc_G hd st sz pX nX pY nY r) : ∀ r, r < n → cc_G hd (upd st j (nI s)) sz pX nX pY nY r := by
  intro r hr
  obtain ⟨g1, ⟨s0, g3, g4, g5⟩, g6⟩ := G r hr
  by_cases e : r = j
  · subst e
    exact ⟨g1, ⟨s, s1, s2, pk_us⟩, g6⟩
  · exact ⟨g1, ⟨s0, g3, g4, by rw [pk_un e]; exact g5⟩, g6⟩
theorem i_vc_strengthen {k : Nat} {u : SX} {v : SY} (I : i_Rel k u v) (hk : k + 4 ≤ 2048) (v1 : Int32) (v2 : Int32) : wpX_strengthen (fun r u' => wpY_strengthen (fun r' v' => r' = r ∧ i_Rel (k + 4) u' v') v v1 v2) u v1 v2 := by
  obtain ⟨n, q, ob, hd, st, sz, pX, nX, pY, nY, dc, dn, d, ke, rfl, rfl, hn, hq, O, D, G⟩ := I
  rcases cc_rule (ob := ob) (hd := hd) (st := st) (sz := sz) (pX := pX) (nX := nX) (pY := pY) (nY := nY) (dc := dc) (dn := dn) (d := d) (ke := ke) (fd := nI q) hn v1 with ⟨j, hj, rfl, cX, cY⟩ | ⟨cX, cY⟩
  · have hin : vp_in (nI j) 20 := vp_in_nI (by omega) (by omega)
    have ej : (nI j).toNatClampNeg = j := nI_clamp (by omega)
    rcases cc_stren v2 with ⟨s, s1, s2, rfl, sX, sY⟩ | ⟨sX, sY⟩
    · have X : ∀ post : Int32 → SX → Prop, post (st j) (nI n, nI q, ob, hd, upd st j (nI s), sz, pX, nX, dc, dn, d, ke) → wpX_strengthen post (nI n, nI q, ob, hd, st, sz, pX, nX, dc, dn, d, ke) (nI j) (nI s) := fun post hP => by
        unfold wpX_strengthen
        exact cX _ (br_f cc_n1 (sX _ (br_f cc_n1 ⟨hin, nm_r (congrArg st ej) ⟨hin, nm_r (by rw [ej]) hP⟩⟩)))
      have Y : ∀ post : Int32 → SY → Prop, post (st j) (nI q, nI n, ob, dc, dn, hd, upd st j (nI s), sz, pY, nY, d, ke) → wpY_strengthen post (nI q, nI n, ob, dc, dn, hd, st, sz, pY, nY, d, ke) (nI j) (nI s) := fun post hP => by
        unfold wpY_strengthen
        exact cY _ (br_t rfl (sY _ _ _ ⟨hin, nm_r (congrArg st ej) ⟨hin, nm_r (by rw [ej]) hP⟩⟩))
      exact X _ (Y _ ⟨rfl, cc_rel hn hq O D (cc_G_st s1 s2 G)⟩)
    · have X : ∀ post : Int32 → SX → Prop, post (-2) (nI n, nI q, ob, hd, st, sz, pX, nX, dc, dn, d, ke) → wpX_strengthen post (nI n, nI q, ob, hd, st, sz, pX, nX, dc, dn, d, ke) (nI j) v2 := fun post hP => by
        unfold wpX_strengthen
        exact cX _ (br_f cc_n1 (sX _ (br_t rfl hP)))
      have Y : ∀ post : Int32 → SY → Prop, post (-2) (nI q, nI n, ob, dc, dn, hd, st, sz, pY, nY, d, ke) → wpY_strengthen post (nI q, nI n, ob, dc, dn, hd, st, sz, pY, nY, d, ke) (nI j) v2 := fun post hP => by
        unfold wpY_strengthen
        exact cY _ (br_t rfl (sY _ _ hP))
      exact X _ (Y _ ⟨rfl, cc_rel hn hq O D G⟩)
  · have X : ∀ post : Int32 → SX → Prop, post (-1) (nI n, nI q, ob, hd, st, sz, pX, nX, dc, dn, d, ke) → wpX_strengthen post (nI n, nI q, ob, hd, st, sz, pX, nX, dc, dn, d, ke) v1 v2 := fun post hP => by
      unfold wpX_strengthen
      exact cX _ (br_t rfl hP)
    have Y : ∀ post : Int32 → SY → Prop, post (-1) (nI q, nI n, ob, dc, dn, hd, st, sz, pY, nY, d, ke) → wpY_strengthen post (nI q, nI n, ob, dc, dn, hd, st, sz, pY, nY, d, ke) v1 v2 := fun post hP => by
      unfold wpY_strengthen
      exact cY _ (br_f cc_n1 hP)
    exact X _ (Y _ ⟨rfl, cc_rel hn hq O D G⟩)
theorem i_vc_observe {k : Nat} {u : SX} {v : SY} (I : i_Rel k u v) (hk : k + 4 ≤ 2048) (v1 : Int32) (v2 : Int32) : wpX_observe (fun r u' => wpY_observe (fun r' v' => r' = r ∧ i_Rel (k + 4) u' v') v v1 v2) u v1 v2 := by
  obtain ⟨n, q, ob, hd, st, sz, pX, nX, pY, nY, dc, dn, d, ke, rfl, rfl, hn, hq, O, D, G⟩ := I
  rcases cc_claim (ob := ob) (hd := hd) (st := st) (sz := sz) (pY := pY) (nY := nY) (dc := dc) (dn := dn) (d := d) (ke := ke) (fd := nI q) (rc := nI n) v1 with ⟨j, hj, rfl, cX, cY⟩ | ⟨cX, cY⟩
  · have hin : vp_in (nI j) 16 := vp_in_nI (by omega) (by omega)
    have ej : (nI j).toNatClampNeg = j := nI_clamp (by omega)
    rcases cc_cert v2 with ⟨s, s2, rfl, sX, sY⟩ | ⟨sX, sY⟩
    · have X : ∀ post : Int32 → SX → Prop, post (ob j) (nI n, nI q, upd ob j (nI s), hd, st, sz, pX, nX, dc, dn, d, ke) → wpX_observe post (nI n, nI q, ob, hd, st, sz, pX, nX, dc, dn, d, ke) (nI j) (nI s) := fun post hP => by
        unfold wpX_observe
        exact cX _ (br_f cc_n1 (sX _ (br_f cc_n1 ⟨hin, nm_r (congrArg ob ej) ⟨hin, nm_r (by rw [ej]) hP⟩⟩)))
      have Y : ∀ post : Int32 → SY → Prop, post (ob j) (nI q, nI n, upd ob j (nI s), dc, dn, hd, st, sz, pY, nY, d, ke) → wpY_observe post (nI q, nI n, ob, dc, dn, hd, st, sz, pY, nY, d, ke) (nI j) (nI s) := fun post hP => by
        unfold wpY_observe
        exact cY _ (br_t rfl (sY _ _ _ ⟨hin, nm_r (congrArg ob ej) ⟨hin, nm_r (by rw [ej]) hP⟩⟩))
      exact X _ (Y _ ⟨rfl, cc_rel hn hq (cc_Bd_upd O s2) D G⟩)
    · have X : ∀ post : Int32 → SX → Prop, post (-2) (nI n, nI q, ob, hd, st, sz, pX, nX, dc, dn, d, ke) → wpX_observe post (nI n, nI q, ob, hd, st, sz, pX, nX, dc, dn, d, ke) (nI j) v2 := fun post hP => by
        unfold wpX_observe
        exact cX _ (br_f cc_n1 (sX _ (br_t rfl hP)))
      have Y : ∀ post : Int32 → SY → Prop, post (-2) (nI q, nI n, ob, dc, dn, hd, st, sz, pY, nY, d, ke) → wpY_observe post (nI q, nI n, ob, dc, dn, hd, st, sz, pY, nY, d, ke) (nI j) v2 := fun post hP => by
        unfold wpY_observe
        exact cY _ (br_t rfl (sY _ _ hP))
      exact X _ (Y _ ⟨rfl, cc_rel hn hq O D G⟩)
  · have X : ∀ post : Int32 → SX → Prop, post (-1) (nI n, nI q, ob, hd, st, sz, pX, nX, dc, dn, d, ke) → wpX_observe post (nI n, nI q, ob, hd, st, sz, pX, nX, dc, dn, d, ke) v1 v2 := fun post hP => by
      unfold wpX_observe
      exact cX _ (br_t rfl hP)
    have Y : ∀ post : Int32 → SY → Prop, post (-1) (nI q, nI n, ob, dc, dn, hd, st, sz, pY, nY, d, ke) → wpY_observe post (nI q, nI n, ob, dc, dn, hd, st, sz, pY, nY, d, ke) v1 v2 := fun post hP => by
      unfold wpY_observe
      exact cY _ (br_f cc_n1 hP)
    exact X _ (Y _ ⟨rfl, cc_rel hn hq O D G⟩)
theorem i_vc_rules {k : Nat} {u : SX} {v : SY} (I : i_Rel k u v) (hk : k + 4 ≤ 2048) : wpX_rules (fun r => wpY_rules (fun r' => r' = r ∧ i_Rel (k + 4) u v) v) u := by
  obtain ⟨n, q, ob, hd, st, sz, pX, nX, pY, nY, dc, dn, d, ke, rfl, rfl, hn, hq, O, D, G⟩ := I
  exact ⟨rfl, cc_rel hn hq O D G⟩
theorem i_vc_headOf {k : Nat} {u : SX} {v : SY} (I : i_Rel k u v) (hk : k + 4 ≤ 2048) (v1 : Int32) : wpX_headOf (fun r => wpY_headOf (fun r' => r' = r ∧ i_Rel (k + 4) u v) v v1) u v1 := by
  obtain ⟨n, q, ob, hd, st, sz, pX, nX, pY, nY, dc, dn, d, ke, rfl, rfl, hn, hq, O, D, G⟩ := I
  rcases cc_rule (ob := ob) (hd := hd) (st := st) (sz := sz) (pX := pX) (nX := nX) (pY := pY) (nY := nY) (dc := dc) (dn := dn) (d := d) (ke := ke) (fd := nI q) hn v1 with ⟨j, hj, rfl, cX, cY⟩ | ⟨cX, cY⟩
  · have hin : vp_in (nI j) 20 := vp_in_nI (by omega) (by omega)
    have X : ∀ post : Int32 → Prop, post (hd (nI j).toNatClampNeg) → wpX_headOf post (nI n, nI q, ob, hd, st, sz, pX, nX, dc, dn, d, ke) (nI j) := fun post hP => by
      unfold wpX_headOf
      exact cX _ (br_f cc_n1 ⟨hin, hP⟩)
    have Y : ∀ post : Int32 → Prop, post (hd (nI j).toNatClampNeg) → wpY_headOf post (nI q, nI n, ob, dc, dn, hd, st, sz, pY, nY, d, ke) (nI j) := fun post hP => by
      unfold wpY_headOf
      exact cY _ (br_t rfl ⟨hin, hP⟩)
    exact X _ (Y _ ⟨rfl, cc_rel hn hq O D G⟩)
  · have X : ∀ post : Int32 → Prop, post (-1) → wpX_headOf post (nI n, nI q, ob, hd, st, sz, pX, nX, dc, dn, d, ke) v1 := fun post hP => by
      unfold wpX_headOf
      exact cX _ (br_t rfl hP)
    have Y : ∀ post : Int32 → Prop, post (-1) → wpY_headOf post (nI q, nI n, ob, dc, dn, hd, st, sz, pY, nY, d, ke) v1 := fun post hP => by
      unfold wpY_headOf
      exact cY _ (br_f cc_n1 hP)
    exact X _ (Y _ ⟨rfl, cc_rel hn hq O D G⟩)
theorem i_vc_observed {k : Nat} {u : SX} {v : SY} (I : i_Rel k u v) (hk : k + 4 ≤ 2048) (v1 : Int32) : wpX_observed (fun r => wpY_observed (fun r' => r' = r ∧ i_Rel (k + 4) u v) v v1) u v1 := by
  obtain ⟨n, q, ob, hd, st, sz, pX, nX, pY, nY, dc, dn, d, ke, rfl, rfl, hn, hq, O, D, G⟩ := I
  rcases cc_claim (ob := ob) (hd := hd) (st := st) (sz := sz) (pY := pY) (nY := nY) (dc := dc) (dn := dn) (d := d) (ke := ke) (fd := nI q) (rc := nI n) v1 with ⟨j, hj, rfl, cX, cY⟩ | ⟨cX, cY⟩
  · have hin : vp_in (nI j) 16 := vp_in_nI (by omega) (by omega)
    have X : ∀ post : Int32 → Prop, post (ob (nI j).toNatClampNeg) → wpX_observed post (nI n, nI q, ob, hd, st, sz, pX, nX, dc, dn, d, ke) (nI j) := fun post hP => by
      unfold wpX_observed
      exact cX _ (br_f cc_n1 ⟨hin, hP⟩)
    have Y : ∀ post : Int32 → Prop, post (ob (nI j).toNatClampNeg) → wpY_observed post (nI q, nI n, ob, dc, dn, hd, st, sz, pY, nY, d, ke) (nI j) := fun post hP => by
      unfold wpY_observed
      exact cY _ (br_t rfl ⟨hin, hP⟩)
    exact X _ (Y _ ⟨rfl, cc_rel hn hq O D G⟩)
  · have X : ∀ post : Int32 → Prop, post (-1) → wpX_observed post (nI n, nI q, ob, hd, st, sz, pX, nX, dc, dn, d, ke) v1 := fun post hP => by
      unfold wpX_observed
      exact cX _ (br_t rfl hP)
    have Y : ∀ post : Int32 → Prop, post (-1) → wpY_observed post (nI q, nI n, ob, dc, dn, hd, st, sz, pY, nY, d, ke) v1 := fun post hP => by
      unfold wpY_observed
      exact cY _ (br_f cc_n1 hP)
    exact X _ (Y _ ⟨rfl, cc_rel hn hq O D G⟩)
theorem i_vc_certainty {k : Nat} {u : SX} {v : SY} (I : i_Rel k u v) (hk : k + 4 ≤ 2048) (v1 : Int32) : wpX_certainty (fun r u' => wpY_certainty (fun r' v' => r' = r ∧ i_Rel (k + 4) u' v') v v1) u v1 := by
  obtain ⟨n, q, ob, hd, st, sz, pX, nX, pY, nY, dc, dn, d, ke, rfl, rfl, hn, hq, O, D, G⟩ := I
  rcases cc_claim (ob := ob) (hd := hd) (st := st) (sz := sz) (pY := pY) (nY := nY) (dc := dc) (dn := dn) (d := d) (ke := ke) (fd := nI q) (rc := nI n) v1 with ⟨j, hj, rfl, cX, cY⟩ | ⟨cX, cY⟩
  · have hin : vp_in (nI j) 16 := vp_in_nI (by omega) (by omega)
    obtain ⟨d', B', dX, dY⟩ := cc_asIs (dc := dc) (dn := dn) (ke := ke) (fd := nI q) (d := d) hn O G
    have X : ∀ post : Int32 → SX → Prop, post (d' (nI j).toNatClampNeg) (nI n, nI q, ob, hd, st, sz, pX, nX, dc, dn, d', ke) → wpX_certainty post (nI n, nI q, ob, hd, st, sz, pX, nX, dc, dn, d, ke) (nI j) := fun post hP => by
      unfold wpX_certainty
      refine cX _ (br_f cc_n1 (dX _ ?_))
      exact ⟨hin, hP⟩
    have Y : ∀ post : Int32 → SY → Prop, post (d' (nI j).toNatClampNeg) (nI q, nI n, ob, dc, dn, hd, st, sz, pY, nY, d', ke) → wpY_certainty post (nI q, nI n, ob, dc, dn, hd, st, sz, pY, nY, d, ke) (nI j) := fun post hP => by
      unfold wpY_certainty
      refine cY _ (br_t rfl (dY _ ?_))
      exact ⟨hin, hP⟩
    exact X _ (Y _ ⟨rfl, cc_rel hn hq O D G⟩)
  · have X : ∀ post : Int32 → SX → Prop, post (-1) (nI n, nI q, ob, hd, st, sz, pX, nX, dc, dn, d, ke) → wpX_certainty post (nI n, nI q, ob, hd, st, sz, pX, nX, dc, dn, d, ke) v1 := fun post hP => by
      unfold wpX_certainty
      exact cX _ (br_t rfl hP)
    have Y : ∀ post : Int32 → SY → Prop, post (-1) (nI q, nI n, ob, dc, dn, hd, st, sz, pY, nY, d, ke) → wpY_certainty post (nI q, nI n, ob, dc, dn, hd, st, sz, pY, nY, d, ke) v1 := fun post hP => by
      unfold wpY_certainty
      exact cY _ (br_f cc_n1 hP)
    exact X _ (Y _ ⟨rfl, cc_rel hn hq O D G⟩)
theorem i_vc_whatIf {k : Nat} {u : SX} {v : SY} (I : i_Rel k u v) (hk : k + 4 ≤ 2048) (v1 : Int32) (v2 : Int32) (v3 : Int32) : wpX_whatIf (fun r u' => wpY_whatIf (fun r' v' => r' = r ∧ i_Rel (k + 4) u' v') v v1 v2 v3) u v1 v2 v3 := by
  obtain ⟨n, q, ob, hd, st, sz, pX, nX, pY, nY, dc, dn, d, ke, rfl, rfl, hn, hq, O, D, G⟩ := I
  rcases cc_claim (ob := ob) (hd := hd) (st := st) (sz := sz) (pY := pY) (nY := nY) (dc := dc) (dn := dn) (d := d) (ke := ke) (fd := nI q) (rc := nI n) v1 with ⟨j, hj, rfl, cX, cY⟩ | ⟨cX, cY⟩
  · have hin : vp_in (nI j) 16 := vp_in_nI (by omega) (by omega)
    rcases cc_claim (ob := ob) (hd := hd) (st := st) (sz := sz) (pY := pY) (nY := nY) (dc := dc) (dn := dn) (d := d) (ke := ke) (fd := nI q) (rc := nI n) v2 with ⟨j2, hj2, rfl, eX, eY⟩ | ⟨eX, eY⟩
    · rcases cc_cert v3 with ⟨s, s2, rfl, sX, sY⟩ | ⟨sX, sY⟩
      · obtain ⟨d', B', dX, dY⟩ := cc_derive (dc := dc) (dn := dn) (ke := ke) (fd := nI q) (d := d) (v := s) (-1) (nI j2) (by omega) hn O G
        have X : ∀ post : Int32 → SX → Prop, post (d' (nI j).toNatClampNeg) (nI n, nI q, ob, hd, st, sz, pX, nX, dc, dn, d', ke) → wpX_whatIf post (nI n, nI q, ob, hd, st, sz, pX, nX, dc, dn, d, ke) (nI j) (nI j2) (nI s) := fun post hP => by
          unfold wpX_whatIf
          refine cX _ (br_f cc_n1 (eX _ (br_f cc_n1 (sX _ (br_f cc_n1 (dX _ ?_))))))
          exact ⟨hin, hP⟩
        have Y : ∀ post : Int32 → SY → Prop, post (d' (nI j).toNatClampNeg) (nI q, nI n, ob, dc, dn, hd, st, sz, pY, nY, d', ke) → wpY_whatIf post (nI q, nI n, ob, dc, dn, hd, st, sz, pY, nY, d, ke) (nI j) (nI j2) (nI s) := fun post hP => by
          unfold wpY_whatIf
          refine cY _ (br_t rfl (eY _ (br_t rfl (sY _ _ _ (dY _ ?_)))))
          exact ⟨hin, hP⟩
        exact X _ (Y _ ⟨rfl, cc_rel hn hq O D G⟩)
      · have X : ∀ post : Int32 → SX → Prop, post (-2) (nI n, nI q, ob, hd, st, sz, pX, nX, dc, dn, d, ke) → wpX_whatIf post (nI n, nI q, ob, hd, st, sz, pX, nX, dc, dn, d, ke) (nI j) (nI j2) v3 := fun post hP => by
          unfold wpX_whatIf
          exact cX _ (br_f cc_n1 (eX _ (br_f cc_n1 (sX _ (br_t rfl hP)))))
        have Y : ∀ post : Int32 → SY → Prop, post (-2) (nI q, nI n, ob, dc, dn, hd, st, sz, pY, nY, d, ke) → wpY_whatIf post (nI q, nI n, ob, dc, dn, hd, st, sz, pY, nY, d, ke) (nI j) (nI j2) v3 := fun post hP => by
          unfold wpY_whatIf
          exact cY _ (br_t rfl (eY _ (br_t rfl (sY _ _ hP))))
        exact X _ (Y _ ⟨rfl, cc_rel hn hq O D G⟩)
    · have X : ∀ post : Int32 → SX → Prop, post (-1) (nI n, nI q, ob, hd, st, sz, pX, nX, dc, dn, d, ke) → wpX_whatIf post (nI n, nI q, ob, hd, st, sz, pX, nX, dc, dn, d, ke) (nI j) v2 v3 := fun post hP => by
        unfold wpX_whatIf
        exact cX _ (br_f cc_n1 (eX _ (br_t rfl hP)))
      have Y : ∀ post : Int32 → SY → Prop, post (-1) (nI q, nI n, ob, dc, dn, hd, st, sz, pY, nY, d, ke) → wpY_whatIf post (nI q, nI n, ob, dc, dn, hd, st, sz, pY, nY, d, ke) (nI j) v2 v3 := fun post hP => by
        unfold wpY_whatIf
        exact cY _ (br_t rfl (eY _ (br_f cc_n1 hP)))
      exact X _ (Y _ ⟨rfl, cc_rel hn hq O D G⟩)
  · have X : ∀ post : Int32 → SX → Prop, post (-1) (nI n, nI q, ob, hd, st, sz, pX, nX, dc, dn, d, ke) → wpX_whatIf post (nI n, nI q, ob, hd, st, sz, pX, nX, dc, dn, d, ke) v1 v2 v3 := fun post hP => by
      unfold wpX_whatIf
      exact cX _ (br_t rfl hP)
    have Y : ∀ post : Int32 → SY → Prop, post (-1) (nI q, nI n, ob, dc, dn, hd, st, sz, pY, nY, d, ke) → wpY_whatIf post (nI q, nI n, ob, dc, dn, hd, st, sz, pY, nY, d, ke) v1 v2 v3 := fun post hP => by
      unfold wpY_whatIf
      exact cY _ (br_f cc_n1 hP)
    exact X _ (Y _ ⟨rfl, cc_rel hn hq O D G⟩)
theorem i_vc_without {k : Nat} {u : SX} {v : SY} (I : i_Rel k u v) (hk : k + 4 ≤ 2048) (v1 : Int32) (v2 : Int32) : wpX_without (fun r u' => wpY_without (fun r' v' => r' = r ∧ i_Rel (k + 4) u' v') v v1 v2) u v1 v2 := by
  obtain ⟨n, q, ob, hd, st, sz, pX, nX, pY, nY, dc, dn, d, ke, rfl, rfl, hn, hq, O, D, G⟩ := I
  rcases cc_claim (ob := ob) (hd := hd) (st := st) (sz := sz) (pY := pY) (nY := nY) (dc := dc) (dn := dn) (d := d) (ke := ke) (fd := nI q) (rc := nI n) v1 with ⟨j, hj, rfl, cX, cY⟩ | ⟨cX, cY⟩
  · have hin : vp_in (nI j) 16 := vp_in_nI (by omega) (by omega)
    rcases cc_rule (ob := ob) (hd := hd) (st := st) (sz := sz) (pX := pX) (nX := nX) (pY := pY) (nY := nY) (dc := dc) (dn := dn) (d := d) (ke := ke) (fd := nI q) hn v2 with ⟨j2, hj2, rfl, eX, eY⟩ | ⟨eX, eY⟩
    · obtain ⟨d', B', dX, dY⟩ := cc_derive (dc := dc) (dn := dn) (ke := ke) (fd := nI q) (d := d) (v := 0) (nI j2) (-1) (by omega) hn O G
      have X : ∀ post : Int32 → SX → Prop, post (d' (nI j).toNatClampNeg) (nI n, nI q, ob, hd, st, sz, pX, nX, dc, dn, d', ke) → wpX_without post (nI n, nI q, ob, hd, st, sz, pX, nX, dc, dn, d, ke) (nI j) (nI j2) := fun post hP => by
        unfold wpX_without
        refine cX _ (br_f cc_n1 (eX _ (br_f cc_n1 (dX _ ?_))))
        exact ⟨hin, hP⟩
      have Y : ∀ post : Int32 → SY → Prop, post (d' (nI j).toNatClampNeg) (nI q, nI n, ob, dc, dn, hd, st, sz, pY, nY, d', ke) → wpY_without post (nI q, nI n, ob, dc, dn, hd, st, sz, pY, nY, d, ke) (nI j) (nI j2) := fun post hP => by
        unfold wpY_without
        refine cY _ (br_t rfl (eY _ (br_t rfl (dY _ ?_))))
        exact ⟨hin, hP⟩
      exact X _ (Y _ ⟨rfl, cc_rel hn hq O D G⟩)
    · have X : ∀ post : Int32 → SX → Prop, post (-2) (nI n, nI q, ob, hd, st, sz, pX, nX, dc, dn, d, ke) → wpX_without post (nI n, nI q, ob, hd, st, sz, pX, nX, dc, dn, d, ke) (nI j) v2 := fun post hP => by
        unfold wpX_without
        exact cX _ (br_f cc_n1 (eX _ (br_t rfl hP)))
      have Y : ∀ post : Int32 → SY → Prop, post (-2) (nI q, nI n, ob, dc, dn, hd, st, sz, pY, nY, d, ke) → wpY_without post (nI q, nI n, ob, dc, dn, hd, st, sz, pY, nY, d, ke) (nI j) v2 := fun post hP => by
        unfold wpY_without
        exact cY _ (br_t rfl (eY _ (br_f cc_n1 hP)))
      exact X _ (Y _ ⟨rfl, cc_rel hn hq O D G⟩)
  · have X : ∀ post : Int32 → SX → Prop, post (-1) (nI n, nI q, ob, hd, st, sz, pX, nX, dc, dn, d, ke) → wpX_without post (nI n, nI q, ob, hd, st, sz, pX, nX, dc, dn, d, ke) v1 v2 := fun post hP => by
      unfold wpX_without
      exact cX _ (br_t rfl hP)
    have Y : ∀ post : Int32 → SY → Prop, post (-1) (nI q, nI n, ob, dc, dn, hd, st, sz, pY, nY, d, ke) → wpY_without post (nI q, nI n, ob, dc, dn, hd, st, sz, pY, nY, d, ke) v1 v2 := fun post hP => by
      unfold wpY_without
      exact cY _ (br_f cc_n1 hP)
    exact X _ (Y _ ⟨rfl, cc_rel hn hq O D G⟩)
theorem i_vc_supporter {k : Nat} {u : SX} {v : SY} (I : i_Rel k u v) (hk : k + 4 ≤ 2048) (v1 : Int32) : wpX_supporter (fun r u' => wpY_supporter (fun r' v' => r' = r ∧ i_Rel (k + 4) u' v') v v1) u v1 := by
  obtain ⟨n, q, ob, hd, st, sz, pX, nX, pY, nY, dc, dn, d, ke, rfl, rfl, hn, hq, O, D, G⟩ := I
  rcases cc_claim (ob := ob) (hd := hd) (st := st) (sz := sz) (pY := pY) (nY := nY) (dc := dc) (dn := dn) (d := d) (ke := ke) (fd := nI q) (rc := nI n) v1 with ⟨j, hj, rfl, cX, cY⟩ | ⟨cX, cY⟩
  · obtain ⟨d', B', dX, dY⟩ := cc_asIs (dc := dc) (dn := dn) (ke := ke) (fd := nI q) (d := d) hn O G
    obtain ⟨a, aX, aY⟩ := cc_sup (ob := ob) (dc := dc) (dn := dn) (ke := ke) (fd := nI q) hn hj G B' n 0 (by omega)
    have X : ∀ post : Int32 → SX → Prop, post a (nI n, nI q, ob, hd, st, sz, pX, nX, dc, dn, d', ke) → wpX_supporter post (nI n, nI q, ob, hd, st, sz, pX, nX, dc, dn, d, ke) (nI j) := fun post hP => by
      unfold wpX_supporter
      refine cX _ (br_f cc_n1 (dX _ ?_))
      exact ⟨n + 1, aX _ hP⟩
    have Y : ∀ post : Int32 → SY → Prop, post a (nI q, nI n, ob, dc, dn, hd, st, sz, pY, nY, d', ke) → wpY_supporter post (nI q, nI n, ob, dc, dn, hd, st, sz, pY, nY, d, ke) (nI j) := fun post hP => by
      unfold wpY_supporter
      refine cY _ (br_t rfl (dY _ ?_))
      exact ⟨n + 1, aY _ hP⟩
    exact X _ (Y _ ⟨rfl, cc_rel hn hq O D G⟩)
  · have X : ∀ post : Int32 → SX → Prop, post (-1) (nI n, nI q, ob, hd, st, sz, pX, nX, dc, dn, d, ke) → wpX_supporter post (nI n, nI q, ob, hd, st, sz, pX, nX, dc, dn, d, ke) v1 := fun post hP => by
      unfold wpX_supporter
      exact cX _ (br_t rfl hP)
    have Y : ∀ post : Int32 → SY → Prop, post (-1) (nI q, nI n, ob, dc, dn, hd, st, sz, pY, nY, d, ke) → wpY_supporter post (nI q, nI n, ob, dc, dn, hd, st, sz, pY, nY, d, ke) v1 := fun post hP => by
      unfold wpY_supporter
      exact cY _ (br_f cc_n1 hP)
    exact X _ (Y _ ⟨rfl, cc_rel hn hq O D G⟩)
theorem i_vc_yield {k : Nat} {u : SX} {v : SY} (I : i_Rel k u v) (hk : k + 4 ≤ 2048) (v1 : Int32) : wpX_yield (fun r u' => wpY_yield (fun r' v' => r' = r ∧ i_Rel (k + 4) u' v') v v1) u v1 := by
  obtain ⟨n, q, ob, hd, st, sz, pX, nX, pY, nY, dc, dn, d, ke, rfl, rfl, hn, hq, O, D, G⟩ := I
  rcases cc_rule (ob := ob) (hd := hd) (st := st) (sz := sz) (pX := pX) (nX := nX) (pY := pY) (nY := nY) (dc := dc) (dn := dn) (d := d) (ke := ke) (fd := nI q) hn v1 with ⟨j, hj, rfl, cX, cY⟩ | ⟨cX, cY⟩
  · obtain ⟨d', B', dX, dY⟩ := cc_asIs (dc := dc) (dn := dn) (ke := ke) (fd := nI q) (d := d) hn O G
    obtain ⟨y, -, yX, yY⟩ := cc_yield (ob := ob) (dc := dc) (dn := dn) (ke := ke) (fd := nI q) (rc := nI n) (by omega) (G j hj) B'
    have X : ∀ post : Int32 → SX → Prop, post (nI y) (nI n, nI q, ob, hd, st, sz, pX, nX, dc, dn, d', ke) → wpX_yield post (nI n, nI q, ob, hd, st, sz, pX, nX, dc, dn, d, ke) (nI j) := fun post hP => by
      unfold wpX_yield
      refine cX _ (br_f cc_n1 (dX _ ?_))
      exact yX _ hP
    have Y : ∀ post : Int32 → SY → Prop, post (nI y) (nI q, nI n, ob, dc, dn, hd, st, sz, pY, nY, d', ke) → wpY_yield post (nI q, nI n, ob, dc, dn, hd, st, sz, pY, nY, d, ke) (nI j) := fun post hP => by
      unfold wpY_yield
      refine cY _ (br_t rfl (dY _ ?_))
      exact yY _ hP
    exact X _ (Y _ ⟨rfl, cc_rel hn hq O D G⟩)
  · have X : ∀ post : Int32 → SX → Prop, post (-1) (nI n, nI q, ob, hd, st, sz, pX, nX, dc, dn, d, ke) → wpX_yield post (nI n, nI q, ob, hd, st, sz, pX, nX, dc, dn, d, ke) v1 := fun post hP => by
      unfold wpX_yield
      exact cX _ (br_t rfl hP)
    have Y : ∀ post : Int32 → SY → Prop, post (-1) (nI q, nI n, ob, dc, dn, hd, st, sz, pY, nY, d, ke) → wpY_yield post (nI q, nI n, ob, dc, dn, hd, st, sz, pY, nY, d, ke) v1 := fun post hP => by
      unfold wpY_yield
      exact cY _ (br_f cc_n1 hP)
    exact X _ (Y _ ⟨rfl, cc_rel hn hq O D G⟩)
theorem i_vc_atLeast {k : Nat} {u : SX} {v : SY} (I : i_Rel k u v) (hk : k + 4 ≤ 2048) (v1 : Int32) : wpX_atLeast (fun r u' => wpY_atLeast (fun r' v' => r' = r ∧ i_Rel (k + 4) u' v') v v1) u v1 := by
  obtain ⟨n, q, ob, hd, st, sz, pX, nX, pY, nY, dc, dn, d, ke, rfl, rfl, hn, hq, O, D, G⟩ := I
  obtain ⟨d', B', dX, dY⟩ := cc_asIs (dc := dc) (dn := dn) (ke := ke) (fd := nI q) (d := d) hn O G
  obtain ⟨a, aX, aY⟩ := cc_atL (ob := ob) (hd := hd) (st := st) (sz := sz) (pX := pX) (nX := nX) (pY := pY) (nY := nY) (dc := dc) (dn := dn) (d := d') (ke := ke) (fd := nI q) (rc := nI n) v1 16 0 0 (by omega)
  have X : ∀ post : Int32 → SX → Prop, post a (nI n, nI q, ob, hd, st, sz, pX, nX, dc, dn, d', ke) → wpX_atLeast post (nI n, nI q, ob, hd, st, sz, pX, nX, dc, dn, d, ke) v1 := fun post hP => by
    unfold wpX_atLeast
    refine dX _ ?_
    exact ⟨17, aX _ hP⟩
  have Y : ∀ post : Int32 → SY → Prop, post a (nI q, nI n, ob, dc, dn, hd, st, sz, pY, nY, d', ke) → wpY_atLeast post (nI q, nI n, ob, dc, dn, hd, st, sz, pY, nY, d, ke) v1 := fun post hP => by
    unfold wpY_atLeast
    refine dY _ ?_
    exact ⟨17, aY _ hP⟩
  exact X _ (Y _ ⟨rfl, cc_rel hn hq O D G⟩)
theorem i_vc_strongest {k : Nat} {u : SX} {v : SY} (I : i_Rel k u v) (hk : k + 4 ≤ 2048) (v1 : Int32) (v2 : Int32) : wpX_strongest (fun r u' => wpY_strongest (fun r' v' => r' = r ∧ i_Rel (k + 4) u' v') v v1 v2) u v1 v2 := by
  obtain ⟨n, q, ob, hd, st, sz, pX, nX, pY, nY, dc, dn, d, ke, rfl, rfl, hn, hq, O, D, G⟩ := I
  rcases cc_claim (ob := ob) (hd := hd) (st := st) (sz := sz) (pY := pY) (nY := nY) (dc := dc) (dn := dn) (d := d) (ke := ke) (fd := nI q) (rc := nI n) v1 with ⟨j, hj, rfl, cX, cY⟩ | ⟨cX, cY⟩
  · have hin : vp_in (nI j) 16 := vp_in_nI (by omega) (by omega)
    rcases cc_claim (ob := ob) (hd := hd) (st := st) (sz := sz) (pY := pY) (nY := nY) (dc := dc) (dn := dn) (d := d) (ke := ke) (fd := nI q) (rc := nI n) v2 with ⟨t, ht, rfl, eX, eY⟩ | ⟨eX, eY⟩
    · by_cases jt : j ≤ t
      · have hle : nI j ≤ nI t := nI_le jt (by omega)
        have hnl : ¬ nI t < nI j := nI_nlt jt (by omega)
        obtain ⟨d', B', dX, dY⟩ := cc_asIs (dc := dc) (dn := dn) (ke := ke) (fd := nI q) (d := d) hn O G
        obtain ⟨a, aX, aY⟩ := cc_str (ob := ob) (hd := hd) (st := st) (sz := sz) (pX := pX) (nX := nX) (pY := pY) (nY := nY) (dc := dc) (dn := dn) (d := d') (ke := ke) (fd := nI q) (rc := nI n) ht (t - j) (j + 1) j (by omega) hj
        have X : ∀ post : Int32 → SX → Prop, post a (nI n, nI q, ob, hd, st, sz, pX, nX, dc, dn, d', ke) → wpX_strongest post (nI n, nI q, ob, hd, st, sz, pX, nX, dc, dn, d, ke) (nI j) (nI t) := fun post hP => by
          unfold wpX_strongest
          refine cX _ (br_f cc_n1 (eX _ (br_f cc_n1 (br_t hle (dX _ ?_)))))
          exact nm_r (nI_1 j) ⟨_, aX _ hP⟩
        have Y : ∀ post : Int32 → SY → Prop, post a (nI q, nI n, ob, dc, dn, hd, st, sz, pY, nY, d', ke) → wpY_strongest post (nI q, nI n, ob, dc, dn, hd, st, sz, pY, nY, d, ke) (nI j) (nI t) := fun post hP => by
          unfold wpY_strongest
          refine cY _ (br_t rfl (eY _ (br_t rfl (br_t hle (dY _ ?_)))))
          exact ⟨t - j + 1 + 1, br_f hnl ⟨hin, hin, br_t (Int32.le_refl _) (nm_r (nI_1 j) (aY _ hP))⟩⟩
        exact X _ (Y _ ⟨rfl, cc_rel hn hq O D G⟩)
      · have hle : ¬ nI j ≤ nI t := nI_ge (by omega) (by omega)
        have X : ∀ post : Int32 → SX → Prop, post (-2) (nI n, nI q, ob, hd, st, sz, pX, nX, dc, dn, d, ke) → wpX_strongest post (nI n, nI q, ob, hd, st, sz, pX, nX, dc, dn, d, ke) (nI j) (nI t) := fun post hP => by
          unfold wpX_strongest
          exact cX _ (br_f cc_n1 (eX _ (br_f cc_n1 (br_f hle hP))))
        have Y : ∀ post : Int32 → SY → Prop, post (-2) (nI q, nI n, ob, dc, dn, hd, st, sz, pY, nY, d, ke) → wpY_strongest post (nI q, nI n, ob, dc, dn, hd, st, sz, pY, nY, d, ke) (nI j) (nI t) := fun post hP => by
          unfold wpY_strongest
          exact cY _ (br_t rfl (eY _ (br_t rfl (br_f hle hP))))
        exact X _ (Y _ ⟨rfl, cc_rel hn hq O D G⟩)
    · have X : ∀ post : Int32 → SX → Prop, post (-1) (nI n, nI q, ob, hd, st, sz, pX, nX, dc, dn, d, ke) → wpX_strongest post (nI n, nI q, ob, hd, st, sz, pX, nX, dc, dn, d, ke) (nI j) v2 := fun post hP => by
        unfold wpX_strongest
        exact cX _ (br_f cc_n1 (eX _ (br_t rfl hP)))
      have Y : ∀ post : Int32 → SY → Prop, post (-1) (nI q, nI n, ob, dc, dn, hd, st, sz, pY, nY, d, ke) → wpY_strongest post (nI q, nI n, ob, dc, dn, hd, st, sz, pY, nY, d, ke) (nI j) v2 := fun post hP => by
        unfold wpY_strongest
        exact cY _ (br_t rfl (eY _ (br_f cc_n1 hP)))
      exact X _ (Y _ ⟨rfl, cc_rel hn hq O D G⟩)
  · have X : ∀ post : Int32 → SX → Prop, post (-1) (nI n, nI q, ob, hd, st, sz, pX, nX, dc, dn, d, ke) → wpX_strongest post (nI n, nI q, ob, hd, st, sz, pX, nX, dc, dn, d, ke) v1 v2 := fun post hP => by
      unfold wpX_strongest
      exact cX _ (br_t rfl hP)
    have Y : ∀ post : Int32 → SY → Prop, post (-1) (nI q, nI n, ob, dc, dn, hd, st, sz, pY, nY, d, ke) → wpY_strongest post (nI q, nI n, ob, dc, dn, hd, st, sz, pY, nY, d, ke) v1 v2 := fun post hP => by
      unfold wpY_strongest
      exact cY _ (br_f cc_n1 hP)
    exact X _ (Y _ ⟨rfl, cc_rel hn hq O D G⟩)
theorem i_vc_essential {k : Nat} {u : SX} {v : SY} (I : i_Rel k u v) (hk : k + 4 ≤ 2048) : wpX_essential (fun r u' => wpY_essential (fun r' v' => r' = r ∧ i_Rel (k + 4) u' v') v) u := by
  obtain ⟨n, q, ob, hd, st, sz, pX, nX, pY, nY, dc, dn, d, ke, rfl, rfl, hn, hq, O, D, G⟩ := I
  obtain ⟨d1, k1, B1, dX, kX, kY⟩ := cc_keep (dc := dc) (dn := dn) (ke := ke) (fd := nI q) (d := d) hn O G
  obtain ⟨a, d', aX, aY⟩ := cc_ess (dc := dc) (dn := dn) (ke := k1) (fd := nI q) hn O G n 0 0 d1 (by omega)
  have X : ∀ post : Int32 → SX → Prop, post a (nI n, nI q, ob, hd, st, sz, pX, nX, dc, dn, d', k1) → wpX_essential post (nI n, nI q, ob, hd, st, sz, pX, nX, dc, dn, d, ke)  := fun post hP => by
    unfold wpX_essential
    refine dX _ ?_
    refine kX _ ?_
    exact ⟨n + 1, aX _ hP⟩
  have Y : ∀ post : Int32 → SY → Prop, post a (nI q, nI n, ob, dc, dn, hd, st, sz, pY, nY, d', k1) → wpY_essential post (nI q, nI n, ob, dc, dn, hd, st, sz, pY, nY, d, ke)  := fun post hP => by
    unfold wpY_essential
    refine kY _ ?_
    exact ⟨n + 1, aY _ hP⟩
  exact X _ (Y _ ⟨rfl, cc_rel hn hq O D G⟩)
theorem i_vc_influence {k : Nat} {u : SX} {v : SY} (I : i_Rel k u v) (hk : k + 4 ≤ 2048) (v1 : Int32) : wpX_influence (fun r u' => wpY_influence (fun r' v' => r' = r ∧ i_Rel (k + 4) u' v') v v1) u v1 := by
  obtain ⟨n, q, ob, hd, st, sz, pX, nX, pY, nY, dc, dn, d, ke, rfl, rfl, hn, hq, O, D, G⟩ := I
  rcases cc_claim (ob := ob) (hd := hd) (st := st) (sz := sz) (pY := pY) (nY := nY) (dc := dc) (dn := dn) (d := d) (ke := ke) (fd := nI q) (rc := nI n) v1 with ⟨j, hj, rfl, cX, cY⟩ | ⟨cX, cY⟩
  · obtain ⟨d1, k1, B1, dX, kX, kY⟩ := cc_keep (dc := dc) (dn := dn) (ke := ke) (fd := nI q) (d := d) hn O G
    obtain ⟨d', B', eX, eY⟩ := cc_derive (dc := dc) (dn := dn) (ke := k1) (fd := nI q) (d := d1) (v := 0) (-1) (nI j) (by omega) hn O G
    obtain ⟨a, aX, aY⟩ := cc_oth (ob := ob) (hd := hd) (st := st) (sz := sz) (pX := pX) (nX := nX) (pY := pY) (nY := nY) (dc := dc) (dn := dn) (d := d') (ke := k1) (fd := nI q) (rc := nI n)
    have X : ∀ post : Int32 → SX → Prop, post a (nI n, nI q, ob, hd, st, sz, pX, nX, dc, dn, d', k1) → wpX_influence post (nI n, nI q, ob, hd, st, sz, pX, nX, dc, dn, d, ke) (nI j) := fun post hP => by
      unfold wpX_influence
      refine cX _ (br_f cc_n1 (dX _ ?_))
      refine kX _ ?_
      refine eX _ ?_
      exact aX _ hP
    have Y : ∀ post : Int32 → SY → Prop, post a (nI q, nI n, ob, dc, dn, hd, st, sz, pY, nY, d', k1) → wpY_influence post (nI q, nI n, ob, dc, dn, hd, st, sz, pY, nY, d, ke) (nI j) := fun post hP => by
      unfold wpY_influence
      refine cY _ (br_t rfl (kY _ ?_))
      refine eY _ ?_
      exact aY _ hP
    exact X _ (Y _ ⟨rfl, cc_rel hn hq O D G⟩)
  · have X : ∀ post : Int32 → SX → Prop, post (-1) (nI n, nI q, ob, hd, st, sz, pX, nX, dc, dn, d, ke) → wpX_influence post (nI n, nI q, ob, hd, st, sz, pX, nX, dc, dn, d, ke) v1 := fun post hP => by
      unfold wpX_influence
      exact cX _ (br_t rfl hP)
    have Y : ∀ post : Int32 → SY → Prop, post (-1) (nI q, nI n, ob, dc, dn, hd, st, sz, pY, nY, d, ke) → wpY_influence post (nI q, nI n, ob, dc, dn, hd, st, sz, pY, nY, d, ke) v1 := fun post hP => by
      unfold wpY_influence
      exact cY _ (br_f cc_n1 hP)
    exact X _ (Y _ ⟨rfl, cc_rel hn hq O D G⟩)
end
