theorem pk_us {f : Nat → Int32} {k : Nat} {x : Int32} : upd f k x k = x := if_pos rfl
theorem pk_un {f : Nat → Int32} {k j : Nat} {x : Int32} (h : j ≠ k) : upd f k x j = f j := if_neg h
theorem pk_sub {a b : Nat} (h : b ≤ a) : nI a - nI b = nI (a - b) := by
  obtain ⟨c, rfl⟩ : ∃ c, a = c + b := ⟨a - b, by omega⟩
  rw [← nI_add, Int32.add_sub_cancel, Nat.add_sub_cancel]
theorem pk_m1 (n : Nat) : nI (n + 1) + (-1) = nI n := by
  rw [← nI_1, Int32.add_assoc, show (1 : Int32) + (-1) = 0 from rfl, Int32.add_zero]
theorem pk_mul (a b : Nat) : nI a * nI b = nI (a * b) := (Int32.ofNat_mul a b).symm
theorem pk_div {a d : Nat} (ha : a < 2 ^ 31) (h0 : 0 < d) (hd : d < 2 ^ 31) : nI a / nI d = nI (a / d) := by
  apply Int32.toInt_inj.mp
  rw [lg_idiv_nonneg (by rw [nI_toInt ha]; omega) (by rw [nI_toInt hd]; omega), nI_toInt ha, nI_toInt hd, nI_toInt (Nat.lt_of_le_of_lt (Nat.div_le_self a d) ha)]
  first | rfl | exact (Int.natCast_ediv _ _).symm
theorem pk_ix (x : Int32) {n : Nat} (hn : n < 2 ^ 31) : x < 0 ∨ nI n ≤ x ∨ ∃ j : Nat, j < n ∧ x = nI j := by
  by_cases h : x < 0
  · exact Or.inl h
  · obtain ⟨j, hj, rfl⟩ := nI_of h
    by_cases h2 : j < n
    · exact Or.inr (Or.inr ⟨j, h2, rfl⟩)
    · exact Or.inr (Or.inl (nI_le (by omega) hj))
theorem pk_in {x : Int32} (n N : Nat) (h : n < N) (hx : x = nI n := by rfl) (hN : N < 2 ^ 31 := by omega) : vp_in x N := by
  subst hx
  exact vp_in_nI h hN
theorem pk_cl {x : Int32} (n : Nat) (hx : x = nI n := by rfl) (h : n < 2 ^ 31 := by omega) : x.toNatClampNeg = n := by
  subst hx
  exact nI_clamp h
theorem pk_le {x y : Int32} {A B : Prop} (a b : Nat) (f : a ≤ b → A) (g : b < a → B) (hx : x = nI a := by rfl) (hy : y = nI b := by rfl) (ha : a < 2 ^ 31 := by omega) (hb : b < 2 ^ 31 := by omega) : (x ≤ y → A) ∧ (¬ x ≤ y → B) := by
  subst hx hy
  rw [nI_leI ha hb]
  exact ⟨f, fun z => g (by omega)⟩
theorem pk_lt {x y : Int32} {A B : Prop} (a b : Nat) (f : a < b → A) (g : b ≤ a → B) (hx : x = nI a := by rfl) (hy : y = nI b := by rfl) (ha : a < 2 ^ 31 := by omega) (hb : b < 2 ^ 31 := by omega) : (x < y → A) ∧ (¬ x < y → B) := by
  subst hx hy
  rw [nI_ltI ha hb]
  exact ⟨f, fun z => g (by omega)⟩
theorem pk_eq {x y : Int32} {A B : Prop} (a b : Nat) (f : a = b → A) (g : a ≠ b → B) (hx : x = nI a := by rfl) (hy : y = nI b := by rfl) (ha : a < 2 ^ 31 := by omega) (hb : b < 2 ^ 31 := by omega) : (x = y → A) ∧ (¬ x = y → B) := by
  subst hx hy
  rw [nI_eq ha hb]
  exact ⟨f, g⟩
/-- the sixteen certainties lie between 0 and 100 -/
def cc_Bd (d : Nat → Int32) : Prop := ∀ c, c < 16 → ∃ n, n ≤ 100 ∧ d c = nI n
theorem cc_Bd_upd {d : Nat → Int32} {h q : Nat} (H : cc_Bd d) (hq : q ≤ 100) : cc_Bd (upd d h (nI q)) := by
  intro c hc
  by_cases e : c = h
  · subst e
    exact ⟨q, hq, pk_us⟩
  · obtain ⟨n, hn, e2⟩ := H c hc
    exact ⟨n, hn, by rw [pk_un e]; exact e2⟩
/-- the sum of the four certainties of a level -/
def cc_sm (l : Nat) (d : Nat → Int32) : Nat := (d (4 * l)).toNatClampNeg + (d (4 * l + 1)).toNatClampNeg + (d (4 * l + 2)).toNatClampNeg + (d (4 * l + 3)).toNatClampNeg
theorem cc_val {d : Nat → Int32} (H : cc_Bd d) {c : Nat} (hc : c < 16) : (d c).toNatClampNeg ≤ 100 := by
  obtain ⟨n, hn, e⟩ := H c hc
  rw [e, nI_clamp (by omega)]
  exact hn
theorem cc_sm_le {d : Nat → Int32} (H : cc_Bd d) {l : Nat} (hl : l < 4) : cc_sm l d ≤ 400 := by
  have h0 := cc_val H (c := 4 * l) (by omega)
  have h1 := cc_val H (c := 4 * l + 1) (by omega)
  have h2 := cc_val H (c := 4 * l + 2) (by omega)
  have h3 := cc_val H (c := 4 * l + 3) (by omega)
  unfold cc_sm
  omega
theorem cc_sm_lt {d : Nat → Int32} {l h n q : Nat} (hh : h / 4 = l) (e : d h = nI n) (hnq : n < q) (hq : q ≤ 100) : cc_sm l d < cc_sm l (upd d h (nI q)) := by
  have e1 : (nI q).toNatClampNeg = q := nI_clamp (by omega)
  have e2 : (d h).toNatClampNeg = n := by rw [e]; exact nI_clamp (by omega)
  have c4 : h = 4 * l ∨ h = 4 * l + 1 ∨ h = 4 * l + 2 ∨ h = 4 * l + 3 := by omega
  unfold cc_sm
  rcases c4 with rfl | rfl | rfl | rfl
  · rw [pk_us, pk_un (by omega), pk_un (by omega), pk_un (by omega)]; omega
  · rw [pk_us, pk_un (by omega), pk_un (by omega), pk_un (by omega)]; omega
  · rw [pk_us, pk_un (by omega), pk_un (by omega), pk_un (by omega)]; omega
  · rw [pk_us, pk_un (by omega), pk_un (by omega), pk_un (by omega)]; omega
theorem cc_yl {m s : Nat} (hm : m ≤ 100) (hs : s ≤ 100) : nI m * nI s / 100 = nI (m * s / 100) ∧ m * s / 100 ≤ 100 := by
  have h : m * s ≤ 100 * 100 := Nat.mul_le_mul hm hs
  constructor
  · rw [pk_mul]
    exact pk_div (d := 100) (by omega) (by omega) (by omega)
  · omega
theorem cc_div4 {h : Nat} (hh : h < 16) : nI h / 4 = nI (h / 4) := pk_div (d := 4) (by omega) (by omega) (by omega)
/-- rule r is well formed, and both sides hold the same of it -/
def cc_G (hd st sz pX nX pY nY : Nat → Int32) (r : Nat) : Prop :=
  (∃ h, h < 16 ∧ hd r = nI h) ∧ (∃ s, 1 ≤ s ∧ s ≤ 100 ∧ st r = nI s) ∧
  ∃ z, z ≤ 3 ∧ sz r = nI z ∧ ∀ i, i < z → pY (3 * r + i) = pX (3 * r + i) ∧ nY (3 * r + i) = nX (3 * r + i) ∧ ∃ c, c < 16 ∧ pX (3 * r + i) = nI c
/-- the drafted claims are claims -/
def cc_D (dc : Nat → Int32) : Prop := ∀ i, i < 3 → ∃ c, c < 16 ∧ dc i = nI c
/-- a number is below 0, or n or more, or one of 0 .. n - 1 -/
theorem cc_ix (x : Int32) : (x < 0 ∧ ¬ 0 ≤ x) ∨ (¬ x < 0 ∧ 0 ≤ x ∧ ¬ x < 16 ∧ 16 ≤ x ∧ ¬ x ≤ 15 ∧ 15 < x) ∨ ∃ j : Nat, j < 16 ∧ x = nI j := by
  rcases pk_ix x (n := 16) (by omega) with h | h | h
  · exact Or.inl ⟨h, Int32.not_le.mpr h⟩
  · have h' : (16 : Int32) ≤ x := h
    have h0 : (0 : Int32) ≤ x := Int32.le_trans (by decide) h'
    have h1 : (15 : Int32) < x := Int32.lt_of_lt_of_le (by decide) h'
    exact Or.inr (Or.inl ⟨Int32.not_lt.mpr h0, h0, Int32.not_lt.mpr h', h', Int32.not_le.mpr h1, h1⟩)
  · exact Or.inr (Or.inr h)
theorem cc_ic (x : Int32) : (x < 0 ∧ ¬ 0 ≤ x) ∨ (¬ x < 0 ∧ 0 ≤ x ∧ ¬ x ≤ 100 ∧ 100 < x) ∨ ∃ j : Nat, j ≤ 100 ∧ x = nI j := by
  rcases pk_ix x (n := 101) (by omega) with h | h | ⟨j, hj, e⟩
  · exact Or.inl ⟨h, Int32.not_le.mpr h⟩
  · have h' : (101 : Int32) ≤ x := h
    have h0 : (0 : Int32) ≤ x := Int32.le_trans (by decide) h'
    have h1 : (100 : Int32) < x := Int32.lt_of_lt_of_le (by decide) h'
    exact Or.inr (Or.inl ⟨Int32.not_lt.mpr h0, h0, Int32.not_le.mpr h1, h1⟩)
  · exact Or.inr (Or.inr ⟨j, by omega, e⟩)
theorem cc_is (x : Int32) : (x < 1 ∧ ¬ 1 ≤ x) ∨ (¬ x < 1 ∧ 1 ≤ x ∧ ¬ x ≤ 100 ∧ 100 < x) ∨ ∃ j : Nat, 1 ≤ j ∧ j ≤ 100 ∧ x = nI j := by
  rcases cc_ic x with ⟨h, -⟩ | ⟨h0, h1, h2, h3⟩ | ⟨j, hj, e⟩
  · have h1 : x < 1 := Int32.lt_trans h (by decide)
    exact Or.inl ⟨h1, Int32.not_le.mpr h1⟩
  · have h4 : (1 : Int32) ≤ x := Int32.le_trans (by decide) (Int32.le_of_lt h3)
    exact Or.inr (Or.inl ⟨Int32.not_lt.mpr h4, h4, h2, h3⟩)
  · by_cases z : j = 0
    · subst z
      subst e
      exact Or.inl ⟨by decide, by decide⟩
    · exact Or.inr (Or.inr ⟨j, by omega, hj, e⟩)
theorem cc_ir (x : Int32) {n : Nat} (hn : n ≤ 20) : (x < 0 ∧ ¬ 0 ≤ x) ∨ (¬ x < 0 ∧ 0 ≤ x ∧ ¬ x < nI n ∧ nI n ≤ x) ∨ ∃ j : Nat, j < n ∧ x = nI j := by
  rcases pk_ix x (n := n) (by omega) with h | h | h
  · exact Or.inl ⟨h, Int32.not_le.mpr h⟩
  · have h0 : (0 : Int32) ≤ x := Int32.le_trans (nI_pos' (by omega)) h
    exact Or.inr (Or.inl ⟨Int32.not_lt.mpr h0, h0, Int32.not_lt.mpr h, h⟩)
  · exact Or.inr (Or.inr h)
