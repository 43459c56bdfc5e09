/-- the two states hold the same, but for the premises' cells beyond a rule's own -/
def i_Rel (_ : Nat) (u : SX) (v : SY) : Prop := ∃ (n q : Nat) (ob hd st sz pX nX pY nY dc dn d ke : Nat → Int32), u = (nI n, nI q, ob, hd, st, sz, pX, nX, dc, dn, d, ke) ∧ v = (nI q, nI n, ob, dc, dn, hd, st, sz, pY, nY, d, ke) ∧ n ≤ 20 ∧ q ≤ 3 ∧ cc_Bd ob ∧ cc_D dc ∧ ∀ r, r < n → cc_G hd st sz pX nX pY nY r
theorem i_up {k : Nat} {u : SX} {v : SY} (h : i_Rel k u v) : i_Rel (k + 4) u v := h
section
variable {ob hd st sz pX nX pY nY dc dn d ke : Nat → Int32} {fd rc : Int32} {k n q : Nat}
theorem cc_rel (hn : n ≤ 20) (hq : q ≤ 3) (O : cc_Bd ob) (D : cc_D dc) (G : ∀ r, r < n → cc_G hd st sz pX nX pY nY r) : i_Rel k (nI n, nI q, ob, hd, st, sz, pX, nX, dc, dn, d, ke) (nI q, nI n, ob, dc, dn, hd, st, sz, pY, nY, d, ke) := ⟨n, q, ob, hd, st, sz, pX, nX, pY, nY, dc, dn, d, ke, rfl, rfl, hn, hq, O, D, G⟩
theorem cc_n1 : ¬ (1 : Int32) = 0 := by decide
theorem cc_n4 : ¬ (4 : Int32) = 0 := by decide
theorem cc_claim (x : Int32) : (∃ j : Nat, j < 16 ∧ x = nI j ∧ (∀ post : Int32 → Prop, post 1 → wpX_isClaim post x) ∧ (∀ post : Int32 → Prop, post 0 → wpY_bad post (fd, rc, ob, dc, dn, hd, st, sz, pY, nY, d, ke) x)) ∨ ((∀ post : Int32 → Prop, post 0 → wpX_isClaim post x) ∧ (∀ post : Int32 → Prop, post 1 → wpY_bad post (fd, rc, ob, dc, dn, hd, st, sz, pY, nY, d, ke) x)) := by
  rcases cc_ix x with ⟨h, -⟩ | ⟨h0, -, -, h1, h2, -⟩ | ⟨j, hj, rfl⟩
  · exact Or.inr ⟨fun post hP => br_t h hP, fun post hP => br_t h hP⟩
  · exact Or.inr ⟨fun post hP => br_f h0 (br_t h1 hP), fun post hP => br_f h0 (br_f h2 hP)⟩
  · have h0 : ¬ nI j < 0 := nI_pos (by omega)
    have h1 : ¬ (16 : Int32) ≤ nI j := nI_ge (b := 16) hj (by decide)
    have h2 : nI j ≤ 15 := nI_le (b := 15) (by omega) (by decide)
    exact Or.inl ⟨j, hj, rfl, fun post hP => br_f h0 (br_f h1 hP), fun post hP => br_f h0 (br_t h2 hP)⟩
theorem cc_rule (hn : n ≤ 20) (x : Int32) : (∃ j : Nat, j < n ∧ x = nI j ∧ (∀ post : Int32 → Prop, post 1 → wpX_isRule post (nI n, fd, ob, hd, st, sz, pX, nX, dc, dn, d, ke) x) ∧ (∀ post : Int32 → Prop, post 0 → wpY_badRule post (fd, nI n, ob, dc, dn, hd, st, sz, pY, nY, d, ke) x)) ∨ ((∀ post : Int32 → Prop, post 0 → wpX_isRule post (nI n, fd, ob, hd, st, sz, pX, nX, dc, dn, d, ke) x) ∧ (∀ post : Int32 → Prop, post 1 → wpY_badRule post (fd, nI n, ob, dc, dn, hd, st, sz, pY, nY, d, ke) x)) := by
  rcases cc_ir x hn with ⟨h, -⟩ | ⟨h0, -, -, h1⟩ | ⟨j, hj, rfl⟩
  · exact Or.inr ⟨fun post hP => br_t h hP, fun post hP => br_t h hP⟩
  · exact Or.inr ⟨fun post hP => br_f h0 (br_t h1 hP), fun post hP => br_f h0 (br_t h1 hP)⟩
  · have h0 : ¬ nI j < 0 := nI_pos (by omega)
    have h1 : ¬ nI n ≤ nI j := nI_ge hj (by omega)
    have h2 : nI j < 20 := nI_lt (b := 20) (by omega) (by decide)
    exact Or.inl ⟨j, hj, rfl, fun post hP => br_f h0 (br_f h1 hP), fun post hP => br_f h0 (br_f h1 (br_t h2 hP))⟩
/-- a strength: X asks a method of its own, Y two comparisons -/
theorem cc_stren (x : Int32) : (∃ j : Nat, 1 ≤ j ∧ j ≤ 100 ∧ x = nI j ∧ (∀ post : Int32 → Prop, post 1 → wpX_isStrength post x) ∧ (∀ A B C : Prop, B → (x < 1 → A) ∧ (¬ x < 1 → ((x ≤ 100 → B) ∧ (¬ x ≤ 100 → C))))) ∨ ((∀ post : Int32 → Prop, post 0 → wpX_isStrength post x) ∧ (∀ A B : Prop, A → (x < 1 → A) ∧ (¬ x < 1 → ((x ≤ 100 → B) ∧ (¬ x ≤ 100 → A))))) := by
  rcases cc_is x with ⟨h, -⟩ | ⟨h0, -, h1, h2⟩ | ⟨j, hj, hj2, rfl⟩
  · exact Or.inr ⟨fun post hP => br_t h hP, fun A B hP => br_t h hP⟩
  · exact Or.inr ⟨fun post hP => br_f h0 (br_t h2 hP), fun A B hP => br_f h0 (br_f h1 hP)⟩
  · have h0 : ¬ nI j < 1 := nI_nlt (b := 1) hj (by omega)
    have h1 : ¬ (100 : Int32) < nI j := nI_nlt (a := 100) hj2 (by omega)
    have h2 : nI j ≤ 100 := nI_le (b := 100) hj2 (by decide)
    exact Or.inl ⟨j, hj, hj2, rfl, fun post hP => br_f h0 (br_f h1 hP), fun A B C hP => br_f h0 (br_t h2 hP)⟩
theorem cc_cert (x : Int32) : (∃ j : Nat, j ≤ 100 ∧ x = nI j ∧ (∀ post : Int32 → Prop, post 1 → wpX_isCertainty post x) ∧ (∀ A B C : Prop, B → (x < 0 → A) ∧ (¬ x < 0 → ((x ≤ 100 → B) ∧ (¬ x ≤ 100 → C))))) ∨ ((∀ post : Int32 → Prop, post 0 → wpX_isCertainty post x) ∧ (∀ A B : Prop, A → (x < 0 → A) ∧ (¬ x < 0 → ((x ≤ 100 → B) ∧ (¬ x ≤ 100 → A))))) := by
  rcases cc_ic x with ⟨h, -⟩ | ⟨h0, -, h1, h2⟩ | ⟨j, hj2, rfl⟩
  · exact Or.inr ⟨fun post hP => br_t h hP, fun A B hP => br_t h hP⟩
  · exact Or.inr ⟨fun post hP => br_f h0 (br_t h2 hP), fun A B hP => br_f h0 (br_f h1 hP)⟩
  · have h0 : ¬ nI j < 0 := nI_pos (by omega)
    have h1 : ¬ (100 : Int32) < nI j := nI_nlt (a := 100) hj2 (by omega)
    have h2 : nI j ≤ 100 := nI_le (b := 100) hj2 (by decide)
    exact Or.inl ⟨j, hj2, rfl, fun post hP => br_f h0 (br_f h1 hP), fun A B C hP => br_f h0 (br_t h2 hP)⟩
theorem cc_D_upd {j : Nat} (D : cc_D dc) (hj : j < 16) : cc_D (upd dc q (nI j)) := by
  intro i hi
  by_cases e : i = q
  · subst e
    exact ⟨j, hj, pk_us⟩
  · obtain ⟨c, h1, h2⟩ := D i hi
    exact ⟨c, h1, by rw [pk_un e]; exact h2⟩
end
theorem i_vc0 : wpX_init (fun u => wpY_init (fun v => i_Rel 0 u v)) :=
  cc_rel (k := 0) (n := 0) (q := 0) (by omega) (by omega) (fun c _ => ⟨0, by omega, rfl⟩) (fun i _ => ⟨0, by omega, rfl⟩) (fun r hr => by omega)
theorem i_vc_premise {k : Nat} {u : SX} {v : SY} (I : i_Rel k u v) (hk : k + 4 ≤ 2048) (v1 : Int32) (v2 : Int32) : wpX_premise (fun r u' => wpY_premise (fun r' v' => r' = r ∧ i_Rel (k + 4) u' v') v v1 v2) u v1 v2 := by
  obtain ⟨n, q, ob, hd, st, sz, pX, nX, pY, nY, dc, dn, d, ke, rfl, rfl, hn, hq, O, D, G⟩ := I
  rcases cc_claim (ob := ob) (hd := hd) (st := st) (sz := sz) (pY := pY) (nY := nY) (dc := dc) (dn := dn) (d := d) (ke := ke) (fd := nI q) (rc := nI n) v1 with ⟨j, hj, rfl, cX, cY⟩ | ⟨cX, cY⟩
  · by_cases c3 : q < 3
    · have hlt : nI q < 3 := nI_lt (b := 3) c3 (by decide)
      have hin : vp_in (nI q) 3 := vp_in_nI c3 (by omega)
      have eq : (nI q).toNatClampNeg = q := nI_clamp (by omega)
      have eu : ∀ (f : Nat → Int32) (x : Int32), upd f (nI q).toNatClampNeg x = upd f q x := fun f x => by rw [eq]
      by_cases z : v2 = 0
      · have X : ∀ post : Int32 → SX → Prop, post (nI (q + 1)) (nI n, nI (q + 1), ob, hd, st, sz, pX, nX, upd dc q (nI j), upd dn q (vp_nar .boolean 0), d, ke) → wpX_premise post (nI n, nI q, ob, hd, st, sz, pX, nX, dc, dn, d, ke) (nI j) v2 := fun post hP => by
          unfold wpX_premise
          exact cX _ (br_f cc_n1 (br_t hlt ⟨hin, nm_r (eu _ _) (br_t z (And.intro hin (nm_r (eu _ _) (nm_r (nI_1 q) hP))))⟩))
        have Y : ∀ post : Int32 → SY → Prop, post (nI (q + 1)) (nI (q + 1), nI n, ob, upd dc q (nI j), upd dn q (vp_nar .boolean 0), hd, st, sz, pY, nY, d, ke) → wpY_premise post (nI q, nI n, ob, dc, dn, hd, st, sz, pY, nY, d, ke) (nI j) v2 := fun post hP => by
          unfold wpY_premise
          exact cY _ (br_t rfl (br_t hlt ⟨hin, nm_r (eu _ _) (br_t z (And.intro hin (nm_r (eu _ _) (nm_r (nI_1 q) hP))))⟩))
        exact X _ (Y _ ⟨rfl, cc_rel hn (by omega) O (cc_D_upd D hj) G⟩)
      · have X : ∀ post : Int32 → SX → Prop, post (nI (q + 1)) (nI n, nI (q + 1), ob, hd, st, sz, pX, nX, upd dc q (nI j), upd dn q (vp_nar .boolean 1), d, ke) → wpX_premise post (nI n, nI q, ob, hd, st, sz, pX, nX, dc, dn, d, ke) (nI j) v2 := fun post hP => by
          unfold wpX_premise
          exact cX _ (br_f cc_n1 (br_t hlt ⟨hin, nm_r (eu _ _) (br_f z (And.intro hin (nm_r (eu _ _) (nm_r (nI_1 q) hP))))⟩))
        have Y : ∀ post : Int32 → SY → Prop, post (nI (q + 1)) (nI (q + 1), nI n, ob, upd dc q (nI j), upd dn q (vp_nar .boolean 1), hd, st, sz, pY, nY, d, ke) → wpY_premise post (nI q, nI n, ob, dc, dn, hd, st, sz, pY, nY, d, ke) (nI j) v2 := fun post hP => by
          unfold wpY_premise
          exact cY _ (br_t rfl (br_t hlt ⟨hin, nm_r (eu _ _) (br_f z (And.intro hin (nm_r (eu _ _) (nm_r (nI_1 q) hP))))⟩))
        exact X _ (Y _ ⟨rfl, cc_rel hn (by omega) O (cc_D_upd D hj) G⟩)
    · have hlt : ¬ nI q < 3 := nI_nlt (b := 3) (by omega) (by omega)
      have X : ∀ post : Int32 → SX → Prop, post (-2) (nI n, nI q, ob, hd, st, sz, pX, nX, dc, dn, d, ke) → wpX_premise post (nI n, nI q, ob, hd, st, sz, pX, nX, dc, dn, d, ke) (nI j) v2 := fun post hP => by
        unfold wpX_premise
        exact cX _ (br_f cc_n1 (br_f hlt hP))
      have Y : ∀ post : Int32 → SY → Prop, post (-2) (nI q, nI n, ob, dc, dn, hd, st, sz, pY, nY, d, ke) → wpY_premise post (nI q, nI n, ob, dc, dn, hd, st, sz, pY, nY, d, ke) (nI j) v2 := fun post hP => by
        unfold wpY_premise
        exact cY _ (br_t rfl (br_f hlt hP))
      exact X _ (Y _ ⟨rfl, cc_rel hn hq O D G⟩)
  · have X : ∀ post : Int32 → SX → Prop, post (-1) (nI n, nI q, ob, hd, st, sz, pX, nX, dc, dn, d, ke) → wpX_premise post (nI n, nI q, ob, hd, st, sz, pX, nX, dc, dn, d, ke) v1 v2 := fun post hP => by
      unfold wpX_premise
      exact cX _ (br_t rfl hP)
    have Y : ∀ post : Int32 → SY → Prop, post (-1) (nI q, nI n, ob, dc, dn, hd, st, sz, pY, nY, d, ke) → wpY_premise post (nI q, nI n, ob, dc, dn, hd, st, sz, pY, nY, d, ke) v1 v2 := fun post hP => by
      unfold wpY_premise
      exact cY _ (br_f cc_n1 hP)
    exact X _ (Y _ ⟨rfl, cc_rel hn hq O D G⟩)
theorem i_vc_clear {k : Nat} {u : SX} {v : SY} (I : i_Rel k u v) (hk : k + 4 ≤ 2048) : wpX_clear (fun r u' => wpY_clear (fun r' v' => r' = r ∧ i_Rel (k + 4) u' v') v) u := by
  obtain ⟨n, q, ob, hd, st, sz, pX, nX, pY, nY, dc, dn, d, ke, rfl, rfl, hn, hq, O, D, G⟩ := I
  exact ⟨rfl, cc_rel (q := 0) hn (by omega) O D G⟩
theorem i_vc_rule {k : Nat} {u : SX} {v : SY} (I : i_Rel k u v) (hk : k + 4 ≤ 2048) (v1 : Int32) (v2 : Int32) : wpX_rule (fun r u' => wpY_rule (fun r' v' => r' = r ∧ i_Rel (k + 4) u' v') v v1 v2) u v1 v2 := by
  obtain ⟨n, q, ob, hd, st, sz, pX, nX, pY, nY, dc, dn, d, ke, rfl, rfl, hn, hq, O, D, G⟩ := I
  rcases cc_claim (ob := ob) (hd := hd) (st := st) (sz := sz) (pY := pY) (nY := nY) (dc := dc) (dn := dn) (d := d) (ke := ke) (fd := nI q) (rc := nI n) v1 with ⟨j, hj, rfl, cX, cY⟩ | ⟨cX, cY⟩
  · rcases cc_stren v2 with ⟨s, s1, s2, rfl, sX, sY⟩ | ⟨sX, sY⟩
    · rcases cc_fit (ob := ob) (hd := hd) (st := st) (sz := sz) (pX := pX) (nX := nX) (pY := pY) (nY := nY) (dc := dc) (dn := dn) (d := d) (ke := ke) (rc := nI n) hq (nI j) q 0 (by omega) with ⟨fX, fY⟩ | ⟨fX, fY⟩
      · have X : ∀ post : Int32 → SX → Prop, post (-3) (nI n, nI q, ob, hd, st, sz, pX, nX, dc, dn, d, ke) → wpX_rule post (nI n, nI q, ob, hd, st, sz, pX, nX, dc, dn, d, ke) (nI j) (nI s) := fun post hP => by
          unfold wpX_rule
          refine cX _ (br_f cc_n1 (sX _ (br_f cc_n1 ?_)))
          exact And.intro cc_n4 ⟨q + 1, fX _ (br_t rfl hP)⟩
        have Y : ∀ post : Int32 → SY → Prop, post (-3) (nI q, nI n, ob, dc, dn, hd, st, sz, pY, nY, d, ke) → wpY_rule post (nI q, nI n, ob, dc, dn, hd, st, sz, pY, nY, d, ke) (nI j) (nI s) := fun post hP => by
          unfold wpY_rule
          exact cY _ (br_t rfl (sY _ _ _ ⟨q + 1, fY _ _ hP⟩))
        exact X _ (Y _ ⟨rfl, cc_rel hn hq O D G⟩)
      · by_cases c20 : n < 20
        · have hlt : nI n < 20 := nI_lt (b := 20) c20 (by decide)
          have hin : vp_in (nI n) 20 := vp_in_nI c20 (by omega)
          have en : (nI n).toNatClampNeg = n := nI_clamp (by omega)
          have eu : ∀ (f : Nat → Int32) (x : Int32), upd f (nI n).toNatClampNeg x = upd f n x := fun f x => by rw [en]
          obtain ⟨pX', nX', MX, mX⟩ := cc_mX (ob := ob) (dc := dc) (dn := dn) (d := d) (ke := ke) (hd := upd hd n (nI j)) (st := upd st n (nI s)) (sz := sz) (P := pX) (N := nX) c20 hq q 0 pX nX (by omega) ⟨fun i hi => by omega, fun i _ => ⟨rfl, rfl⟩⟩
          obtain ⟨pY', nY', MY, mY⟩ := cc_mY (ob := ob) (dc := dc) (dn := dn) (d := d) (ke := ke) (fd := nI q) (hd := upd hd n (nI j)) (st := upd st n (nI s)) (sz := upd sz n (nI q)) (P := pY) (N := nY) c20 3 0 pY nY (by omega) ⟨fun i hi => by omega, fun i _ => ⟨rfl, rfl⟩⟩
          have X : ∀ post : Int32 → SX → Prop, post (nI n) (nI (n + 1), 0, ob, upd hd n (nI j), upd st n (nI s), upd sz n (nI q), pX', nX', dc, dn, d, ke) → wpX_rule post (nI n, nI q, ob, hd, st, sz, pX, nX, dc, dn, d, ke) (nI j) (nI s) := fun post hP => by
            unfold wpX_rule
            refine cX _ (br_f cc_n1 (sX _ (br_f cc_n1 ?_)))
            refine And.intro cc_n4 ⟨q + 1, fX _ (br_f cc_n1 (br_t hlt ⟨hin, nm_r (eu _ _) ⟨hin, nm_r (eu _ _) ?_⟩⟩))⟩
            refine nm_r (cc_m3 n) ⟨q + 1, mX _ ?_⟩
            exact nm_r (nI_1 n) hP
          have Y : ∀ post : Int32 → SY → Prop, post (nI n) (0, nI (n + 1), ob, dc, dn, upd hd n (nI j), upd st n (nI s), upd sz n (nI q), pY', nY', d, ke) → wpY_rule post (nI q, nI n, ob, dc, dn, hd, st, sz, pY, nY, d, ke) (nI j) (nI s) := fun post hP => by
            unfold wpY_rule
            refine cY _ (br_t rfl (sY _ _ _ ⟨q + 1, fY _ _ ?_⟩))
            exact br_t hlt ⟨hin, nm_r (eu _ _) ⟨hin, nm_r (eu _ _) ⟨hin, nm_r (eu _ _) ⟨4, mY _ hP⟩⟩⟩⟩
          exact X _ (Y _ ⟨rfl, cc_rel (q := 0) (by omega) (by omega) O D (cc_G_new hq hj s1 s2 D G MX MY)⟩)
        · have hlt : ¬ nI n < 20 := nI_nlt (b := 20) (by omega) (by omega)
          have X : ∀ post : Int32 → SX → Prop, post (-4) (nI n, nI q, ob, hd, st, sz, pX, nX, dc, dn, d, ke) → wpX_rule post (nI n, nI q, ob, hd, st, sz, pX, nX, dc, dn, d, ke) (nI j) (nI s) := fun post hP => by
            unfold wpX_rule
            refine cX _ (br_f cc_n1 (sX _ (br_f cc_n1 ?_)))
            exact And.intro cc_n4 ⟨q + 1, fX _ (br_f cc_n1 (br_f hlt hP))⟩
          have Y : ∀ post : Int32 → SY → Prop, post (-4) (nI q, nI n, ob, dc, dn, hd, st, sz, pY, nY, d, ke) → wpY_rule post (nI q, nI n, ob, dc, dn, hd, st, sz, pY, nY, d, ke) (nI j) (nI s) := fun post hP => by
            unfold wpY_rule
            refine cY _ (br_t rfl (sY _ _ _ ⟨q + 1, fY _ _ ?_⟩))
            exact br_f hlt hP
          exact X _ (Y _ ⟨rfl, cc_rel hn hq O D G⟩)
    · have X : ∀ post : Int32 → SX → Prop, post (-2) (nI n, nI q, ob, hd, st, sz, pX, nX, dc, dn, d, ke) → wpX_rule post (nI n, nI q, ob, hd, st, sz, pX, nX, dc, dn, d, ke) (nI j) v2 := fun post hP => by
        unfold wpX_rule
        exact cX _ (br_f cc_n1 (sX _ (br_t rfl hP)))
      have Y : ∀ post : Int32 → SY → Prop, post (-2) (nI q, nI n, ob, dc, dn, hd, st, sz, pY, nY, d, ke) → wpY_rule post (nI q, nI n, ob, dc, dn, hd, st, sz, pY, nY, d, ke) (nI j) v2 := fun post hP => by
        unfold wpY_rule
        exact cY _ (br_t rfl (sY _ _ hP))
      exact X _ (Y _ ⟨rfl, cc_rel hn hq O D G⟩)
  · have X : ∀ post : Int32 → SX → Prop, post (-1) (nI n, nI q, ob, hd, st, sz, pX, nX, dc, dn, d, ke) → wpX_rule post (nI n, nI q, ob, hd, st, sz, pX, nX, dc, dn, d, ke) v1 v2 := fun post hP => by
      unfold wpX_rule
      exact cX _ (br_t rfl hP)
    have Y : ∀ post : Int32 → SY → Prop, post (-1) (nI q, nI n, ob, dc, dn, hd, st, sz, pY, nY, d, ke) → wpY_rule post (nI q, nI n, ob, dc, dn, hd, st, sz, pY, nY, d, ke) v1 v2 := fun post hP => by
      unfold wpY_rule
      exact cY _ (br_f cc_n1 hP)
    exact X _ (Y _ ⟨rfl, cc_rel hn hq O D G⟩)
theorem i_vc_remove {k : Nat} {u : SX} {v : SY} (I : i_Rel k u v) (hk : k + 4 ≤ 2048) (v1 : Int32) : wpX_remove (fun r u' => wpY_remove (fun r' v' => r' = r ∧ i_Rel (k + 4) u' v') v v1) u v1 := by
  obtain ⟨n, q, ob, hd, st, sz, pX, nX, pY, nY, dc, dn, d, ke, rfl, rfl, hn, hq, O, D, G⟩ := I
  rcases cc_rule (ob := ob) (hd := hd) (st := st) (sz := sz) (pX := pX) (nX := nX) (pY := pY) (nY := nY) (dc := dc) (dn := dn) (d := d) (ke := ke) (fd := nI q) hn v1 with ⟨j, hj, rfl, cX, cY⟩ | ⟨cX, cY⟩
  · obtain ⟨hd', st', sz', pX', nX', pY', nY', G', rX, rY⟩ := cc_rem (ob := ob) (dc := dc) (dn := dn) (d := d) (ke := ke) (fd := nI q) hn (n - 1 - j) j hd st sz pX nX pY nY (by omega) G
    have X : ∀ post : Int32 → SX → Prop, post (nI (n - 1)) (nI (n - 1), nI q, ob, hd', st', sz', pX', nX', dc, dn, d, ke) → wpX_remove post (nI n, nI q, ob, hd, st, sz, pX, nX, dc, dn, d, ke) (nI j) := fun post hP => by
      unfold wpX_remove
      exact cX _ (br_f cc_n1 ⟨_, rX post hP⟩)
    have Y : ∀ post : Int32 → SY → Prop, post (nI (n - 1)) (nI q, nI (n - 1), ob, dc, dn, hd', st', sz', pY', nY', d, ke) → wpY_remove post (nI q, nI n, ob, dc, dn, hd, st, sz, pY, nY, d, ke) (nI j) := fun post hP => by
      unfold wpY_remove
      exact cY _ (br_t rfl ⟨_, rY post hP⟩)
    exact X _ (Y _ ⟨rfl, cc_rel (by omega) hq O D (fun r hr => G' r (by omega))⟩)
  · have X : ∀ post : Int32 → SX → Prop, post (-1) (nI n, nI q, ob, hd, st, sz, pX, nX, dc, dn, d, ke) → wpX_remove post (nI n, nI q, ob, hd, st, sz, pX, nX, dc, dn, d, ke) v1 := fun post hP => by
      unfold wpX_remove
      exact cX _ (br_t rfl hP)
    have Y : ∀ post : Int32 → SY → Prop, post (-1) (nI q, nI n, ob, dc, dn, hd, st, sz, pY, nY, d, ke) → wpY_remove post (nI q, nI n, ob, dc, dn, hd, st, sz, pY, nY, d, ke) v1 := fun post hP => by
      unfold wpY_remove
      exact cY _ (br_f cc_n1 hP)
    exact X _ (Y _ ⟨rfl, cc_rel hn hq O D G⟩)
