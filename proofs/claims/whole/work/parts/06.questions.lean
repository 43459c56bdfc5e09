theorem cc_G_st {hd st sz pX nX pY nY : Nat → Int32} {n j s : Nat} (s1 : 1 ≤ s) (s2 : s ≤ 100) (G : ∀ r, r < n → cc_G hd st sz pX nX pY nY r) : ∀ r, r < n → cc_G hd (upd st j (nI s)) sz pX nX pY nY r := by
  intro r hr
  obtain ⟨g1, ⟨s0, g3, g4, g5⟩, g6⟩ := G r hr
  by_cases e : r = j
  · subst e
    exact ⟨g1, ⟨s, s1, s2, pk_us⟩, g6⟩
  · exact ⟨g1, ⟨s0, g3, g4, by rw [pk_un e]; exact g5⟩, g6⟩
theorem i_vc_strengthen {k : Nat} {u : SX} {v : SY} (I : i_Rel k u v) (hk : k + 4 ≤ 2048) (v1 : Int32) (v2 : Int32) : wpX_strengthen (fun r u' => wpY_strengthen (fun r' v' => r' = r ∧ i_Rel (k + 4) u' v') v v1 v2) u v1 v2 := by
  obtain ⟨n, q, ob, hd, st, sz, pX, nX, pY, nY, dc, dn, d, ke, rfl, rfl, hn, hq, O, D, G⟩ := I
  rcases cc_rule (ob := ob) (hd := hd) (st := st) (sz := sz) (pX := pX) (nX := nX) (pY := pY) (nY := nY) (dc := dc) (dn := dn) (d := d) (ke := ke) (fd := nI q) hn v1 with ⟨j, hj, rfl, cX, cY⟩ | ⟨cX, cY⟩
  · have hin : vp_in (nI j) 20 := vp_in_nI (by omega) (by omega)
    have ej : (nI j).toNatClampNeg = j := nI_clamp (by omega)
    rcases cc_stren v2 with ⟨s, s1, s2, rfl, sX, sY⟩ | ⟨sX, sY⟩
    · have X : ∀ post : Int32 → SX → Prop, post (st j) (nI n, nI q, ob, hd, upd st j (nI s), sz, pX, nX, dc, dn, d, ke) → wpX_strengthen post (nI n, nI q, ob, hd, st, sz, pX, nX, dc, dn, d, ke) (nI j) (nI s) := fun post hP => by
        unfold wpX_strengthen
        exact cX _ (br_f cc_n1 (sX _ (br_f cc_n1 ⟨hin, nm_r (congrArg st ej) ⟨hin, nm_r (by rw [ej]) hP⟩⟩)))
      have Y : ∀ post : Int32 → SY → Prop, post (st j) (nI q, nI n, ob, dc, dn, hd, upd st j (nI s), sz, pY, nY, d, ke) → wpY_strengthen post (nI q, nI n, ob, dc, dn, hd, st, sz, pY, nY, d, ke) (nI j) (nI s) := fun post hP => by
        unfold wpY_strengthen
        exact cY _ (br_t rfl (sY _ _ _ ⟨hin, nm_r (congrArg st ej) ⟨hin, nm_r (by rw [ej]) hP⟩⟩))
      exact X _ (Y _ ⟨rfl, cc_rel hn hq O D (cc_G_st s1 s2 G)⟩)
    · have X : ∀ post : Int32 → SX → Prop, post (-2) (nI n, nI q, ob, hd, st, sz, pX, nX, dc, dn, d, ke) → wpX_strengthen post (nI n, nI q, ob, hd, st, sz, pX, nX, dc, dn, d, ke) (nI j) v2 := fun post hP => by
        unfold wpX_strengthen
        exact cX _ (br_f cc_n1 (sX _ (br_t rfl hP)))
      have Y : ∀ post : Int32 → SY → Prop, post (-2) (nI q, nI n, ob, dc, dn, hd, st, sz, pY, nY, d, ke) → wpY_strengthen post (nI q, nI n, ob, dc, dn, hd, st, sz, pY, nY, d, ke) (nI j) v2 := fun post hP => by
        unfold wpY_strengthen
        exact cY _ (br_t rfl (sY _ _ hP))
      exact X _ (Y _ ⟨rfl, cc_rel hn hq O D G⟩)
  · have X : ∀ post : Int32 → SX → Prop, post (-1) (nI n, nI q, ob, hd, st, sz, pX, nX, dc, dn, d, ke) → wpX_strengthen post (nI n, nI q, ob, hd, st, sz, pX, nX, dc, dn, d, ke) v1 v2 := fun post hP => by
      unfold wpX_strengthen
      exact cX _ (br_t rfl hP)
    have Y : ∀ post : Int32 → SY → Prop, post (-1) (nI q, nI n, ob, dc, dn, hd, st, sz, pY, nY, d, ke) → wpY_strengthen post (nI q, nI n, ob, dc, dn, hd, st, sz, pY, nY, d, ke) v1 v2 := fun post hP => by
      unfold wpY_strengthen
      exact cY _ (br_f cc_n1 hP)
    exact X _ (Y _ ⟨rfl, cc_rel hn hq O D G⟩)
theorem i_vc_observe {k : Nat} {u : SX} {v : SY} (I : i_Rel k u v) (hk : k + 4 ≤ 2048) (v1 : Int32) (v2 : Int32) : wpX_observe (fun r u' => wpY_observe (fun r' v' => r' = r ∧ i_Rel (k + 4) u' v') v v1 v2) u v1 v2 := by
  obtain ⟨n, q, ob, hd, st, sz, pX, nX, pY, nY, dc, dn, d, ke, rfl, rfl, hn, hq, O, D, G⟩ := I
  rcases cc_claim (ob := ob) (hd := hd) (st := st) (sz := sz) (pY := pY) (nY := nY) (dc := dc) (dn := dn) (d := d) (ke := ke) (fd := nI q) (rc := nI n) v1 with ⟨j, hj, rfl, cX, cY⟩ | ⟨cX, cY⟩
  · have hin : vp_in (nI j) 16 := vp_in_nI (by omega) (by omega)
    have ej : (nI j).toNatClampNeg = j := nI_clamp (by omega)
    rcases cc_cert v2 with ⟨s, s2, rfl, sX, sY⟩ | ⟨sX, sY⟩
    · have X : ∀ post : Int32 → SX → Prop, post (ob j) (nI n, nI q, upd ob j (nI s), hd, st, sz, pX, nX, dc, dn, d, ke) → wpX_observe post (nI n, nI q, ob, hd, st, sz, pX, nX, dc, dn, d, ke) (nI j) (nI s) := fun post hP => by
        unfold wpX_observe
        exact cX _ (br_f cc_n1 (sX _ (br_f cc_n1 ⟨hin, nm_r (congrArg ob ej) ⟨hin, nm_r (by rw [ej]) hP⟩⟩)))
      have Y : ∀ post : Int32 → SY → Prop, post (ob j) (nI q, nI n, upd ob j (nI s), dc, dn, hd, st, sz, pY, nY, d, ke) → wpY_observe post (nI q, nI n, ob, dc, dn, hd, st, sz, pY, nY, d, ke) (nI j) (nI s) := fun post hP => by
        unfold wpY_observe
        exact cY _ (br_t rfl (sY _ _ _ ⟨hin, nm_r (congrArg ob ej) ⟨hin, nm_r (by rw [ej]) hP⟩⟩))
      exact X _ (Y _ ⟨rfl, cc_rel hn hq (cc_Bd_upd O s2) D G⟩)
    · have X : ∀ post : Int32 → SX → Prop, post (-2) (nI n, nI q, ob, hd, st, sz, pX, nX, dc, dn, d, ke) → wpX_observe post (nI n, nI q, ob, hd, st, sz, pX, nX, dc, dn, d, ke) (nI j) v2 := fun post hP => by
        unfold wpX_observe
        exact cX _ (br_f cc_n1 (sX _ (br_t rfl hP)))
      have Y : ∀ post : Int32 → SY → Prop, post (-2) (nI q, nI n, ob, dc, dn, hd, st, sz, pY, nY, d, ke) → wpY_observe post (nI q, nI n, ob, dc, dn, hd, st, sz, pY, nY, d, ke) (nI j) v2 := fun post hP => by
        unfold wpY_observe
        exact cY _ (br_t rfl (sY _ _ hP))
      exact X _ (Y _ ⟨rfl, cc_rel hn hq O D G⟩)
  · have X : ∀ post : Int32 → SX → Prop, post (-1) (nI n, nI q, ob, hd, st, sz, pX, nX, dc, dn, d, ke) → wpX_observe post (nI n, nI q, ob, hd, st, sz, pX, nX, dc, dn, d, ke) v1 v2 := fun post hP => by
      unfold wpX_observe
      exact cX _ (br_t rfl hP)
    have Y : ∀ post : Int32 → SY → Prop, post (-1) (nI q, nI n, ob, dc, dn, hd, st, sz, pY, nY, d, ke) → wpY_observe post (nI q, nI n, ob, dc, dn, hd, st, sz, pY, nY, d, ke) v1 v2 := fun post hP => by
      unfold wpY_observe
      exact cY _ (br_f cc_n1 hP)
    exact X _ (Y _ ⟨rfl, cc_rel hn hq O D G⟩)
theorem i_vc_rules {k : Nat} {u : SX} {v : SY} (I : i_Rel k u v) (hk : k + 4 ≤ 2048) : wpX_rules (fun r => wpY_rules (fun r' => r' = r ∧ i_Rel (k + 4) u v) v) u := by
  obtain ⟨n, q, ob, hd, st, sz, pX, nX, pY, nY, dc, dn, d, ke, rfl, rfl, hn, hq, O, D, G⟩ := I
  exact ⟨rfl, cc_rel hn hq O D G⟩
theorem i_vc_headOf {k : Nat} {u : SX} {v : SY} (I : i_Rel k u v) (hk : k + 4 ≤ 2048) (v1 : Int32) : wpX_headOf (fun r => wpY_headOf (fun r' => r' = r ∧ i_Rel (k + 4) u v) v v1) u v1 := by
  obtain ⟨n, q, ob, hd, st, sz, pX, nX, pY, nY, dc, dn, d, ke, rfl, rfl, hn, hq, O, D, G⟩ := I
  rcases cc_rule (ob := ob) (hd := hd) (st := st) (sz := sz) (pX := pX) (nX := nX) (pY := pY) (nY := nY) (dc := dc) (dn := dn) (d := d) (ke := ke) (fd := nI q) hn v1 with ⟨j, hj, rfl, cX, cY⟩ | ⟨cX, cY⟩
  · have hin : vp_in (nI j) 20 := vp_in_nI (by omega) (by omega)
    have X : ∀ post : Int32 → Prop, post (hd (nI j).toNatClampNeg) → wpX_headOf post (nI n, nI q, ob, hd, st, sz, pX, nX, dc, dn, d, ke) (nI j) := fun post hP => by
      unfold wpX_headOf
      exact cX _ (br_f cc_n1 ⟨hin, hP⟩)
    have Y : ∀ post : Int32 → Prop, post (hd (nI j).toNatClampNeg) → wpY_headOf post (nI q, nI n, ob, dc, dn, hd, st, sz, pY, nY, d, ke) (nI j) := fun post hP => by
      unfold wpY_headOf
      exact cY _ (br_t rfl ⟨hin, hP⟩)
    exact X _ (Y _ ⟨rfl, cc_rel hn hq O D G⟩)
  · have X : ∀ post : Int32 → Prop, post (-1) → wpX_headOf post (nI n, nI q, ob, hd, st, sz, pX, nX, dc, dn, d, ke) v1 := fun post hP => by
      unfold wpX_headOf
      exact cX _ (br_t rfl hP)
    have Y : ∀ post : Int32 → Prop, post (-1) → wpY_headOf post (nI q, nI n, ob, dc, dn, hd, st, sz, pY, nY, d, ke) v1 := fun post hP => by
      unfold wpY_headOf
      exact cY _ (br_f cc_n1 hP)
    exact X _ (Y _ ⟨rfl, cc_rel hn hq O D G⟩)
theorem i_vc_observed {k : Nat} {u : SX} {v : SY} (I : i_Rel k u v) (hk : k + 4 ≤ 2048) (v1 : Int32) : wpX_observed (fun r => wpY_observed (fun r' => r' = r ∧ i_Rel (k + 4) u v) v v1) u v1 := by
  obtain ⟨n, q, ob, hd, st, sz, pX, nX, pY, nY, dc, dn, d, ke, rfl, rfl, hn, hq, O, D, G⟩ := I
  rcases cc_claim (ob := ob) (hd := hd) (st := st) (sz := sz) (pY := pY) (nY := nY) (dc := dc) (dn := dn) (d := d) (ke := ke) (fd := nI q) (rc := nI n) v1 with ⟨j, hj, rfl, cX, cY⟩ | ⟨cX, cY⟩
  · have hin : vp_in (nI j) 16 := vp_in_nI (by omega) (by omega)
    have X : ∀ post : Int32 → Prop, post (ob (nI j).toNatClampNeg) → wpX_observed post (nI n, nI q, ob, hd, st, sz, pX, nX, dc, dn, d, ke) (nI j) := fun post hP => by
      unfold wpX_observed
      exact cX _ (br_f cc_n1 ⟨hin, hP⟩)
    have Y : ∀ post : Int32 → Prop, post (ob (nI j).toNatClampNeg) → wpY_observed post (nI q, nI n, ob, dc, dn, hd, st, sz, pY, nY, d, ke) (nI j) := fun post hP => by
      unfold wpY_observed
      exact cY _ (br_t rfl ⟨hin, hP⟩)
    exact X _ (Y _ ⟨rfl, cc_rel hn hq O D G⟩)
  · have X : ∀ post : Int32 → Prop, post (-1) → wpX_observed post (nI n, nI q, ob, hd, st, sz, pX, nX, dc, dn, d, ke) v1 := fun post hP => by
      unfold wpX_observed
      exact cX _ (br_t rfl hP)
    have Y : ∀ post : Int32 → Prop, post (-1) → wpY_observed post (nI q, nI n, ob, dc, dn, hd, st, sz, pY, nY, d, ke) v1 := fun post hP => by
      unfold wpY_observed
      exact cY _ (br_f cc_n1 hP)
    exact X _ (Y _ ⟨rfl, cc_rel hn hq O D G⟩)
theorem i_vc_certainty {k : Nat} {u : SX} {v : SY} (I : i_Rel k u v) (hk : k + 4 ≤ 2048) (v1 : Int32) : wpX_certainty (fun r u' => wpY_certainty (fun r' v' => r' = r ∧ i_Rel (k + 4) u' v') v v1) u v1 := by
  obtain ⟨n, q, ob, hd, st, sz, pX, nX, pY, nY, dc, dn, d, ke, rfl, rfl, hn, hq, O, D, G⟩ := I
  rcases cc_claim (ob := ob) (hd := hd) (st := st) (sz := sz) (pY := pY) (nY := nY) (dc := dc) (dn := dn) (d := d) (ke := ke) (fd := nI q) (rc := nI n) v1 with ⟨j, hj, rfl, cX, cY⟩ | ⟨cX, cY⟩
  · have hin : vp_in (nI j) 16 := vp_in_nI (by omega) (by omega)
    obtain ⟨d', B', dX, dY⟩ := cc_asIs (dc := dc) (dn := dn) (ke := ke) (fd := nI q) (d := d) hn O G
    have X : ∀ post : Int32 → SX → Prop, post (d' (nI j).toNatClampNeg) (nI n, nI q, ob, hd, st, sz, pX, nX, dc, dn, d', ke) → wpX_certainty post (nI n, nI q, ob, hd, st, sz, pX, nX, dc, dn, d, ke) (nI j) := fun post hP => by
      unfold wpX_certainty
      refine cX _ (br_f cc_n1 (dX _ ?_))
      exact ⟨hin, hP⟩
    have Y : ∀ post : Int32 → SY → Prop, post (d' (nI j).toNatClampNeg) (nI q, nI n, ob, dc, dn, hd, st, sz, pY, nY, d', ke) → wpY_certainty post (nI q, nI n, ob, dc, dn, hd, st, sz, pY, nY, d, ke) (nI j) := fun post hP => by
      unfold wpY_certainty
      refine cY _ (br_t rfl (dY _ ?_))
      exact ⟨hin, hP⟩
    exact X _ (Y _ ⟨rfl, cc_rel hn hq O D G⟩)
  · have X : ∀ post : Int32 → SX → Prop, post (-1) (nI n, nI q, ob, hd, st, sz, pX, nX, dc, dn, d, ke) → wpX_certainty post (nI n, nI q, ob, hd, st, sz, pX, nX, dc, dn, d, ke) v1 := fun post hP => by
      unfold wpX_certainty
      exact cX _ (br_t rfl hP)
    have Y : ∀ post : Int32 → SY → Prop, post (-1) (nI q, nI n, ob, dc, dn, hd, st, sz, pY, nY, d, ke) → wpY_certainty post (nI q, nI n, ob, dc, dn, hd, st, sz, pY, nY, d, ke) v1 := fun post hP => by
      unfold wpY_certainty
      exact cY _ (br_f cc_n1 hP)
    exact X _ (Y _ ⟨rfl, cc_rel hn hq O D G⟩)
theorem i_vc_whatIf {k : Nat} {u : SX} {v : SY} (I : i_Rel k u v) (hk : k + 4 ≤ 2048) (v1 : Int32) (v2 : Int32) (v3 : Int32) : wpX_whatIf (fun r u' => wpY_whatIf (fun r' v' => r' = r ∧ i_Rel (k + 4) u' v') v v1 v2 v3) u v1 v2 v3 := by
  obtain ⟨n, q, ob, hd, st, sz, pX, nX, pY, nY, dc, dn, d, ke, rfl, rfl, hn, hq, O, D, G⟩ := I
  rcases cc_claim (ob := ob) (hd := hd) (st := st) (sz := sz) (pY := pY) (nY := nY) (dc := dc) (dn := dn) (d := d) (ke := ke) (fd := nI q) (rc := nI n) v1 with ⟨j, hj, rfl, cX, cY⟩ | ⟨cX, cY⟩
  · have hin : vp_in (nI j) 16 := vp_in_nI (by omega) (by omega)
    rcases cc_claim (ob := ob) (hd := hd) (st := st) (sz := sz) (pY := pY) (nY := nY) (dc := dc) (dn := dn) (d := d) (ke := ke) (fd := nI q) (rc := nI n) v2 with ⟨j2, hj2, rfl, eX, eY⟩ | ⟨eX, eY⟩
    · rcases cc_cert v3 with ⟨s, s2, rfl, sX, sY⟩ | ⟨sX, sY⟩
      · obtain ⟨d', B', dX, dY⟩ := cc_derive (dc := dc) (dn := dn) (ke := ke) (fd := nI q) (d := d) (v := s) (-1) (nI j2) (by omega) hn O G
        have X : ∀ post : Int32 → SX → Prop, post (d' (nI j).toNatClampNeg) (nI n, nI q, ob, hd, st, sz, pX, nX, dc, dn, d', ke) → wpX_whatIf post (nI n, nI q, ob, hd, st, sz, pX, nX, dc, dn, d, ke) (nI j) (nI j2) (nI s) := fun post hP => by
          unfold wpX_whatIf
          refine cX _ (br_f cc_n1 (eX _ (br_f cc_n1 (sX _ (br_f cc_n1 (dX _ ?_))))))
          exact ⟨hin, hP⟩
        have Y : ∀ post : Int32 → SY → Prop, post (d' (nI j).toNatClampNeg) (nI q, nI n, ob, dc, dn, hd, st, sz, pY, nY, d', ke) → wpY_whatIf post (nI q, nI n, ob, dc, dn, hd, st, sz, pY, nY, d, ke) (nI j) (nI j2) (nI s) := fun post hP => by
          unfold wpY_whatIf
          refine cY _ (br_t rfl (eY _ (br_t rfl (sY _ _ _ (dY _ ?_)))))
          exact ⟨hin, hP⟩
        exact X _ (Y _ ⟨rfl, cc_rel hn hq O D G⟩)
      · have X : ∀ post : Int32 → SX → Prop, post (-2) (nI n, nI q, ob, hd, st, sz, pX, nX, dc, dn, d, ke) → wpX_whatIf post (nI n, nI q, ob, hd, st, sz, pX, nX, dc, dn, d, ke) (nI j) (nI j2) v3 := fun post hP => by
          unfold wpX_whatIf
          exact cX _ (br_f cc_n1 (eX _ (br_f cc_n1 (sX _ (br_t rfl hP)))))
        have Y : ∀ post : Int32 → SY → Prop, post (-2) (nI q, nI n, ob, dc, dn, hd, st, sz, pY, nY, d, ke) → wpY_whatIf post (nI q, nI n, ob, dc, dn, hd, st, sz, pY, nY, d, ke) (nI j) (nI j2) v3 := fun post hP => by
          unfold wpY_whatIf
          exact cY _ (br_t rfl (eY _ (br_t rfl (sY _ _ hP))))
        exact X _ (Y _ ⟨rfl, cc_rel hn hq O D G⟩)
    · have X : ∀ post : Int32 → SX → Prop, post (-1) (nI n, nI q, ob, hd, st, sz, pX, nX, dc, dn, d, ke) → wpX_whatIf post (nI n, nI q, ob, hd, st, sz, pX, nX, dc, dn, d, ke) (nI j) v2 v3 := fun post hP => by
        unfold wpX_whatIf
        exact cX _ (br_f cc_n1 (eX _ (br_t rfl hP)))
      have Y : ∀ post : Int32 → SY → Prop, post (-1) (nI q, nI n, ob, dc, dn, hd, st, sz, pY, nY, d, ke) → wpY_whatIf post (nI q, nI n, ob, dc, dn, hd, st, sz, pY, nY, d, ke) (nI j) v2 v3 := fun post hP => by
        unfold wpY_whatIf
        exact cY _ (br_t rfl (eY _ (br_f cc_n1 hP)))
      exact X _ (Y _ ⟨rfl, cc_rel hn hq O D G⟩)
  · have X : ∀ post : Int32 → SX → Prop, post (-1) (nI n, nI q, ob, hd, st, sz, pX, nX, dc, dn, d, ke) → wpX_whatIf post (nI n, nI q, ob, hd, st, sz, pX, nX, dc, dn, d, ke) v1 v2 v3 := fun post hP => by
      unfold wpX_whatIf
      exact cX _ (br_t rfl hP)
    have Y : ∀ post : Int32 → SY → Prop, post (-1) (nI q, nI n, ob, dc, dn, hd, st, sz, pY, nY, d, ke) → wpY_whatIf post (nI q, nI n, ob, dc, dn, hd, st, sz, pY, nY, d, ke) v1 v2 v3 := fun post hP => by
      unfold wpY_whatIf
      exact cY _ (br_f cc_n1 hP)
    exact X _ (Y _ ⟨rfl, cc_rel hn hq O D G⟩)
theorem i_vc_without {k : Nat} {u : SX} {v : SY} (I : i_Rel k u v) (hk : k + 4 ≤ 2048) (v1 : Int32) (v2 : Int32) : wpX_without (fun r u' => wpY_without (fun r' v' => r' = r ∧ i_Rel (k + 4) u' v') v v1 v2) u v1 v2 := by
  obtain ⟨n, q, ob, hd, st, sz, pX, nX, pY, nY, dc, dn, d, ke, rfl, rfl, hn, hq, O, D, G⟩ := I
  rcases cc_claim (ob := ob) (hd := hd) (st := st) (sz := sz) (pY := pY) (nY := nY) (dc := dc) (dn := dn) (d := d) (ke := ke) (fd := nI q) (rc := nI n) v1 with ⟨j, hj, rfl, cX, cY⟩ | ⟨cX, cY⟩
  · have hin : vp_in (nI j) 16 := vp_in_nI (by omega) (by omega)
    rcases cc_rule (ob := ob) (hd := hd) (st := st) (sz := sz) (pX := pX) (nX := nX) (pY := pY) (nY := nY) (dc := dc) (dn := dn) (d := d) (ke := ke) (fd := nI q) hn v2 with ⟨j2, hj2, rfl, eX, eY⟩ | ⟨eX, eY⟩
    · obtain ⟨d', B', dX, dY⟩ := cc_derive (dc := dc) (dn := dn) (ke := ke) (fd := nI q) (d := d) (v := 0) (nI j2) (-1) (by omega) hn O G
      have X : ∀ post : Int32 → SX → Prop, post (d' (nI j).toNatClampNeg) (nI n, nI q, ob, hd, st, sz, pX, nX, dc, dn, d', ke) → wpX_without post (nI n, nI q, ob, hd, st, sz, pX, nX, dc, dn, d, ke) (nI j) (nI j2) := fun post hP => by
        unfold wpX_without
        refine cX _ (br_f cc_n1 (eX _ (br_f cc_n1 (dX _ ?_))))
        exact ⟨hin, hP⟩
      have Y : ∀ post : Int32 → SY → Prop, post (d' (nI j).toNatClampNeg) (nI q, nI n, ob, dc, dn, hd, st, sz, pY, nY, d', ke) → wpY_without post (nI q, nI n, ob, dc, dn, hd, st, sz, pY, nY, d, ke) (nI j) (nI j2) := fun post hP => by
        unfold wpY_without
        refine cY _ (br_t rfl (eY _ (br_t rfl (dY _ ?_))))
        exact ⟨hin, hP⟩
      exact X _ (Y _ ⟨rfl, cc_rel hn hq O D G⟩)
    · have X : ∀ post : Int32 → SX → Prop, post (-2) (nI n, nI q, ob, hd, st, sz, pX, nX, dc, dn, d, ke) → wpX_without post (nI n, nI q, ob, hd, st, sz, pX, nX, dc, dn, d, ke) (nI j) v2 := fun post hP => by
        unfold wpX_without
        exact cX _ (br_f cc_n1 (eX _ (br_t rfl hP)))
      have Y : ∀ post : Int32 → SY → Prop, post (-2) (nI q, nI n, ob, dc, dn, hd, st, sz, pY, nY, d, ke) → wpY_without post (nI q, nI n, ob, dc, dn, hd, st, sz, pY, nY, d, ke) (nI j) v2 := fun post hP => by
        unfold wpY_without
        exact cY _ (br_t rfl (eY _ (br_f cc_n1 hP)))
      exact X _ (Y _ ⟨rfl, cc_rel hn hq O D G⟩)
  · have X : ∀ post : Int32 → SX → Prop, post (-1) (nI n, nI q, ob, hd, st, sz, pX, nX, dc, dn, d, ke) → wpX_without post (nI n, nI q, ob, hd, st, sz, pX, nX, dc, dn, d, ke) v1 v2 := fun post hP => by
      unfold wpX_without
      exact cX _ (br_t rfl hP)
    have Y : ∀ post : Int32 → SY → Prop, post (-1) (nI q, nI n, ob, dc, dn, hd, st, sz, pY, nY, d, ke) → wpY_without post (nI q, nI n, ob, dc, dn, hd, st, sz, pY, nY, d, ke) v1 v2 := fun post hP => by
      unfold wpY_without
      exact cY _ (br_f cc_n1 hP)
    exact X _ (Y _ ⟨rfl, cc_rel hn hq O D G⟩)
theorem i_vc_supporter {k : Nat} {u : SX} {v : SY} (I : i_Rel k u v) (hk : k + 4 ≤ 2048) (v1 : Int32) : wpX_supporter (fun r u' => wpY_supporter (fun r' v' => r' = r ∧ i_Rel (k + 4) u' v') v v1) u v1 := by
  obtain ⟨n, q, ob, hd, st, sz, pX, nX, pY, nY, dc, dn, d, ke, rfl, rfl, hn, hq, O, D, G⟩ := I
  rcases cc_claim (ob := ob) (hd := hd) (st := st) (sz := sz) (pY := pY) (nY := nY) (dc := dc) (dn := dn) (d := d) (ke := ke) (fd := nI q) (rc := nI n) v1 with ⟨j, hj, rfl, cX, cY⟩ | ⟨cX, cY⟩
  · obtain ⟨d', B', dX, dY⟩ := cc_asIs (dc := dc) (dn := dn) (ke := ke) (fd := nI q) (d := d) hn O G
    obtain ⟨a, aX, aY⟩ := cc_sup (ob := ob) (dc := dc) (dn := dn) (ke := ke) (fd := nI q) hn hj G B' n 0 (by omega)
    have X : ∀ post : Int32 → SX → Prop, post a (nI n, nI q, ob, hd, st, sz, pX, nX, dc, dn, d', ke) → wpX_supporter post (nI n, nI q, ob, hd, st, sz, pX, nX, dc, dn, d, ke) (nI j) := fun post hP => by
      unfold wpX_supporter
      refine cX _ (br_f cc_n1 (dX _ ?_))
      exact ⟨n + 1, aX _ hP⟩
    have Y : ∀ post : Int32 → SY → Prop, post a (nI q, nI n, ob, dc, dn, hd, st, sz, pY, nY, d', ke) → wpY_supporter post (nI q, nI n, ob, dc, dn, hd, st, sz, pY, nY, d, ke) (nI j) := fun post hP => by
      unfold wpY_supporter
      refine cY _ (br_t rfl (dY _ ?_))
      exact ⟨n + 1, aY _ hP⟩
    exact X _ (Y _ ⟨rfl, cc_rel hn hq O D G⟩)
  · have X : ∀ post : Int32 → SX → Prop, post (-1) (nI n, nI q, ob, hd, st, sz, pX, nX, dc, dn, d, ke) → wpX_supporter post (nI n, nI q, ob, hd, st, sz, pX, nX, dc, dn, d, ke) v1 := fun post hP => by
      unfold wpX_supporter
      exact cX _ (br_t rfl hP)
    have Y : ∀ post : Int32 → SY → Prop, post (-1) (nI q, nI n, ob, dc, dn, hd, st, sz, pY, nY, d, ke) → wpY_supporter post (nI q, nI n, ob, dc, dn, hd, st, sz, pY, nY, d, ke) v1 := fun post hP => by
      unfold wpY_supporter
      exact cY _ (br_f cc_n1 hP)
    exact X _ (Y _ ⟨rfl, cc_rel hn hq O D G⟩)
theorem i_vc_yield {k : Nat} {u : SX} {v : SY} (I : i_Rel k u v) (hk : k + 4 ≤ 2048) (v1 : Int32) : wpX_yield (fun r u' => wpY_yield (fun r' v' => r' = r ∧ i_Rel (k + 4) u' v') v v1) u v1 := by
  obtain ⟨n, q, ob, hd, st, sz, pX, nX, pY, nY, dc, dn, d, ke, rfl, rfl, hn, hq, O, D, G⟩ := I
  rcases cc_rule (ob := ob) (hd := hd) (st := st) (sz := sz) (pX := pX) (nX := nX) (pY := pY) (nY := nY) (dc := dc) (dn := dn) (d := d) (ke := ke) (fd := nI q) hn v1 with ⟨j, hj, rfl, cX, cY⟩ | ⟨cX, cY⟩
  · obtain ⟨d', B', dX, dY⟩ := cc_asIs (dc := dc) (dn := dn) (ke := ke) (fd := nI q) (d := d) hn O G
    obtain ⟨y, -, yX, yY⟩ := cc_yield (ob := ob) (dc := dc) (dn := dn) (ke := ke) (fd := nI q) (rc := nI n) (by omega) (G j hj) B'
    have X : ∀ post : Int32 → SX → Prop, post (nI y) (nI n, nI q, ob, hd, st, sz, pX, nX, dc, dn, d', ke) → wpX_yield post (nI n, nI q, ob, hd, st, sz, pX, nX, dc, dn, d, ke) (nI j) := fun post hP => by
      unfold wpX_yield
      refine cX _ (br_f cc_n1 (dX _ ?_))
      exact yX _ hP
    have Y : ∀ post : Int32 → SY → Prop, post (nI y) (nI q, nI n, ob, dc, dn, hd, st, sz, pY, nY, d', ke) → wpY_yield post (nI q, nI n, ob, dc, dn, hd, st, sz, pY, nY, d, ke) (nI j) := fun post hP => by
      unfold wpY_yield
      refine cY _ (br_t rfl (dY _ ?_))
      exact yY _ hP
    exact X _ (Y _ ⟨rfl, cc_rel hn hq O D G⟩)
  · have X : ∀ post : Int32 → SX → Prop, post (-1) (nI n, nI q, ob, hd, st, sz, pX, nX, dc, dn, d, ke) → wpX_yield post (nI n, nI q, ob, hd, st, sz, pX, nX, dc, dn, d, ke) v1 := fun post hP => by
      unfold wpX_yield
      exact cX _ (br_t rfl hP)
    have Y : ∀ post : Int32 → SY → Prop, post (-1) (nI q, nI n, ob, dc, dn, hd, st, sz, pY, nY, d, ke) → wpY_yield post (nI q, nI n, ob, dc, dn, hd, st, sz, pY, nY, d, ke) v1 := fun post hP => by
      unfold wpY_yield
      exact cY _ (br_f cc_n1 hP)
    exact X _ (Y _ ⟨rfl, cc_rel hn hq O D G⟩)
theorem i_vc_atLeast {k : Nat} {u : SX} {v : SY} (I : i_Rel k u v) (hk : k + 4 ≤ 2048) (v1 : Int32) : wpX_atLeast (fun r u' => wpY_atLeast (fun r' v' => r' = r ∧ i_Rel (k + 4) u' v') v v1) u v1 := by
  obtain ⟨n, q, ob, hd, st, sz, pX, nX, pY, nY, dc, dn, d, ke, rfl, rfl, hn, hq, O, D, G⟩ := I
  obtain ⟨d', B', dX, dY⟩ := cc_asIs (dc := dc) (dn := dn) (ke := ke) (fd := nI q) (d := d) hn O G
  obtain ⟨a, aX, aY⟩ := cc_atL (ob := ob) (hd := hd) (st := st) (sz := sz) (pX := pX) (nX := nX) (pY := pY) (nY := nY) (dc := dc) (dn := dn) (d := d') (ke := ke) (fd := nI q) (rc := nI n) v1 16 0 0 (by omega)
  have X : ∀ post : Int32 → SX → Prop, post a (nI n, nI q, ob, hd, st, sz, pX, nX, dc, dn, d', ke) → wpX_atLeast post (nI n, nI q, ob, hd, st, sz, pX, nX, dc, dn, d, ke) v1 := fun post hP => by
    unfold wpX_atLeast
    refine dX _ ?_
    exact ⟨17, aX _ hP⟩
  have Y : ∀ post : Int32 → SY → Prop, post a (nI q, nI n, ob, dc, dn, hd, st, sz, pY, nY, d', ke) → wpY_atLeast post (nI q, nI n, ob, dc, dn, hd, st, sz, pY, nY, d, ke) v1 := fun post hP => by
    unfold wpY_atLeast
    refine dY _ ?_
    exact ⟨17, aY _ hP⟩
  exact X _ (Y _ ⟨rfl, cc_rel hn hq O D G⟩)
theorem i_vc_strongest {k : Nat} {u : SX} {v : SY} (I : i_Rel k u v) (hk : k + 4 ≤ 2048) (v1 : Int32) (v2 : Int32) : wpX_strongest (fun r u' => wpY_strongest (fun r' v' => r' = r ∧ i_Rel (k + 4) u' v') v v1 v2) u v1 v2 := by
  obtain ⟨n, q, ob, hd, st, sz, pX, nX, pY, nY, dc, dn, d, ke, rfl, rfl, hn, hq, O, D, G⟩ := I
  rcases cc_claim (ob := ob) (hd := hd) (st := st) (sz := sz) (pY := pY) (nY := nY) (dc := dc) (dn := dn) (d := d) (ke := ke) (fd := nI q) (rc := nI n) v1 with ⟨j, hj, rfl, cX, cY⟩ | ⟨cX, cY⟩
  · have hin : vp_in (nI j) 16 := vp_in_nI (by omega) (by omega)
    rcases cc_claim (ob := ob) (hd := hd) (st := st) (sz := sz) (pY := pY) (nY := nY) (dc := dc) (dn := dn) (d := d) (ke := ke) (fd := nI q) (rc := nI n) v2 with ⟨t, ht, rfl, eX, eY⟩ | ⟨eX, eY⟩
    · by_cases jt : j ≤ t
      · have hle : nI j ≤ nI t := nI_le jt (by omega)
        have hnl : ¬ nI t < nI j := nI_nlt jt (by omega)
        obtain ⟨d', B', dX, dY⟩ := cc_asIs (dc := dc) (dn := dn) (ke := ke) (fd := nI q) (d := d) hn O G
        obtain ⟨a, aX, aY⟩ := cc_str (ob := ob) (hd := hd) (st := st) (sz := sz) (pX := pX) (nX := nX) (pY := pY) (nY := nY) (dc := dc) (dn := dn) (d := d') (ke := ke) (fd := nI q) (rc := nI n) ht (t - j) (j + 1) j (by omega) hj
        have X : ∀ post : Int32 → SX → Prop, post a (nI n, nI q, ob, hd, st, sz, pX, nX, dc, dn, d', ke) → wpX_strongest post (nI n, nI q, ob, hd, st, sz, pX, nX, dc, dn, d, ke) (nI j) (nI t) := fun post hP => by
          unfold wpX_strongest
          refine cX _ (br_f cc_n1 (eX _ (br_f cc_n1 (br_t hle (dX _ ?_)))))
          exact nm_r (nI_1 j) ⟨_, aX _ hP⟩
        have Y : ∀ post : Int32 → SY → Prop, post a (nI q, nI n, ob, dc, dn, hd, st, sz, pY, nY, d', ke) → wpY_strongest post (nI q, nI n, ob, dc, dn, hd, st, sz, pY, nY, d, ke) (nI j) (nI t) := fun post hP => by
          unfold wpY_strongest
          refine cY _ (br_t rfl (eY _ (br_t rfl (br_t hle (dY _ ?_)))))
          exact ⟨t - j + 1 + 1, br_f hnl ⟨hin, hin, br_t (Int32.le_refl _) (nm_r (nI_1 j) (aY _ hP))⟩⟩
        exact X _ (Y _ ⟨rfl, cc_rel hn hq O D G⟩)
      · have hle : ¬ nI j ≤ nI t := nI_ge (by omega) (by omega)
        have X : ∀ post : Int32 → SX → Prop, post (-2) (nI n, nI q, ob, hd, st, sz, pX, nX, dc, dn, d, ke) → wpX_strongest post (nI n, nI q, ob, hd, st, sz, pX, nX, dc, dn, d, ke) (nI j) (nI t) := fun post hP => by
          unfold wpX_strongest
          exact cX _ (br_f cc_n1 (eX _ (br_f cc_n1 (br_f hle hP))))
        have Y : ∀ post : Int32 → SY → Prop, post (-2) (nI q, nI n, ob, dc, dn, hd, st, sz, pY, nY, d, ke) → wpY_strongest post (nI q, nI n, ob, dc, dn, hd, st, sz, pY, nY, d, ke) (nI j) (nI t) := fun post hP => by
          unfold wpY_strongest
          exact cY _ (br_t rfl (eY _ (br_t rfl (br_f hle hP))))
        exact X _ (Y _ ⟨rfl, cc_rel hn hq O D G⟩)
    · have X : ∀ post : Int32 → SX → Prop, post (-1) (nI n, nI q, ob, hd, st, sz, pX, nX, dc, dn, d, ke) → wpX_strongest post (nI n, nI q, ob, hd, st, sz, pX, nX, dc, dn, d, ke) (nI j) v2 := fun post hP => by
        unfold wpX_strongest
        exact cX _ (br_f cc_n1 (eX _ (br_t rfl hP)))
      have Y : ∀ post : Int32 → SY → Prop, post (-1) (nI q, nI n, ob, dc, dn, hd, st, sz, pY, nY, d, ke) → wpY_strongest post (nI q, nI n, ob, dc, dn, hd, st, sz, pY, nY, d, ke) (nI j) v2 := fun post hP => by
        unfold wpY_strongest
        exact cY _ (br_t rfl (eY _ (br_f cc_n1 hP)))
      exact X _ (Y _ ⟨rfl, cc_rel hn hq O D G⟩)
  · have X : ∀ post : Int32 → SX → Prop, post (-1) (nI n, nI q, ob, hd, st, sz, pX, nX, dc, dn, d, ke) → wpX_strongest post (nI n, nI q, ob, hd, st, sz, pX, nX, dc, dn, d, ke) v1 v2 := fun post hP => by
      unfold wpX_strongest
      exact cX _ (br_t rfl hP)
    have Y : ∀ post : Int32 → SY → Prop, post (-1) (nI q, nI n, ob, dc, dn, hd, st, sz, pY, nY, d, ke) → wpY_strongest post (nI q, nI n, ob, dc, dn, hd, st, sz, pY, nY, d, ke) v1 v2 := fun post hP => by
      unfold wpY_strongest
      exact cY _ (br_f cc_n1 hP)
    exact X _ (Y _ ⟨rfl, cc_rel hn hq O D G⟩)
theorem i_vc_essential {k : Nat} {u : SX} {v : SY} (I : i_Rel k u v) (hk : k + 4 ≤ 2048) : wpX_essential (fun r u' => wpY_essential (fun r' v' => r' = r ∧ i_Rel (k + 4) u' v') v) u := by
  obtain ⟨n, q, ob, hd, st, sz, pX, nX, pY, nY, dc, dn, d, ke, rfl, rfl, hn, hq, O, D, G⟩ := I
  obtain ⟨d1, k1, B1, dX, kX, kY⟩ := cc_keep (dc := dc) (dn := dn) (ke := ke) (fd := nI q) (d := d) hn O G
  obtain ⟨a, d', aX, aY⟩ := cc_ess (dc := dc) (dn := dn) (ke := k1) (fd := nI q) hn O G n 0 0 d1 (by omega)
  have X : ∀ post : Int32 → SX → Prop, post a (nI n, nI q, ob, hd, st, sz, pX, nX, dc, dn, d', k1) → wpX_essential post (nI n, nI q, ob, hd, st, sz, pX, nX, dc, dn, d, ke)  := fun post hP => by
    unfold wpX_essential
    refine dX _ ?_
    refine kX _ ?_
    exact ⟨n + 1, aX _ hP⟩
  have Y : ∀ post : Int32 → SY → Prop, post a (nI q, nI n, ob, dc, dn, hd, st, sz, pY, nY, d', k1) → wpY_essential post (nI q, nI n, ob, dc, dn, hd, st, sz, pY, nY, d, ke)  := fun post hP => by
    unfold wpY_essential
    refine kY _ ?_
    exact ⟨n + 1, aY _ hP⟩
  exact X _ (Y _ ⟨rfl, cc_rel hn hq O D G⟩)
theorem i_vc_influence {k : Nat} {u : SX} {v : SY} (I : i_Rel k u v) (hk : k + 4 ≤ 2048) (v1 : Int32) : wpX_influence (fun r u' => wpY_influence (fun r' v' => r' = r ∧ i_Rel (k + 4) u' v') v v1) u v1 := by
  obtain ⟨n, q, ob, hd, st, sz, pX, nX, pY, nY, dc, dn, d, ke, rfl, rfl, hn, hq, O, D, G⟩ := I
  rcases cc_claim (ob := ob) (hd := hd) (st := st) (sz := sz) (pY := pY) (nY := nY) (dc := dc) (dn := dn) (d := d) (ke := ke) (fd := nI q) (rc := nI n) v1 with ⟨j, hj, rfl, cX, cY⟩ | ⟨cX, cY⟩
  · obtain ⟨d1, k1, B1, dX, kX, kY⟩ := cc_keep (dc := dc) (dn := dn) (ke := ke) (fd := nI q) (d := d) hn O G
    obtain ⟨d', B', eX, eY⟩ := cc_derive (dc := dc) (dn := dn) (ke := k1) (fd := nI q) (d := d1) (v := 0) (-1) (nI j) (by omega) hn O G
    obtain ⟨a, aX, aY⟩ := cc_oth (ob := ob) (hd := hd) (st := st) (sz := sz) (pX := pX) (nX := nX) (pY := pY) (nY := nY) (dc := dc) (dn := dn) (d := d') (ke := k1) (fd := nI q) (rc := nI n)
    have X : ∀ post : Int32 → SX → Prop, post a (nI n, nI q, ob, hd, st, sz, pX, nX, dc, dn, d', k1) → wpX_influence post (nI n, nI q, ob, hd, st, sz, pX, nX, dc, dn, d, ke) (nI j) := fun post hP => by
      unfold wpX_influence
      refine cX _ (br_f cc_n1 (dX _ ?_))
      refine kX _ ?_
      refine eX _ ?_
      exact aX _ hP
    have Y : ∀ post : Int32 → SY → Prop, post a (nI q, nI n, ob, dc, dn, hd, st, sz, pY, nY, d', k1) → wpY_influence post (nI q, nI n, ob, dc, dn, hd, st, sz, pY, nY, d, ke) (nI j) := fun post hP => by
      unfold wpY_influence
      refine cY _ (br_t rfl (kY _ ?_))
      refine eY _ ?_
      exact aY _ hP
    exact X _ (Y _ ⟨rfl, cc_rel hn hq O D G⟩)
  · have X : ∀ post : Int32 → SX → Prop, post (-1) (nI n, nI q, ob, hd, st, sz, pX, nX, dc, dn, d, ke) → wpX_influence post (nI n, nI q, ob, hd, st, sz, pX, nX, dc, dn, d, ke) v1 := fun post hP => by
      unfold wpX_influence
      exact cX _ (br_t rfl hP)
    have Y : ∀ post : Int32 → SY → Prop, post (-1) (nI q, nI n, ob, dc, dn, hd, st, sz, pY, nY, d, ke) → wpY_influence post (nI q, nI n, ob, dc, dn, hd, st, sz, pY, nY, d, ke) v1 := fun post hP => by
      unfold wpY_influence
      exact cY _ (br_f cc_n1 hP)
    exact X _ (Y _ ⟨rfl, cc_rel hn hq O D G⟩)
