/-! the questions -/
theorem i_vc_folds {k : Nat} {u : SX} {v : SY} (I : i_Rel k u v) (hk : k + 3 ≤ 1537) : wpX_folds (fun r u' => wpY_folds (fun r' v' => r' = r ∧ i_Rel (k + 3) u' v') v) u := by
  obtain ⟨g, n, F, B, M, C, A, hl, nu, dig, par, opn, tp, my, be, bm, bc, wm, wb, sg, op, ma, bM, rfl, rfl, hg, hn, hA, hN⟩ := I
  unfold wpX_folds
  refine rx_v hA hg hn (Or.inl rfl) (fun dig par opn => ?_)
  rw [rf_Qm1]
  unfold wpY_folds
  refine ry_e hA hN hg hn (Or.inl (by decide)) (fun tp my be bm bc wm wb sg op ma bM hB hW => ?_)
  exact ⟨hB.1, ri_mk hg hn hA hN⟩
theorem i_vc_best {k : Nat} {u : SX} {v : SY} (I : i_Rel k u v) (hk : k + 3 ≤ 1537) : wpX_best (fun r u' => wpY_best (fun r' v' => r' = r ∧ i_Rel (k + 3) u' v') v) u := by
  obtain ⟨g, n, F, B, M, C, A, hl, nu, dig, par, opn, tp, my, be, bm, bc, wm, wb, sg, op, ma, bM, rfl, rfl, hg, hn, hA, hN⟩ := I
  have h31 := rf_p31 hn
  unfold wpX_best
  refine rx_v hA hg hn (Or.inl rfl) (fun dig par opn => ?_)
  rw [rf_Qm1]
  unfold wpY_best
  refine ry_e hA hN hg hn (Or.inl (by decide)) (fun tp my be bm bc wm wb sg op ma bM hB hW => ?_)
  have hle := rf_ac_le (rf_ok (rf_ft A g) (rf_H hl) n) (rf_sc A nu n) (3 ^ n)
  by_cases m0 : (rf_ac (rf_ok (rf_ft A g) (rf_H hl) n) (rf_sc A nu n) (3 ^ n)).1 = 0
  · exact br_t (by rw [hB.1, m0]; rfl) ⟨(rf_ac_m m0).1.symm, ri_mk hg hn hA hN⟩
  · exact br_f (by rw [hB.1]; exact nI_ne0 (by omega) (by omega)) ⟨(hB.2.2 (by omega)).1, ri_mk hg hn hA hN⟩
theorem i_vc_bestFolds {k : Nat} {u : SX} {v : SY} (I : i_Rel k u v) (hk : k + 3 ≤ 1537) : wpX_bestFolds (fun r u' => wpY_bestFolds (fun r' v' => r' = r ∧ i_Rel (k + 3) u' v') v) u := by
  obtain ⟨g, n, F, B, M, C, A, hl, nu, dig, par, opn, tp, my, be, bm, bc, wm, wb, sg, op, ma, bM, rfl, rfl, hg, hn, hA, hN⟩ := I
  unfold wpX_bestFolds
  refine rx_v hA hg hn (Or.inl rfl) (fun dig par opn => ?_)
  rw [rf_Qm1]
  unfold wpY_bestFolds
  refine ry_e hA hN hg hn (Or.inl (by decide)) (fun tp my be bm bc wm wb sg op ma bM hB hW => ?_)
  exact ⟨hB.2.1, ri_mk hg hn hA hN⟩
theorem i_vc_bestCode {k : Nat} {u : SX} {v : SY} (I : i_Rel k u v) (hk : k + 3 ≤ 1537) : wpX_bestCode (fun r u' => wpY_bestCode (fun r' v' => r' = r ∧ i_Rel (k + 3) u' v') v) u := by
  obtain ⟨g, n, F, B, M, C, A, hl, nu, dig, par, opn, tp, my, be, bm, bc, wm, wb, sg, op, ma, bM, rfl, rfl, hg, hn, hA, hN⟩ := I
  have h31 := rf_p31 hn
  unfold wpX_bestCode
  refine rx_v hA hg hn (Or.inl rfl) (fun dig par opn => ?_)
  rw [rf_Qm1]
  unfold wpY_bestCode
  refine ry_e hA hN hg hn (Or.inl (by decide)) (fun tp my be bm bc wm wb sg op ma bM hB hW => ?_)
  have hle := rf_ac_le (rf_ok (rf_ft A g) (rf_H hl) n) (rf_sc A nu n) (3 ^ n)
  by_cases m0 : (rf_ac (rf_ok (rf_ft A g) (rf_H hl) n) (rf_sc A nu n) (3 ^ n)).1 = 0
  · exact br_t (by rw [hB.1, m0]; rfl) ⟨(rf_ac_m m0).2.2.symm, ri_mk hg hn hA hN⟩
  · exact br_f (by rw [hB.1]; exact nI_ne0 (by omega) (by omega)) ⟨(hB.2.2 (by omega)).2.1, ri_mk hg hn hA hN⟩
theorem i_vc_bestWith {k : Nat} {u : SX} {v : SY} (I : i_Rel k u v) (hk : k + 3 ≤ 1537) (v1 : Int32) (v2 : Int32) : wpX_bestWith (fun r u' => wpY_bestWith (fun r' v' => r' = r ∧ i_Rel (k + 3) u' v') v v1 v2) u v1 v2 := by
  have J := I
  obtain ⟨g, n, F, B, M, C, A, hl, nu, dig, par, opn, tp, my, be, bm, bc, wm, wb, sg, op, ma, bM, rfl, rfl, hg, hn, hA, hN⟩ := I
  have h31 := rf_p31 hn
  unfold wpX_bestWith
  rcases rf_ix v1 n (by omega) with h | ⟨i, hi, rfl⟩
  · refine rx_ip0 h (br_t rfl ?_)
    unfold wpY_bestWith
    exact ry_b1 h (br_f (by decide) ⟨rfl, J⟩)
  · refine rx_ip1 hn hi (br_f (by decide) ?_)
    rcases rf_ix v2 n (by omega) with h | ⟨j, hj, rfl⟩
    · refine rx_ip0 h (br_t rfl ?_)
      unfold wpY_bestWith
      exact ry_b0 hn hi (br_t rfl (ry_b1 h (br_f (by decide) ⟨rfl, J⟩)))
    · refine rx_ip1 hn hj (br_f (by decide) ?_)
      refine rx_v hA hg hn (Or.inr ⟨i, hi, rfl⟩) (fun dig par opn => ?_)
      rw [rf_Qn _ _ _ (by omega)]
      unfold wpY_bestWith
      refine ry_b0 hn hi (br_t rfl (ry_b0 hn hj (br_t rfl ?_)))
      refine ry_e hA hN hg hn (Or.inr ⟨i, hi, rfl⟩) (fun tp my be bm bc wm wb sg op ma bM hB hW => ?_)
      have hle := rf_ac_le (rf_QW (rf_ft A g) (rf_H hl) n (nI i) (nI j)) (rf_sc A nu n) (3 ^ n)
      by_cases m0 : (rf_ac (rf_QW (rf_ft A g) (rf_H hl) n (nI i) (nI j)) (rf_sc A nu n) (3 ^ n)).1 = 0
      · exact br_t (by rw [hW.1, m0]; rfl) ⟨(rf_ac_m m0).1.symm, ri_mk hg hn hA hN⟩
      · exact br_f (by rw [hW.1]; exact nI_ne0 (by omega) (by omega)) ⟨hW.2 (by omega), ri_mk hg hn hA hN⟩
theorem i_vc_foldsWith {k : Nat} {u : SX} {v : SY} (I : i_Rel k u v) (hk : k + 3 ≤ 1537) (v1 : Int32) (v2 : Int32) : wpX_foldsWith (fun r u' => wpY_foldsWith (fun r' v' => r' = r ∧ i_Rel (k + 3) u' v') v v1 v2) u v1 v2 := by
  have J := I
  obtain ⟨g, n, F, B, M, C, A, hl, nu, dig, par, opn, tp, my, be, bm, bc, wm, wb, sg, op, ma, bM, rfl, rfl, hg, hn, hA, hN⟩ := I
  unfold wpX_foldsWith
  rcases rf_ix v1 n (by omega) with h | ⟨i, hi, rfl⟩
  · refine rx_ip0 h (br_t rfl ?_)
    unfold wpY_foldsWith
    exact ry_b1 h (br_f (by decide) ⟨rfl, J⟩)
  · refine rx_ip1 hn hi (br_f (by decide) ?_)
    rcases rf_ix v2 n (by omega) with h | ⟨j, hj, rfl⟩
    · refine rx_ip0 h (br_t rfl ?_)
      unfold wpY_foldsWith
      exact ry_b0 hn hi (br_t rfl (ry_b1 h (br_f (by decide) ⟨rfl, J⟩)))
    · refine rx_ip1 hn hj (br_f (by decide) ?_)
      refine rx_v hA hg hn (Or.inr ⟨i, hi, rfl⟩) (fun dig par opn => ?_)
      rw [rf_Qn _ _ _ (by omega)]
      unfold wpY_foldsWith
      refine ry_b0 hn hi (br_t rfl (ry_b0 hn hj (br_t rfl ?_)))
      refine ry_e hA hN hg hn (Or.inr ⟨i, hi, rfl⟩) (fun tp my be bm bc wm wb sg op ma bM hB hW => ?_)
      exact ⟨hW.1, ri_mk hg hn hA hN⟩
theorem i_vc_partner {k : Nat} {u : SX} {v : SY} (I : i_Rel k u v) (hk : k + 3 ≤ 1537) (v1 : Int32) : wpX_partner (fun r u' => wpY_partner (fun r' v' => r' = r ∧ i_Rel (k + 3) u' v') v v1) u v1 := by
  have J := I
  obtain ⟨g, n, F, B, M, C, A, hl, nu, dig, par, opn, tp, my, be, bm, bc, wm, wb, sg, op, ma, bM, rfl, rfl, hg, hn, hA, hN⟩ := I
  have h31 := rf_p31 hn
  have hle := rf_ac_le (rf_ok (rf_ft A g) (rf_H hl) n) (rf_sc A nu n) (3 ^ n)
  unfold wpX_partner
  rcases rf_ix v1 n (by omega) with h | ⟨i, hi, rfl⟩
  · refine rx_ip0 h (br_t rfl ?_)
    unfold wpY_partner
    exact ry_b1 h (br_f (by decide) ⟨rfl, J⟩)
  · have ec : (nI i).toNatClampNeg = i := nI_clamp (by omega)
    have vp : vp_in (nI i) 11 := vp_in_nI (by omega) (by omega)
    have vp2 : vp_in (nI i) 12 := vp_in_nI (by omega) (by omega)
    refine rx_ip1 hn hi (br_f (by decide) ?_)
    refine rx_v hA hg hn (Or.inl rfl) (fun dig par opn => ?_)
    rw [rf_Qm1]
    by_cases m0 : (rf_ac (rf_ok (rf_ft A g) (rf_H hl) n) (rf_sc A nu n) (3 ^ n)).1 = 0
    · refine br_t (rf_ac_m m0).2.2 ?_
      unfold wpY_partner
      refine ry_b0 hn hi (br_t rfl ?_)
      refine ry_e hA hN hg hn (Or.inl (by decide)) (fun tp my be bm bc wm wb sg op ma bM hB hW => ?_)
      exact br_t (by rw [hB.1, m0]; rfl) ⟨rfl, ri_mk hg hn hA hN⟩
    · obtain ⟨c0, hc0, hok, e0⟩ := rf_ac_b (Q := rf_ok (rf_ft A g) (rf_H hl) n) (sc := rf_sc A nu n) (fun c => rf_sc_b hN hn) (3 ^ n) (by omega)
      refine br_f (by rw [e0]; exact rf_ne1 (by omega)) ?_
      have hokT := rf_okT hok
      have hFo := rf_Fo_of hok.1 hok.2
      have hY : ∀ (r : Int32) (u' : SX), (∀ bM : Nat → Int32, bM i = rf_mt (rf_dg n c0) n i → (((0 : Int32) ≤ bM i → r = bM i) ∧ (¬ (0 : Int32) ≤ bM i → r = -2))) → (∀ tp my be bm bc wm wb sg op ma bM, i_Rel (k + 3) u' (nI g, nI n, tp, my, be, bm, bc, wm, wb, A, hl, nu, sg, op, ma, bM)) → wpY_partner (fun r' v' => r' = r ∧ i_Rel (k + 3) u' v') (nI g, nI n, tp, my, be, bm, bc, wm, wb, A, hl, nu, sg, op, ma, bM) (nI i) := by
        intro r u' h1 h2
        unfold wpY_partner
        refine ry_b0 hn hi (br_t rfl ?_)
        refine ry_e hA hN hg hn (Or.inl (by decide)) (fun tp my be bm bc wm wb sg op ma bM hB hW => ?_)
        obtain ⟨_, _, c1, hc1, hok1, e1, hbm⟩ := hB.2.2 (by omega)
        have e2 : c1 = c0 := (nI_eq (by omega) (by omega)).mp (e1.symm.trans e0)
        rw [e2] at hbm
        have h3 := h1 bM (hbm i hi)
        refine br_f (by rw [hB.1]; exact nI_ne0 (by omega) (by omega)) ⟨vp2, ?_⟩
        rw [ec]
        by_cases z : (0 : Int32) ≤ bM i
        · exact br_t z ⟨vp2, (h3.1 z).symm, h2 _ _ _ _ _ _ _ _ _ _ _⟩
        · exact br_f z ⟨(h3.2 z).symm, h2 _ _ _ _ _ _ _ _ _ _ _⟩
      rw [e0]
      refine rx_f (H := rf_T) hA hg hn hc0 (Or.inl ⟨rfl, fun _ _ => trivial⟩) (fun dig par opn hd hok' hpar => ⟨vp, ?_⟩) (fun s dig par opn hfs => (rf_fs_nok hfs hokT).elim)
      rw [ec, hpar i hi]
      rcases rf_mtv hFo hi with hm | ⟨j, hj, hm⟩
      · rw [hm]
        refine br_t rfl (hY _ _ (fun bM hb => ?_) (fun _ _ _ _ _ _ _ _ _ _ _ => ri_mk hg hn hA hN))
        rw [hb, hm]
        exact br_f (by decide) rfl
      · rw [hm]
        refine br_f (rf_ne1 (by omega)) ⟨vp, hY _ _ (fun bM hb => ?_) (fun _ _ _ _ _ _ _ _ _ _ _ => ri_mk hg hn hA hN)⟩
        rw [hb, hm]
        exact br_t (nI_pos' (by omega)) rfl
