/-! push, pop, set, hold, tune, length, fits -/
theorem i_vc_push {k : Nat} {u : SX} {v : SY} (I : i_Rel k u v) (hk : k + 3 ≤ 1537) (v1 : Int32) : wpX_push (fun r u' => wpY_push (fun r' v' => r' = r ∧ i_Rel (k + 3) u' v') v v1) u v1 := by
  have J := I
  obtain ⟨g, n, F, B, M, C, A, hl, nu, dig, par, opn, tp, my, be, bm, bc, wm, wb, sg, op, ma, bM, rfl, rfl, hg, hn, hA, hN⟩ := I
  unfold wpX_push
  rcases rf_rg v1 3 (by omega) with h | ⟨h0, h3⟩ | ⟨x, hx, rfl⟩
  · refine br_t h (br_t rfl ?_)
    exact br_t h ⟨rfl, J⟩
  · refine rx_ib0 h0 h3 (br_t rfl ?_)
    exact br_f h0 (br_f h3 ⟨rfl, J⟩)
  · refine rx_ib1 hx (br_f (by decide) ?_)
    have y0 : ¬ nI x < 0 := nI_pos (by omega)
    have y3 : nI x ≤ 3 := nI_le (b := 3) hx (by omega)
    by_cases hs : n < 11
    · have ec : (nI n).toNatClampNeg = n := nI_clamp (by omega)
      have vp : vp_in (nI n) 11 := vp_in_nI hs (by omega)
      refine br_t (nI_lt (b := 11) hs (by omega)) ⟨vp, nm_e ⟨vp, nm_e (nm_r (nI_1 n) ?_)⟩⟩
      refine br_f y0 (br_t y3 (br_t (nI_le (b := 10) (by omega) (by omega)) ⟨vp, nm_e ⟨vp, nm_e (nm_r (nI_1 n) ⟨rfl, ?_⟩)⟩⟩))
      exact ri_mk hg (by omega) (rf_Ba_u hA (by omega)) hN
    · have e : n = 11 := by omega
      subst e
      exact br_f (by decide) (br_f y0 (br_t y3 (br_f (by decide) ⟨rfl, J⟩)))
theorem i_vc_pop {k : Nat} {u : SX} {v : SY} (I : i_Rel k u v) (hk : k + 3 ≤ 1537) : wpX_pop (fun r u' => wpY_pop (fun r' v' => r' = r ∧ i_Rel (k + 3) u' v') v) u := by
  have J := I
  obtain ⟨g, n, F, B, M, C, A, hl, nu, dig, par, opn, tp, my, be, bm, bc, wm, wb, sg, op, ma, bM, rfl, rfl, hg, hn, hA, hN⟩ := I
  cases n with
  | zero => exact br_f (by decide) (br_t rfl ⟨rfl, J⟩)
  | succ n =>
    have vp : vp_in (nI n) 11 := vp_in_nI (by omega) (by omega)
    refine br_t (nI_lt (a := 0) (by omega) (by omega)) (nm_r (nI_pred n) ⟨vp, ?_⟩)
    exact br_f (nI_ne0 (by omega) (by omega)) (nm_r (nI_pred n) ⟨vp, rfl, ri_mk hg (by omega) hA hN⟩)
theorem i_vc_set {k : Nat} {u : SX} {v : SY} (I : i_Rel k u v) (hk : k + 3 ≤ 1537) (v1 : Int32) (v2 : Int32) : wpX_set (fun r u' => wpY_set (fun r' v' => r' = r ∧ i_Rel (k + 3) u' v') v v1 v2) u v1 v2 := by
  have J := I
  obtain ⟨g, n, F, B, M, C, A, hl, nu, dig, par, opn, tp, my, be, bm, bc, wm, wb, sg, op, ma, bM, rfl, rfl, hg, hn, hA, hN⟩ := I
  unfold wpX_set
  rcases rf_ix v1 n (by omega) with h | ⟨i, hi, rfl⟩
  · refine rx_ip0 h (br_t rfl ?_)
    unfold wpY_set
    exact ry_b1 h (br_f (by decide) ⟨rfl, J⟩)
  · refine rx_ip1 hn hi (br_f (by decide) ?_)
    have vp : vp_in (nI i) 11 := vp_in_nI (by omega) (by omega)
    rcases rf_rg v2 3 (by omega) with h | ⟨h0, h3⟩ | ⟨x, hx, rfl⟩
    · refine br_t h (br_t rfl ?_)
      unfold wpY_set
      exact ry_b0 hn hi (br_t rfl (br_t h ⟨rfl, J⟩))
    · refine rx_ib0 h0 h3 (br_t rfl ?_)
      unfold wpY_set
      exact ry_b0 hn hi (br_t rfl (br_f h0 (br_f h3 ⟨rfl, J⟩)))
    · refine rx_ib1 hx (br_f (by decide) ⟨vp, nm_e ⟨vp, nm_e ?_⟩⟩)
      unfold wpY_set
      refine ry_b0 hn hi (br_t rfl (br_f (nI_pos (by omega)) (br_t (nI_le (b := 3) hx (by omega)) ⟨vp, nm_e ⟨vp, nm_e ⟨rfl, ?_⟩⟩⟩)))
      exact ri_mk hg hn (rf_Ba_u hA (by omega)) hN
theorem i_vc_hold {k : Nat} {u : SX} {v : SY} (I : i_Rel k u v) (hk : k + 3 ≤ 1537) (v1 : Int32) (v2 : Int32) : wpX_hold (fun r u' => wpY_hold (fun r' v' => r' = r ∧ i_Rel (k + 3) u' v') v v1 v2) u v1 v2 := by
  have J := I
  obtain ⟨g, n, F, B, M, C, A, hl, nu, dig, par, opn, tp, my, be, bm, bc, wm, wb, sg, op, ma, bM, rfl, rfl, hg, hn, hA, hN⟩ := I
  unfold wpX_hold
  rcases rf_ix v1 n (by omega) with h | ⟨i, hi, rfl⟩
  · refine rx_ip0 h (br_t rfl ?_)
    unfold wpY_hold
    exact ry_b1 h (br_f (by decide) ⟨rfl, J⟩)
  · refine rx_ip1 hn hi (br_f (by decide) ?_)
    have vp : vp_in (nI i) 11 := vp_in_nI (by omega) (by omega)
    by_cases h0 : v2 < 0
    · refine br_t h0 ?_
      unfold wpY_hold
      exact ry_b0 hn hi (br_t rfl (br_t h0 ⟨rfl, J⟩))
    · refine br_f h0 ?_
      by_cases h3 : v2 ≤ 3
      · refine br_t h3 ⟨vp, nm_e ⟨vp, nm_e ?_⟩⟩
        unfold wpY_hold
        exact ry_b0 hn hi (br_t rfl (br_f h0 (br_t h3 ⟨vp, nm_e ⟨vp, nm_e ⟨rfl, ri_mk hg hn hA hN⟩⟩⟩)))
      · refine br_f h3 ?_
        unfold wpY_hold
        exact ry_b0 hn hi (br_t rfl (br_f h0 (br_f h3 ⟨rfl, J⟩)))
theorem i_vc_tune {k : Nat} {u : SX} {v : SY} (I : i_Rel k u v) (hk : k + 3 ≤ 1537) (v1 : Int32) (v2 : Int32) : wpX_tune (fun r u' => wpY_tune (fun r' v' => r' = r ∧ i_Rel (k + 3) u' v') v v1 v2) u v1 v2 := by
  have J := I
  obtain ⟨g, n, F, B, M, C, A, hl, nu, dig, par, opn, tp, my, be, bm, bc, wm, wb, sg, op, ma, bM, rfl, rfl, hg, hn, hA, hN⟩ := I
  rcases rf_rg v1 5 (by omega) with h | ⟨h0, h5⟩ | ⟨i, hi, rfl⟩
  · exact br_t h (br_t h ⟨rfl, J⟩)
  · have h6 : ¬ v1 < 6 := by
      intro z
      obtain ⟨j, hj, rfl⟩ := nI_of h0
      have z2 := (nI_ltI (b := 6) hj (by omega)).mp z
      exact h5 (nI_le (by omega) (by omega))
    exact br_f h0 (br_f h6 (br_f h0 (br_f h5 ⟨rfl, J⟩)))
  · have y0 : ¬ nI i < 0 := nI_pos (by omega)
    have y6 : nI i < 6 := nI_lt (b := 6) (by omega) (by omega)
    have y5 : nI i ≤ 5 := nI_le (b := 5) hi (by omega)
    have vp : vp_in (nI i) 6 := vp_in_nI (by omega) (by omega)
    rcases rf_rg v2 20 (by omega) with h | ⟨h0, h3⟩ | ⟨x, hx, rfl⟩
    · exact br_f y0 (br_t y6 (br_t h (br_f y0 (br_t y5 (br_t h ⟨rfl, J⟩)))))
    · exact br_f y0 (br_t y6 (br_f h0 (br_f h3 (br_f y0 (br_t y5 (br_f h0 (br_f h3 ⟨rfl, J⟩)))))))
    · have x0 : ¬ nI x < 0 := nI_pos (by omega)
      have x3 : nI x ≤ 20 := nI_le (b := 20) hx (by omega)
      refine br_f y0 (br_t y6 (br_f x0 (br_t x3 ⟨vp, nm_e ⟨vp, nm_e ?_⟩⟩)))
      exact br_f y0 (br_t y5 (br_f x0 (br_t x3 ⟨vp, nm_e ⟨vp, nm_e ⟨rfl, ri_mk hg hn hA (rf_Nu_u hN hx)⟩⟩⟩)))
theorem i_vc_length {k : Nat} {u : SX} {v : SY} (I : i_Rel k u v) (hk : k + 3 ≤ 1537) : wpX_length (fun r => wpY_length (fun r' => r' = r ∧ i_Rel (k + 3) u v) v) u := by
  have J := I
  obtain ⟨g, n, F, B, M, C, A, hl, nu, dig, par, opn, tp, my, be, bm, bc, wm, wb, sg, op, ma, bM, rfl, rfl, hg, hn, hA, hN⟩ := I
  exact ⟨rfl, J⟩
theorem i_vc_fits {k : Nat} {u : SX} {v : SY} (I : i_Rel k u v) (hk : k + 3 ≤ 1537) (v1 : Int32) (v2 : Int32) : wpX_fits (fun r => wpY_fits (fun r' => r' = r ∧ i_Rel (k + 3) u v) v v1 v2) u v1 v2 := by
  have J := I
  obtain ⟨g, n, F, B, M, C, A, hl, nu, dig, par, opn, tp, my, be, bm, bc, wm, wb, sg, op, ma, bM, rfl, rfl, hg, hn, hA, hN⟩ := I
  unfold wpX_fits
  rcases rf_ix v1 n (by omega) with h | ⟨i, hi, rfl⟩
  · refine rx_ip0 h (br_t rfl ?_)
    unfold wpY_fits
    exact ry_b1 h (br_f (by decide) ⟨rfl, J⟩)
  · refine rx_ip1 hn hi (br_f (by decide) ?_)
    rcases rf_ix v2 n (by omega) with h | ⟨j, hj, rfl⟩
    · refine rx_ip0 h (br_t rfl ?_)
      unfold wpY_fits
      exact ry_b0 hn hi (br_t rfl (ry_b1 h (br_f (by decide) ⟨rfl, J⟩)))
    · refine rx_ip1 hn hj (br_f (by decide) ?_)
      refine rx_c hA hg (by omega) (by omega) (fun hf => br_f (by decide) ?_) (fun hf => br_t rfl ?_)
      · unfold wpY_fits
        refine ry_b0 hn hi (br_t rfl (ry_b0 hn hj (br_t rfl ?_)))
        exact ry_c hA hg (by omega) (by omega) (fun _ => br_f (by decide) ⟨rfl, J⟩) (fun z => absurd hf z)
      · unfold wpY_fits
        refine ry_b0 hn hi (br_t rfl (ry_b0 hn hj (br_t rfl ?_)))
        exact ry_c hA hg (by omega) (by omega) (fun z => absurd z hf) (fun _ => br_t rfl ⟨rfl, J⟩)
