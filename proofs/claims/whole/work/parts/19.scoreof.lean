theorem i_vc_scoreOf {k : Nat} {u : SX} {v : SY} (I : i_Rel k u v) (hk : k + 3 ≤ 1537) (v1 : Int32) : wpX_scoreOf (fun r u' => wpY_scoreOf (fun r' v' => r' = r ∧ i_Rel (k + 3) u' v') v v1) u v1 := by
  have J := I
  obtain ⟨g, n, F, B, M, C, A, hl, nu, dig, par, opn, tp, my, be, bm, bc, wm, wb, sg, op, ma, bM, rfl, rfl, hg, hn, hA, hN⟩ := I
  have h31 := rf_p31 hn
  have hbad : ∀ v1 : Int32, (v1 < 0 ∨ nI (3 ^ n) ≤ v1) → wpY_scoreOf (fun r' v' => r' = -1000 ∧ i_Rel (k + 3) (nI g, nI n, F, B, M, C, A, hl, nu, dig, par, opn) v') (nI g, nI n, tp, my, be, bm, bc, wm, wb, A, hl, nu, sg, op, ma, bM) v1 := by
    intro v1 h
    have hno : ∀ c, c < 3 ^ n → v1 = nI c → False := by
      intro c hc e
      rcases h with h | h
      · rw [e] at h; exact nI_pos (by omega) h
      · rw [e] at h; exact nI_ge hc (by omega) h
    exact ry_o hA hg hn (fun _ => ⟨rfl, J⟩) (fun c _ _ _ _ hc e _ => (hno c hc e).elim) (fun c _ _ _ _ hc e _ => (hno c hc e).elim)
  rcases pk_ix v1 (n := 3 ^ n) (by omega) with h | h | ⟨c, hc, rfl⟩
  · exact br_t h (hbad v1 (Or.inl h))
  · by_cases h0 : v1 < 0
    · exact br_t h0 (hbad v1 (Or.inl h0))
    · refine br_f h0 (rx_t hn ?_)
      exact br_f (Int32.not_lt.mpr h) (hbad v1 (Or.inr h))
  · have hun : ∀ c', c' < 3 ^ n → nI c = nI c' → c' = c := fun c' hc' e => ((nI_eq (by omega) (by omega)).mp e).symm
    have hnb : ¬ (nI c < 0 ∨ nI (3 ^ n) ≤ nI c) := by
      intro z
      rcases z with z | z
      · exact nI_pos (by omega) z
      · exact nI_ge hc (by omega) z
    refine br_f (nI_pos (by omega)) (rx_t hn ?_)
    refine br_t (nI_lt hc (by omega)) ?_
    refine rx_f (H := rf_T) hA hg hn hc (Or.inl ⟨rfl, fun _ _ => trivial⟩) (fun dig par opn hd hok hpar => ?_) (fun s dig par opn hfs => ?_)
    · refine br_t rfl ?_
      refine rx_s hA (rf_Fo_of hok.1 hok.2) hn hd (rf_dg3 n c) hpar ?_
      refine ry_o hA hg hn (fun z => (hnb z).elim) (fun c' _ _ _ _ hc' e _ => ?_) (fun c' _ _ _ _ hc' e hno => ?_)
      · rw [hun c' hc' e]
        exact ⟨rfl, ri_mk hg hn hA hN⟩
      · rw [hun c' hc' e] at hno
        exact (hno hok).elim
    · have hs := hfs.1
      refine br_f (fun z => ?_) ?_
      · have z2 := (nI_eq (by omega) (by omega)).mp z
        omega
      · refine ry_o hA hg hn (fun z => (hnb z).elim) (fun c' _ _ _ _ hc' e hok => ?_) (fun c' _ _ _ _ hc' e hno => ⟨rfl, ri_mk hg hn hA hN⟩)
        rw [hun c' hc' e] at hok
        exact (rf_fs_nok hfs hok).elim
