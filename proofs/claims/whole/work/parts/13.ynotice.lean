/-! the reference notices a fold -/
def rf_QW (ft H : Nat → Nat → Prop) (n : Nat) (pi pj : Int32) (c : Nat) : Prop := rf_ok ft H n c ∧ (¬ pj ≤ pi ∧ rf_mt (rf_dg n c) n pi.toNatClampNeg = pj)
section
variable {g n : Nat} {tp my be bm bc wm wb : Int32} {A hl nu sg op ma bM : Nat → Int32}
theorem ry_137 {post : SY → Prop} {pi pj : Int32} {v : Nat} (hN : rf_Nu nu) (hn : n ≤ 11) (hq : pj ≤ pi ∨ ∃ i, i < n ∧ pi = nI i) (hv : v < 3 ^ n) (hok : rf_ok (rf_ft A g) (rf_H hl) n v) (hma : ∀ q, q < n → ma q = rf_mt (rf_dg n v) n q)
    (hW : rf_YW (rf_QW (rf_ft A g) (rf_H hl) n pi pj) (rf_sc A nu n) v wm wb)
    (kY : ∀ wm' wb', rf_YW (rf_QW (rf_ft A g) (rf_H hl) n pi pj) (rf_sc A nu n) (v + 1) wm' wb' → post (nI g, nI n, tp, my, be, bm, bc, wm', wb', A, hl, nu, sg, op, ma, bM)) :
    wY_notice_137 post pi pj (rf_sc A nu n v) (nI g) (nI n) tp my be bm bc wm wb A hl nu sg op ma bM := by
  have h31 := rf_p31 hn
  have hsk : ¬ rf_QW (rf_ft A g) (rf_H hl) n pi pj v → rf_YW (rf_QW (rf_ft A g) (rf_H hl) n pi pj) (rf_sc A nu n) (v + 1) wm wb := by
    intro z
    refine rf_YW_s hW (by omega) (fun c h1 h2 => ?_)
    have e : c = v := by omega
    rw [e]; exact z
  by_cases c1 : pj ≤ pi
  · exact br_t c1 (kY _ _ (hsk (fun z => z.2.1 c1)))
  · obtain ⟨i, hi, e⟩ := hq.resolve_left c1
    have em : ma pi.toNatClampNeg = rf_mt (rf_dg n v) n pi.toNatClampNeg := by
      rw [e, nI_clamp (by omega)]; exact hma i hi
    refine br_f c1 ⟨by rw [e]; exact vp_in_nI (by omega) (by omega), ?_⟩
    rw [em]
    by_cases c2 : rf_mt (rf_dg n v) n pi.toNatClampNeg = pj
    · refine br_t c2 ?_
      have hQ : rf_QW (rf_ft A g) (rf_H hl) n pi pj v := ⟨hok, c1, c2⟩
      have hle := rf_ac_le (rf_QW (rf_ft A g) (rf_H hl) n pi pj) (rf_sc A nu n) v
      by_cases m0 : (rf_ac (rf_QW (rf_ft A g) (rf_H hl) n pi pj) (rf_sc A nu n) v).1 = 0
      · refine br_t (by rw [hW.1, m0]; rfl) (nm_e (kY _ _ (rf_YW_t hW hQ ?_)))
        rw [(rf_ac_m m0).1]
        exact rf_sc_b hN hn
      · refine br_f (by rw [hW.1]; exact nI_ne0 (by omega) (by omega)) ?_
        by_cases c3 : rf_sc A nu n v ≤ wb
        · exact br_t c3 (nm_e (kY _ _ (rf_YW_n hW hQ (by omega) (Int32.not_lt.mpr c3))))
        · refine br_f c3 (nm_e (kY _ _ (rf_YW_t hW hQ ?_)))
          rw [← hW.2 (by omega)]
          exact Int32.not_le.mp c3
    · exact br_f c2 (kY _ _ (hsk (fun z => c2 z.2.2)))
theorem ry_92 {post : SY → Prop} {pi pj x3 : Int32} (kY : ∀ bM', (∀ q, q < 12 → bM' q = ma q) → wY_notice_119 post pi pj x3 (nI g) (nI n) tp my be bm bc wm wb A hl nu sg op ma bM') :
    ∀ t k bM, k + t = 12 → (∀ q, q < k → bM q = ma q) → wY_notice_92 post pi pj x3 (nI g) (nI n) tp my be bm bc wm wb (t + 1) (nI k) A hl nu sg op ma bM := by
  intro t
  induction t with
  | zero =>
    intro k bM hk h
    have e : k = 12 := by omega
    rw [e] at h ⊢
    exact br_t (by decide) (kY bM h)
  | succ t ih =>
    intro k bM hk h
    refine br_f (nI_ge (b := 12) (by omega) (by omega)) ⟨vp_in_nI (by omega) (by omega), vp_in_nI (by omega) (by omega), fun bM' e => nm_r (nI_1 k) (ih (k + 1) bM' (by omega) (fun q hq => ?_))⟩
    rw [nI_clamp (by omega)] at e
    rw [e]
    by_cases hqk : q = k
    · rw [hqk, pk_us]
    · rw [pk_un hqk]; exact h q (by omega)
theorem ry_47 {post : SY → Prop} {pi pj : Int32} {v : Nat} (hN : rf_Nu nu) (hn : n ≤ 11) (hq : pj ≤ pi ∨ ∃ i, i < n ∧ pi = nI i) (hv : v < 3 ^ n) (hok : rf_ok (rf_ft A g) (rf_H hl) n v) (hma : ∀ q, q < n → ma q = rf_mt (rf_dg n v) n q)
    (hB : rf_YB (rf_ft A g) (rf_H hl) n (rf_sc A nu n) v my be bm bc bM) (hW : rf_YW (rf_QW (rf_ft A g) (rf_H hl) n pi pj) (rf_sc A nu n) v wm wb)
    (kY : ∀ my' be' bm' bc' wm' wb' bM', rf_YB (rf_ft A g) (rf_H hl) n (rf_sc A nu n) (v + 1) my' be' bm' bc' bM' → rf_YW (rf_QW (rf_ft A g) (rf_H hl) n pi pj) (rf_sc A nu n) (v + 1) wm' wb' → post (nI g, nI n, tp, my', be', bm', bc', wm', wb', A, hl, nu, sg, op, ma, bM')) :
    wY_notice_47 post pi pj (rf_sc A nu n v) (nI v) (nI g) (nI n) tp my be bm bc wm wb A hl nu sg op ma bM := by
  have h31 := rf_p31 hn
  have hle := rf_ac_le (rf_ok (rf_ft A g) (rf_H hl) n) (rf_sc A nu n) v
  have e1 : my + 1 = nI ((rf_ac (rf_ok (rf_ft A g) (rf_H hl) n) (rf_sc A nu n) v).1 + 1) := by rw [hB.1, nI_1]
  have W73 : (rf_ac (rf_ok (rf_ft A g) (rf_H hl) n) (rf_sc A nu n) v).2.1 < rf_sc A nu n v → wY_notice_73 post pi pj (rf_sc A nu n v) (nI v) (nI g) (nI n) tp (my + 1) be bm bc wm wb A hl nu sg op ma bM := by
    intro hlt
    refine ⟨13, ry_92 (fun bM' hb => ?_) 12 0 bM (by omega) (fun q hq => by omega)⟩
    refine br_t rfl (nm_e ?_)
    refine ry_137 hN hn hq hv hok hma hW (fun wm' wb' hW' => kY _ _ _ _ _ _ _ (rf_YB_t hB hv hok hlt (fun q hq => ?_)) hW')
    rw [hb q (by omega)]; exact hma q hq
  refine nm_e ?_
  by_cases m0 : (rf_ac (rf_ok (rf_ft A g) (rf_H hl) n) (rf_sc A nu n) v).1 = 0
  · refine br_t (by rw [e1, m0]; rfl) (W73 ?_)
    rw [(rf_ac_m m0).1]
    exact rf_sc_b hN hn
  · have hp : 0 < (rf_ac (rf_ok (rf_ft A g) (rf_H hl) n) (rf_sc A nu n) v).1 := by omega
    refine br_f (fun z => ?_) ?_
    · rw [e1] at z
      have z2 := (nI_eq (b := 1) (by omega) (by omega)).mp z
      omega
    · by_cases c1 : rf_sc A nu n v ≤ be
      · have c1' : ¬ be < rf_sc A nu n v := Int32.not_lt.mpr c1
        refine br_t c1 ?_
        by_cases c2 : rf_sc A nu n v = be
        · refine br_t c2 (nm_e ?_)
          exact ry_137 hN hn hq hv hok hma hW (fun wm' wb' hW' => kY _ _ _ _ _ _ _ (rf_YB_e hB hok hp c1' c2) hW')
        · refine br_f c2 ?_
          exact ry_137 hN hn hq hv hok hma hW (fun wm' wb' hW' => kY _ _ _ _ _ _ _ (rf_YB_n hB hok hp c1' c2) hW')
      · refine br_f c1 (W73 ?_)
        rw [← (hB.2.2 hp).1]
        exact Int32.not_le.mp c1
theorem ry_11 {post : SY → Prop} {pi pj x3 : Int32} {d : Nat → Nat} (hn : n ≤ 11) (hd : ∀ q, q < n → d q < 3) (hsg : ∀ q, q < n → sg q = nI (d q))
    (kY : wY_notice_47 post pi pj x3 (nI (rf_vl d n)) (nI g) (nI n) tp my be bm bc wm wb A hl nu sg op ma bM) :
    ∀ t p, p + t = n → wY_notice_11 post pi pj x3 (nI g) (nI n) tp my be bm bc wm wb A hl nu sg op ma bM (t + 1) (nI (rf_vl d p)) (nI p) := by
  intro t
  induction t with
  | zero =>
    intro p hp
    have e : p = n := by omega
    subst e
    exact br_t (nI_le (Nat.le_refl _) (by omega)) kY
  | succ t ih =>
    intro p hp
    refine br_f (nI_ge (by omega) (by omega)) (br_f (nI_ge (b := 11) (by omega) (by omega)) ⟨vp_in_nI (by omega) (by omega), nm_r (e' := nI (rf_vl d (p + 1))) ?_ (nm_r (nI_1 p) (ih (p + 1) (by omega)))⟩)
    rw [nI_clamp (by omega), hsg p (by omega)]
    show nI 3 * nI (rf_vl d p) + nI (d p) = nI (3 * rf_vl d p + d p)
    rw [pk_mul, nI_add]
theorem ry_no {post : SY → Prop} {pi pj : Int32} {d : Nat → Nat} (hA : rf_Ba A) (hN : rf_Nu nu) (hn : n ≤ 11) (hq : pj ≤ pi ∨ ∃ i, i < n ∧ pi = nI i) (hd : ∀ q, q < n → d q < 3) (hSy : rf_Sy (rf_ft A g) (rf_H hl) d n) (he : rf_sk d n = []) (hS : ry_St d n tp sg op ma)
    (hB : rf_YB (rf_ft A g) (rf_H hl) n (rf_sc A nu n) (rf_vl d n) my be bm bc bM) (hW : rf_YW (rf_QW (rf_ft A g) (rf_H hl) n pi pj) (rf_sc A nu n) (rf_vl d n) wm wb)
    (kY : ∀ my' be' bm' bc' wm' wb' bM', rf_YB (rf_ft A g) (rf_H hl) n (rf_sc A nu n) (rf_vl d n + 1) my' be' bm' bc' bM' → rf_YW (rf_QW (rf_ft A g) (rf_H hl) n pi pj) (rf_sc A nu n) (rf_vl d n + 1) wm' wb' → post (nI g, nI n, tp, my', be', bm', bc', wm', wb', A, hl, nu, sg, op, ma, bM')) :
    wpY_notice post (nI g, nI n, tp, my, be, bm, bc, wm, wb, A, hl, nu, sg, op, ma, bM) pi pj := by
  have hv := rf_vl_lt n hd
  have hok := (rf_ok_vl (ft := rf_ft A g) (H := rf_H hl) hd).mpr ⟨hSy, he⟩
  have hma : ∀ q, q < n → ma q = rf_mt (rf_dg n (rf_vl d n)) n q := by
    intro q hq
    rw [(rf_cg n (rf_dg_vl hd)).2]
    exact hS.2.2.2 q hq
  unfold wpY_notice
  refine ry_s hA (rf_Fo_of hok.1 hok.2) hn hma ⟨n + 1, ?_⟩
  exact ry_11 hn hd hS.2.2.1 (ry_47 hN hn hq hv hok hma hB hW kY) n 0 (by omega)
end
