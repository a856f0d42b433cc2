/-! the reference puts a digit, takes one back, looks for the next -/
section
variable {g n : Nat} {tp my be bm bc wm wb : Int32} {A hl nu sg op ma bM : Nat → Int32}
/-- the arrays of the reference as the first p digits d left them -/
def ry_St (d : Nat → Nat) (p : Nat) (tp : Int32) (sg op ma : Nat → Int32) : Prop :=
  tp = nI (rf_sk d p).length ∧ rf_ly op (rf_sk d p) ∧ (∀ q, q < p → sg q = nI (d q)) ∧ (∀ q, q < p → ma q = rf_mt d p q)
theorem ry_St_cg {d e : Nat → Nat} {p : Nat} (h : ∀ q, q < p → d q = e q) (hs : ry_St d p tp sg op ma) : ry_St e p tp sg op ma := by
  obtain ⟨a, b⟩ := rf_cg p h
  obtain ⟨h1, h2, h3, h4⟩ := hs
  refine ⟨by rw [← a]; exact h1, by rw [← a]; exact h2, fun q hq => by rw [← h q hq]; exact h3 q hq, fun q hq => by rw [← b]; exact h4 q hq⟩
theorem ry_put {post : Int32 → SY → Prop} {d : Nat → Nat} {p s : Nat} (hA : rf_Ba A) (hg : g ≤ 4) (hn : n ≤ 11) (hp : p < n) (hs : s < 3) (hS : ry_St d p tp sg op ma)
    (kY : ∀ tp' sg' op' ma', rf_vd (rf_ft A g) (rf_up d p s) p → ry_St (rf_up d p s) (p + 1) tp' sg' op' ma' → post 1 (nI g, nI n, tp', my, be, bm, bc, wm, wb, A, hl, nu, sg', op', ma', bM))
    (kN : ¬ rf_vd (rf_ft A g) (rf_up d p s) p → post 0 (nI g, nI n, tp, my, be, bm, bc, wm, wb, A, hl, nu, sg, op, ma, bM)) :
    wpY_put post (nI g, nI n, tp, my, be, bm, bc, wm, wb, A, hl, nu, sg, op, ma, bM) (nI p) (nI s) := by
  have hS' := ry_St_cg (fun q hq => (rf_up_b (d := d) (s := s) q hq).symm) hS
  have es : rf_up d p s p = s := rf_up_s
  revert kY kN hS' es
  generalize rf_up d p s = e
  intro kY kN hS' es
  obtain ⟨h1, h2, h3, h4⟩ := hS'
  have hlen := rf_lenp e p
  have ec : (nI p).toNatClampNeg = p := nI_clamp (by omega)
  have vp : vp_in (nI p) 12 := vp_in_nI (by omega) (by omega)
  have hsg : ∀ sg', sg' = upd sg (nI p).toNatClampNeg (nI s) → ∀ q, q < p + 1 → sg' q = nI (e q) := by
    intro sg' e9 q hq
    rw [e9, ec]
    by_cases hqp : q = p
    · rw [hqp, pk_us, es]
    · rw [pk_un hqp]; exact h3 q (by omega)
  by_cases c2 : s = 2
  · have c2' : e p = 2 := es.trans c2
    refine br_t (by rw [c2]; rfl) ?_
    cases hs : rf_sk e p with
    | nil =>
      rw [hs] at h1
      refine br_t (by rw [h1]; rfl) (kN (fun z => ?_))
      obtain ⟨i, st, e3, _⟩ := z c2'
      rw [hs] at e3
      exact absurd e3 (by simp)
    | cons i st =>
      have hi := (rf_A e p i st (by rw [hs]; exact List.suffix_refl _)).1
      rw [hs] at h1 h2 hlen
      have hl1 : st.length + 1 ≤ p := hlen
      have h1' : tp = nI (st.length + 1) := h1
      have ep : tp - 1 = nI st.length := by rw [h1']; exact nI_pred st.length
      have ecs : (nI st.length).toNatClampNeg = st.length := nI_clamp (by omega)
      refine br_f (by rw [h1']; exact nI_ne0 (by omega) (by omega)) ⟨by rw [ep]; exact vp_in_nI (by omega) (by omega), nm_r (e' := nI i) (by rw [ep, ecs]; exact h2.1) ?_⟩
      refine ry_c hA hg (by omega) (by omega) (fun hf => ?_) (fun hf => br_t rfl (kN (fun z => ?_)))
      · refine br_f (by decide) (nm_r ep ⟨vp_in_nI (by omega) (by omega), fun ma1 e1 => ⟨vp, fun ma2 e2 => ⟨vp, fun sg' e3 => kY _ _ _ _ (fun _ => ⟨i, st, hs, hf⟩) ?_⟩⟩⟩)
        have es' : rf_sk e (p + 1) = st := by rw [rf_sk2 c2', hs]; rfl
        refine ⟨by rw [es'], by rw [es']; exact h2.2, hsg sg' e3, fun q hq => ?_⟩
        rw [nI_clamp (by omega)] at e1
        rw [ec] at e2
        rw [e2, e1, rf_mt2 c2' hs]
        by_cases hqp : q = p
        · rw [hqp, pk_us, pk_us]
        · rw [pk_un hqp, pk_un hqp]
          by_cases hqi : q = i
          · rw [hqi, pk_us, pk_us]
          · rw [pk_un hqi, pk_un hqi]; exact h4 q (by omega)
      · obtain ⟨i', st', e3, hf'⟩ := z c2'
        rw [hs] at e3
        injection e3 with e4 _
        rw [← e4] at hf'
        exact hf hf'
  · have c2' : e p ≠ 2 := by rw [es]; exact c2
    refine br_f (fun z => c2 ((nI_eq (b := 2) (by omega) (by omega)).mp z)) ⟨vp, fun ma1 e1 => ?_⟩
    rw [ec] at e1
    have hm : ∀ q, q < p + 1 → ma1 q = rf_mt e (p + 1) q := by
      intro q hq
      rw [e1, rf_mt0 c2']
      by_cases hqp : q = p
      · rw [hqp, pk_us, pk_us]
      · rw [pk_un hqp, pk_un hqp]; exact h4 q (by omega)
    by_cases c1 : s = 1
    · have c1' : e p = 1 := es.trans c1
      refine br_t (by rw [c1]; rfl) ⟨by rw [h1]; exact vp_in_nI (by omega) (by omega), fun op1 e2 => nm_r (e' := nI ((rf_sk e p).length + 1)) (by rw [h1, nI_1]) ⟨vp, fun sg' e3 => kY _ _ _ _ (fun z => absurd z c2') ?_⟩⟩
      rw [h1, nI_clamp (by omega)] at e2
      refine ⟨by rw [rf_sk1 c1']; rfl, by rw [rf_sk1 c1', e2]; exact rf_ly_p h2, hsg sg' e3, hm⟩
    · have c1' : e p ≠ 1 := by rw [es]; exact c1
      refine br_f (fun z => c1 ((nI_eq (b := 1) (by omega) (by omega)).mp z)) ⟨vp, fun sg' e3 => kY _ _ _ _ (fun z => absurd z c2') ?_⟩
      refine ⟨by rw [rf_sk0 c1' c2']; exact h1, by rw [rf_sk0 c1' c2']; exact h2, hsg sg' e3, hm⟩
theorem ry_take {post : SY → Prop} {d : Nat → Nat} {p : Nat} (hn : n ≤ 11) (hp : p < n) (hd3 : ∀ q, q < p + 1 → d q < 3) (hv : ∀ q, q < p + 1 → d q = 2 → ∃ i st, rf_sk d q = i :: st) (hS : ry_St d (p + 1) tp sg op ma)
    (kY : ∀ tp' op' ma', ry_St d p tp' sg op' ma' → post (nI g, nI n, tp', my, be, bm, bc, wm, wb, A, hl, nu, sg, op', ma', bM)) :
    wpY_take post (nI g, nI n, tp, my, be, bm, bc, wm, wb, A, hl, nu, sg, op, ma, bM) (nI p) := by
  obtain ⟨h1, h2, h3, h4⟩ := hS
  have ec : (nI p).toNatClampNeg = p := nI_clamp (by omega)
  have vp : vp_in (nI p) 12 := vp_in_nI (by omega) (by omega)
  have esg : sg (nI p).toNatClampNeg = nI (d p) := by rw [ec]; exact h3 p (by omega)
  have hlen := rf_lenp d (p + 1)
  have h33 := hd3 p (by omega)
  have n1 : d p ≠ 1 → ¬ sg (nI p).toNatClampNeg = 1 := fun z y => z ((nI_eq (b := 1) (by omega) (by omega)).mp (esg.symm.trans y))
  have n2 : d p ≠ 2 → ¬ sg (nI p).toNatClampNeg = 2 := fun z y => z ((nI_eq (b := 2) (by omega) (by omega)).mp (esg.symm.trans y))
  have hm0 : d p ≠ 2 → ∀ q, q < p → ma q = rf_mt d p q := by
    intro z q hq
    rw [h4 q (by omega), rf_mt0 z, pk_un (by omega)]
  refine ⟨vp, ?_⟩
  by_cases c1 : d p = 1
  · have es := rf_sk1 c1
    rw [es] at h1 h2
    have c2 : d p ≠ 2 := by omega
    refine br_t (by rw [esg, c1]; rfl) (nm_r (e' := nI (rf_sk d p).length) (by rw [h1]; exact nI_pred _) ⟨vp, br_f (n2 c2) (kY _ _ _ ?_)⟩)
    exact ⟨rfl, h2.2, fun q hq => h3 q (by omega), hm0 c2⟩
  · refine br_f (n1 c1) ⟨vp, ?_⟩
    by_cases c2 : d p = 2
    · obtain ⟨i, st, hs⟩ := hv p (by omega) c2
      obtain ⟨o1, o2, o3, o4⟩ := rf_op (fun q hq => hv q (by omega)) hs
      have es : rf_sk d (p + 1) = st := by rw [rf_sk2 c2, hs]; rfl
      rw [es] at h1 h2 hlen
      have em : ma (nI p).toNatClampNeg = nI i := by rw [ec, h4 p (by omega), rf_mt2 c2 hs, pk_us]
      refine br_t (by rw [esg, c2]; rfl) ⟨vp, by rw [h1]; exact vp_in_nI (by omega) (by omega), fun op1 e1 => nm_r (e' := nI (st.length + 1)) (by rw [h1, nI_1]) ⟨vp, by rw [em]; exact vp_in_nI (by omega) (by omega), fun ma1 e2 => kY _ _ _ ?_⟩⟩
      rw [em, h1, nI_clamp (by omega)] at e1
      rw [em, nI_clamp (by omega)] at e2
      refine ⟨by rw [hs]; rfl, by rw [hs, e1]; exact rf_ly_p h2, fun q hq => h3 q (by omega), fun q hq => ?_⟩
      rw [e2]
      by_cases hqi : q = i
      · rw [hqi, pk_us]; exact o4.symm
      · rw [pk_un hqi, h4 q (by omega), rf_mt2 c2 hs, pk_un (by omega), pk_un hqi]
    · have es := rf_sk0 c1 c2
      rw [es] at h1 h2
      exact br_f (n2 c2) (kY _ _ _ ⟨h1, h2, fun q hq => h3 q (by omega), hm0 c2⟩)
theorem ry_nl {post : Int32 → SY → Prop} {d : Nat → Nat} {p fr : Nat} (hA : rf_Ba A) (hg : g ≤ 4) (hn : n ≤ 11) (hp : p < n) (hS : ry_St d p tp sg op ma)
    (kY : ∀ s tp' sg' op' ma', fr ≤ s → s < 3 → (∀ s', fr ≤ s' → s' < s → ¬ (rf_H hl p s' ∧ rf_vd (rf_ft A g) (rf_up d p s') p)) → rf_H hl p s → rf_vd (rf_ft A g) (rf_up d p s) p → ry_St (rf_up d p s) (p + 1) tp' sg' op' ma' → post (nI s) (nI g, nI n, tp', my, be, bm, bc, wm, wb, A, hl, nu, sg', op', ma', bM))
    (kN : (∀ s', fr ≤ s' → s' < 3 → ¬ (rf_H hl p s' ∧ rf_vd (rf_ft A g) (rf_up d p s') p)) → post 3 (nI g, nI n, tp, my, be, bm, bc, wm, wb, A, hl, nu, sg, op, ma, bM)) :
    ∀ t s, s + t = 3 → fr ≤ s → (∀ s', fr ≤ s' → s' < s → ¬ (rf_H hl p s' ∧ rf_vd (rf_ft A g) (rf_up d p s') p)) → wY_next_2 post (nI p) (t + 1) (nI s) (nI g) (nI n) tp my be bm bc wm wb A hl nu sg op ma bM := by
  have ec : (nI p).toNatClampNeg = p := nI_clamp (by omega)
  have vp : vp_in (nI p) 11 := vp_in_nI (by omega) (by omega)
  intro t
  induction t with
  | zero =>
    intro s hs hfr hno
    have e : s = 3 := by omega
    rw [e] at hno ⊢
    exact br_t (by decide) (kN hno)
  | succ t ih =>
    intro s hs hfr hno
    have hnext : ¬ (rf_H hl p s ∧ rf_vd (rf_ft A g) (rf_up d p s) p) → wY_next_2 post (nI p) (t + 1) (nI (s + 1)) (nI g) (nI n) tp my be bm bc wm wb A hl nu sg op ma bM := by
      intro z
      refine ih (s + 1) (by omega) (by omega) (fun s' h1 h2 => ?_)
      by_cases e : s' = s
      · rw [e]; exact z
      · exact hno s' h1 (by omega)
    have W28 : rf_H hl p s → wY_next_28 post (wY_next_2 post (nI p) (t + 1)) (nI p) (nI s) (nI g) (nI n) tp my be bm bc wm wb A hl nu sg op ma bM := by
      intro hH
      refine br_f (by decide) ?_
      refine ry_put hA hg hn hp (by omega) hS (fun tp' sg' op' ma' hv hS' => ?_) (fun hv => ?_)
      · exact br_f (by decide) (kY s tp' sg' op' ma' hfr (by omega) hno hH hv hS')
      · exact br_t rfl (nm_r (nI_1 s) (hnext (fun z => hv z.2)))
    refine br_f (nI_ge (b := 3) (by omega) (by omega)) ⟨vp, ?_⟩
    rw [ec, nI_1]
    by_cases z1 : hl p = 0
    · exact br_t z1 (W28 (Or.inl z1))
    · refine br_f z1 ⟨vp, ?_⟩
      by_cases z2 : hl p = nI (s + 1)
      · exact br_t z2 (W28 (Or.inr z2))
      · refine br_f z2 (br_t rfl (nm_r (nI_1 s) (hnext (fun z => ?_))))
        rcases z.1 with y | y
        · exact z1 y
        · exact z2 y
theorem ry_n {post : Int32 → SY → Prop} {d : Nat → Nat} {p fr : Nat} (hA : rf_Ba A) (hg : g ≤ 4) (hn : n ≤ 11) (hp : p < n) (hfr : fr ≤ 3) (hS : ry_St d p tp sg op ma)
    (kY : ∀ s tp' sg' op' ma', fr ≤ s → s < 3 → (∀ s', fr ≤ s' → s' < s → ¬ (rf_H hl p s' ∧ rf_vd (rf_ft A g) (rf_up d p s') p)) → rf_H hl p s → rf_vd (rf_ft A g) (rf_up d p s) p → ry_St (rf_up d p s) (p + 1) tp' sg' op' ma' → post (nI s) (nI g, nI n, tp', my, be, bm, bc, wm, wb, A, hl, nu, sg', op', ma', bM))
    (kN : (∀ s', fr ≤ s' → s' < 3 → ¬ (rf_H hl p s' ∧ rf_vd (rf_ft A g) (rf_up d p s') p)) → post 3 (nI g, nI n, tp, my, be, bm, bc, wm, wb, A, hl, nu, sg, op, ma, bM)) :
    wpY_next post (nI g, nI n, tp, my, be, bm, bc, wm, wb, A, hl, nu, sg, op, ma, bM) (nI p) (nI fr) :=
  ⟨3 - fr + 1, ry_nl hA hg hn hp hS kY kN (3 - fr) fr (by omega) (Nat.le_refl _) (fun s' h1 h2 => by omega)⟩
end
