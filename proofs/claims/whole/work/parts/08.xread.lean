/-! the component reads a fold -/
section
variable {g n : Nat} {F B M C : Int32} {A hl nu dig par opn : Nat → Int32}
theorem rx_f129 {post : Int32 → SX → Prop} {J10 : Int32 → Int32 → (Nat → Int32) → (Nat → Int32) → (Nat → Int32) → (Nat → Int32) → (Nat → Int32) → (Nat → Int32) → Prop} {hz : Int32} {p L : Nat} (hp : p < n) (hn : n ≤ 11) (hL : L ≤ 20) (hy : L ≤ n - 1 - p → J10 (nI L) (nI (p + 1)) A hl nu dig par opn) (hno : ¬ L ≤ n - 1 - p → post (nI p) (nI g, nI n, F, B, M, C, A, hl, nu, dig, par, opn)) : wX_readFold_129 post J10 hz (nI L) (nI p) (nI g) (nI n) F B M C A hl nu dig par opn := by
  have e : nI n - 1 - nI p = nI (n - 1 - p) := by
    show nI n - nI 1 - nI p = _
    rw [pk_sub (by omega), pk_sub (by omega)]
  have hc : nI L ≤ nI n - 1 - nI p ↔ L ≤ n - 1 - p := by rw [e]; exact nI_leI (by omega) (by omega)
  by_cases h9 : L ≤ n - 1 - p
  · exact br_t (hc.mpr h9) (nm_r (nI_1 p) (hy h9))
  · exact br_f (fun z => h9 (hc.mp z)) (hno h9)
theorem rx_f35 {post : Int32 → SX → Prop} {J10 : Int32 → Int32 → (Nat → Int32) → (Nat → Int32) → (Nat → Int32) → (Nat → Int32) → (Nat → Int32) → (Nat → Int32) → Prop} {hz : Int32} {H : Nat → Nat → Prop} {p : Nat} {d : Nat → Nat}
    (hA : rf_Ba A) (hg : g ≤ 4) (hp : p < n) (hn : n ≤ 11) (hd : ∀ q, q < n → dig q = nI (d q)) (hd3 : ∀ q, d q < 3) (hS : rf_Sx (rf_ft A g) H n d p) (hH : H p (d p)) (hly : rf_ly opn (rf_sk d p)) (hpar : ∀ q, q < p → par q = rf_mt d p q)
    (kY : ∀ par opn, rf_Sx (rf_ft A g) H n d (p + 1) → rf_ly opn (rf_sk d (p + 1)) → (∀ q, q < p + 1 → par q = rf_mt d (p + 1) q) → J10 (nI (rf_sk d (p + 1)).length) (nI (p + 1)) A hl nu dig par opn)
    (kN : ∀ par opn, ¬ rf_Sx (rf_ft A g) H n d (p + 1) → post (nI p) (nI g, nI n, F, B, M, C, A, hl, nu, dig, par, opn)) :
    wX_readFold_35 post J10 hz (nI (rf_sk d p).length) (nI p) (nI g) (nI n) F B M C A hl nu dig par opn := by
  have ec : (nI p).toNatClampNeg = p := nI_clamp (by omega)
  have vp : vp_in (nI p) 11 := vp_in_nI (by omega) (by omega)
  have hlen := rf_lenp d p
  have ed : dig (nI p).toNatClampNeg = nI (d p) := by rw [ec]; exact hd p hp
  have h3 := hd3 p
  have kS : rf_vd (rf_ft A g) d p → (rf_sk d (p + 1)).length ≤ n - 1 - p → rf_Sx (rf_ft A g) H n d (p + 1) := by
    intro v1 v2 q hq
    by_cases hqp : q = p
    · rw [hqp]; exact ⟨hH, v1, v2⟩
    · exact hS q (by omega)
  have kL : ¬ (rf_sk d (p + 1)).length ≤ n - 1 - p → ¬ rf_Sx (rf_ft A g) H n d (p + 1) := fun z y => z (y p (by omega)).2.2
  refine ⟨vp, fun par1 e1 => ⟨vp, ?_⟩⟩
  rw [ec] at e1
  by_cases c1 : d p = 1
  · refine br_t (by rw [ed, c1]; rfl) ⟨vp_in_nI (by omega) (by omega), fun opn1 e2 => nm_r (nI_1 _) ⟨vp, br_f (by rw [ed, c1]; decide) ?_⟩⟩
    rw [nI_clamp (by omega)] at e2
    have es := rf_sk1 c1
    have el : (rf_sk d p).length + 1 = (rf_sk d (p + 1)).length := by rw [es]; rfl
    rw [el]
    refine rx_f129 hp hn (by omega) (fun z => kY _ _ (kS (fun z => absurd (c1.symm.trans z) (by decide)) z) ?_ ?_) (fun z => kN _ _ (kL z))
    · rw [es, e2]; exact rf_ly_p hly
    · intro q hq
      rw [e1, rf_mt0 (by omega)]
      by_cases hqp : q = p
      · rw [hqp, pk_us, pk_us]
      · rw [pk_un hqp, pk_un hqp]; exact hpar q (by omega)
  · refine br_f (by rw [ed]; intro z; exact c1 ((nI_eq (b := 1) (by omega) (by omega)).mp z)) ⟨vp, ?_⟩
    by_cases c2 : d p = 2
    · refine br_t (by rw [ed, c2]; rfl) ?_
      cases hs : rf_sk d p with
      | nil =>
        refine br_t rfl (kN _ _ (fun y => ?_))
        obtain ⟨i, st, e3, _⟩ := (y p (by omega)).2.1 c2
        rw [hs] at e3
        exact absurd e3 (by simp)
      | cons i st =>
        have hi := (rf_A d p i st (by rw [hs]; exact List.suffix_refl _)).1
        rw [hs] at hly hlen
        have hl1 : st.length + 1 ≤ p := hlen
        have ep : nI (i :: st).length - 1 = nI st.length := nI_pred st.length
        have ecs : (nI st.length).toNatClampNeg = st.length := nI_clamp (by omega)
        have eo : opn (nI (i :: st).length - 1).toNatClampNeg = nI i := by rw [ep, ecs]; exact hly.1
        have eo2 : opn (nI st.length).toNatClampNeg = nI i := by rw [ecs]; exact hly.1
        refine br_f (nI_ne0 (by show 0 < st.length + 1; omega) (by show st.length + 1 < 2 ^ 31; omega)) ⟨by rw [ep]; exact vp_in_nI (by omega) (by omega), ?_⟩
        rw [eo]
        refine rx_c hA hg (by omega) (by omega) (fun hf => ?_) (fun hf => br_t rfl (kN _ _ (fun y => ?_)))
        · refine br_f (by decide) (nm_r (e' := nI st.length) (pk_m1 st.length) ⟨vp_in_nI (by omega) (by omega), vp, fun par2 e2 => ⟨vp_in_nI (by omega) (by omega), by rw [eo2]; exact vp_in_nI (by omega) (by omega), fun par3 e3 => ?_⟩⟩)
          rw [eo2, ec] at e2
          rw [eo2, nI_clamp (by omega)] at e3
          have es : rf_sk d (p + 1) = st := by rw [rf_sk2 c2, hs]; rfl
          rw [← es]
          refine rx_f129 hp hn (by rw [es]; omega) (fun z => kY _ _ (kS (fun _ => ⟨i, st, hs, hf⟩) z) ?_ ?_) (fun z => kN _ _ (kL z))
          · rw [es]; exact hly.2
          · intro q hq
            rw [e3, e2, e1, rf_mt2 c2 hs]
            by_cases hqi : q = i
            · rw [hqi, pk_us, pk_un (by omega), pk_us]
            · rw [pk_un hqi]
              by_cases hqp : q = p
              · rw [hqp, pk_us, pk_us]
              · rw [pk_un hqp, pk_un hqp, pk_un hqp, pk_un hqi]; exact hpar q (by omega)
        · obtain ⟨i', st', e3, hf'⟩ := (y p (by omega)).2.1 c2
          rw [hs] at e3
          injection e3 with e4 _
          rw [← e4] at hf'
          exact hf hf'
    · refine br_f (by rw [ed]; intro z; exact c2 ((nI_eq (b := 2) (by omega) (by omega)).mp z)) ?_
      have es := rf_sk0 c1 c2
      rw [← es]
      refine rx_f129 hp hn (by rw [es]; omega) (fun z => kY _ _ (kS (fun z => absurd z c2) z) ?_ ?_) (fun z => kN _ _ (kL z))
      · rw [es]; exact hly
      · intro q hq
        rw [e1, rf_mt0 c2]
        by_cases hqp : q = p
        · rw [hqp, pk_us, pk_us]
        · rw [pk_un hqp, pk_un hqp]; exact hpar q (by omega)
theorem rx_fl {post : Int32 → SX → Prop} {hz : Int32} {H : Nat → Nat → Prop} {d : Nat → Nat}
    (hA : rf_Ba A) (hg : g ≤ 4) (hn : n ≤ 11) (hd : ∀ q, q < n → dig q = nI (d q)) (hd3 : ∀ q, d q < 3) (hH : (hz = 0 ∧ ∀ q x, H q x) ∨ (¬ hz = 0 ∧ H = rf_H hl))
    (kY : ∀ par opn, rf_Sx (rf_ft A g) H n d n → (∀ q, q < n → par q = rf_mt d n q) → post (nI n) (nI g, nI n, F, B, M, C, A, hl, nu, dig, par, opn))
    (kN : ∀ s par opn, s < n → rf_Sx (rf_ft A g) H n d s → ¬ rf_Sx (rf_ft A g) H n d (s + 1) → post (nI s) (nI g, nI n, F, B, M, C, A, hl, nu, dig, par, opn)) :
    ∀ t p par opn, p + t = n → rf_Sx (rf_ft A g) H n d p → rf_ly opn (rf_sk d p) → (∀ q, q < p → par q = rf_mt d p q) → wX_readFold_10 post hz (nI g) (nI n) F B M C (t + 1) (nI (rf_sk d p).length) (nI p) A hl nu dig par opn := by
  intro t
  induction t with
  | zero =>
    intro p par opn hp hS hly hpar
    have e : p = n := by omega
    subst e
    exact br_t (nI_le (Nat.le_refl _) (by omega)) (kY _ _ hS hpar)
  | succ t ih =>
    intro p par opn hp hS hly hpar
    have hpn : p < n := by omega
    have ec : (nI p).toNatClampNeg = p := nI_clamp (by omega)
    have vp : vp_in (nI p) 11 := vp_in_nI (by omega) (by omega)
    have ed : dig (nI p).toNatClampNeg = nI (d p) := by rw [ec]; exact hd p hpn
    have W35 : H p (d p) → wX_readFold_35 post (wX_readFold_10 post hz (nI g) (nI n) F B M C (t + 1)) hz (nI (rf_sk d p).length) (nI p) (nI g) (nI n) F B M C A hl nu dig par opn :=
      fun hHp => rx_f35 hA hg hpn hn hd hd3 hS hHp hly hpar (fun par opn a b c => ih (p + 1) par opn (by omega) a b c) (fun par opn a => kN p par opn hpn hS a)
    refine br_f (nI_ge (by omega) (by omega)) ?_
    rcases hH with ⟨e, hall⟩ | ⟨e, e2⟩
    · exact br_t e (W35 (hall _ _))
    · subst e2
      refine br_f e ⟨vp, ?_⟩
      by_cases z1 : hl p = 0
      · exact br_t (by rw [ec]; exact z1) (br_f (by decide) (W35 (Or.inl z1)))
      · refine br_f (by rw [ec]; exact z1) ⟨vp, vp, ?_⟩
        rw [ed, nI_1, ec]
        by_cases z2 : hl p = nI (d p + 1)
        · exact br_t z2 (br_f (by decide) (W35 (Or.inr z2)))
        · refine br_f z2 (br_t rfl (kN p par opn hpn hS (fun y => ?_)))
          rcases (y p (by omega)).1 with z | z
          · exact z1 z
          · exact z2 z
theorem rx_f {post : Int32 → SX → Prop} {hz : Int32} {H : Nat → Nat → Prop} {c : Nat}
    (hA : rf_Ba A) (hg : g ≤ 4) (hn : n ≤ 11) (hc : c < 3 ^ n) (hH : (hz = 0 ∧ ∀ q x, H q x) ∨ (¬ hz = 0 ∧ H = rf_H hl))
    (kY : ∀ dig par opn, (∀ q, q < n → dig q = nI (rf_dg n c q)) → rf_ok (rf_ft A g) H n c → (∀ q, q < n → par q = rf_mt (rf_dg n c) n q) → post (nI n) (nI g, nI n, F, B, M, C, A, hl, nu, dig, par, opn))
    (kN : ∀ s dig par opn, rf_fs (rf_ft A g) H n c s → post (nI s) (nI g, nI n, F, B, M, C, A, hl, nu, dig, par, opn)) :
    wpX_readFold post (nI g, nI n, F, B, M, C, A, hl, nu, dig, par, opn) (nI c) hz := by
  unfold wpX_readFold
  refine rx_d hn hc (fun dig' hd => ⟨n + 1, ?_⟩)
  exact rx_fl (d := rf_dg n c) hA hg hn hd (rf_dg3 n c) hH (fun par opn a b => kY dig' par opn hd (rf_xy.mp a) b) (fun s par opn a b c => kN s dig' par opn ⟨a, b, c⟩) n 0 par opn (by omega) (fun q hq => by omega) trivial (fun q hq => by omega)
end
