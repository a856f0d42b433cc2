/-! the component's score -/
section
variable {g n : Nat} {F B M C : Int32} {A hl nu dig par opn : Nat → Int32}
theorem rx_pl {post : Int32 → Prop} {ft : Nat → Nat → Prop} {d : Nat → Nat} {i j : Nat} {s : Int32} (Fo : rf_Fo ft d n) (hn : n ≤ 11) (hj : j < n) (hp : rf_pr d i j) (hdi : d i = 1) (hd : ∀ q, q < n → dig q = nI (d q)) (hd3 : ∀ q, d q < 3) (hpar : ∀ q, q < n → par q = rf_mt d n q)
    (hpost : ∀ v, v = (if rf_wn d i j = 0 then s else if 1 < rf_wn d i j then s - nu 5 else if rf_mt d n (i + 1) = nI (j - 1) then s + nu 3 else s - nu 4) → post v) :
    ∀ t k w last, k + t = j → i < k → w + rf_cn (rf_Pk d i) k (j - k) = rf_wn d i j → (0 < w → ∃ q, last = nI q ∧ i < q ∧ q < k ∧ rf_Pk d i q = true) → w ≤ k →
      wX_pairScore_35 post (nI i) (nI j) s (nI g) (nI n) F B M C A hl nu dig par opn (t + 1) (nI w) last (nI ((rf_sk d k).length - ((rf_sk d i).length + 1))) (nI k) := by
  have hij := hp.1
  have ej : nI j - 1 = nI (j - 1) := by
    show nI j - nI 1 = _
    rw [pk_sub (by omega)]
  intro t
  induction t with
  | zero =>
    intro k w last hk hik hw hlast hwk
    have e : k = j := by omega
    subst e
    rw [Nat.sub_self] at hw
    have hw2 : w = rf_wn d i k := hw
    refine br_t (nI_le (Nat.le_refl _) (by omega)) ?_
    by_cases w0 : w = 0
    · exact br_t (by rw [w0]; rfl) (hpost _ (by rw [if_pos (by omega)]))
    · refine br_f (nI_ne0 (by omega) (by omega)) ?_
      by_cases w1 : w ≤ 1
      · refine br_t (nI_le (b := 1) w1 (by decide)) ?_
        obtain ⟨q, eq, q1, q2, q3⟩ := hlast (by omega)
        have hwn : rf_wn d i k = 1 := by omega
        have p4 : rf_mt d n (i + 1) ≠ nI (k - 1) → s - nu 4 = (if rf_wn d i k = 0 then s else if 1 < rf_wn d i k then s - nu 5 else if rf_mt d n (i + 1) = nI (k - 1) then s + nu 3 else s - nu 4) := by
          intro z
          rw [if_neg (by omega), if_neg (by omega), if_neg z]
        rw [eq, nI_1]
        by_cases hq : q = i + 1
        · rw [hq, ej]
          have e1 : par (nI (i + 1)).toNatClampNeg = rf_mt d n (i + 1) := by rw [nI_clamp (by omega)]; exact hpar _ (by omega)
          refine br_t rfl ⟨vp_in_nI (by omega) (by omega), ?_⟩
          rw [e1]
          by_cases hm : rf_mt d n (i + 1) = nI (k - 1)
          · exact br_t hm (br_f (by decide) (hpost _ (by rw [if_neg (by omega), if_neg (by omega), if_pos hm])))
          · exact br_f hm (br_t rfl (hpost _ (p4 hm)))
        · refine br_f (fun z => hq ((nI_eq (by omega) (by omega)).mp z)) (br_t rfl (hpost _ (p4 (fun z => hq ?_))))
          exact rf_stk Fo hj (by omega) hwn q1 q2 q3 hdi hp z
      · exact br_f (nI_ge (a := 1) (by omega) (by omega)) (hpost _ (by rw [if_neg (by omega), if_pos (by omega)]))
  | succ t ih =>
    intro k w last hk hik hw hlast hwk
    have hkj : k < j := by omega
    have ec : (nI k).toNatClampNeg = k := nI_clamp (by omega)
    have vp : vp_in (nI k) 11 := vp_in_nI (by omega) (by omega)
    have ed : dig (nI k).toNatClampNeg = nI (d k) := by rw [ec]; exact hd k (by omega)
    have h3 := hd3 k
    have hL := hp.2.2 k hik (by omega)
    have hL' := hp.2.2 (k + 1) (by omega) (by omega)
    have hlen := rf_lenp d k
    have ejk : j - k = (j - (k + 1)) + 1 := by omega
    refine br_f (nI_ge (by omega) (by omega)) ⟨vp, ?_⟩
    by_cases c1 : d k = 1
    · have eL := rf_L1 c1
      refine br_t (by rw [ed, c1]; rfl) ?_
      by_cases c0 : (rf_sk d k).length = (rf_sk d i).length + 1
      · have hP : rf_Pk d i k = true := rf_Pk_t c1 c0
        refine br_t (by rw [c0, Nat.sub_self]; rfl) (nm_r (nI_1 w) (nm_r (e' := nI ((rf_sk d (k + 1)).length - ((rf_sk d i).length + 1))) ?_ ⟨vp, br_f (by rw [ed, c1]; decide) (nm_r (nI_1 k) (ih (k + 1) (w + 1) (nI k) (by omega) (by omega) ?_ (fun _ => ⟨k, rfl, hik, by omega, hP⟩) (by omega)))⟩))
        · rw [nI_1]; exact congrArg nI (by omega)
        · rw [ejk, rf_cn_t hP] at hw; omega
      · have hP : rf_Pk d i k = false := rf_Pk_f (Or.inr c0)
        refine br_f (nI_ne0 (by omega) (by omega)) (nm_r (e' := nI ((rf_sk d (k + 1)).length - ((rf_sk d i).length + 1))) ?_ ⟨vp, br_f (by rw [ed, c1]; decide) (nm_r (nI_1 k) (ih (k + 1) w last (by omega) (by omega) ?_ (fun z => ?_) (by omega)))⟩)
        · rw [nI_1]; exact congrArg nI (by omega)
        · rw [ejk, rf_cn_f hP] at hw; exact hw
        · obtain ⟨q, a1, a2, a3, a4⟩ := hlast z
          exact ⟨q, a1, a2, by omega, a4⟩
    · have hP : rf_Pk d i k = false := rf_Pk_f (Or.inl c1)
      have hw' : w + rf_cn (rf_Pk d i) (k + 1) (j - (k + 1)) = rf_wn d i j := by rw [ejk, rf_cn_f hP] at hw; exact hw
      have hlast' : 0 < w → ∃ q, last = nI q ∧ i < q ∧ q < k + 1 ∧ rf_Pk d i q = true := fun z => by
        obtain ⟨q, a1, a2, a3, a4⟩ := hlast z
        exact ⟨q, a1, a2, by omega, a4⟩
      refine br_f (by rw [ed]; intro z; exact c1 ((nI_eq (b := 1) (by omega) (by omega)).mp z)) ⟨vp, ?_⟩
      by_cases c2 : d k = 2
      · have eL := rf_L2 c2
        refine br_t (by rw [ed, c2]; rfl) (nm_r (e' := nI ((rf_sk d (k + 1)).length - ((rf_sk d i).length + 1))) ?_ (nm_r (nI_1 k) (ih (k + 1) w last (by omega) (by omega) hw' hlast' (by omega))))
        rw [show (rf_sk d k).length - ((rf_sk d i).length + 1) = ((rf_sk d (k + 1)).length - ((rf_sk d i).length + 1)) + 1 by omega, pk_m1]
      · have eL := rf_L0 c1 c2
        refine br_f (by rw [ed]; intro z; exact c2 ((nI_eq (b := 2) (by omega) (by omega)).mp z)) (nm_r (nI_1 k) ?_)
        rw [← eL]
        exact ih (k + 1) w last (by omega) (by omega) hw' hlast' (by omega)
theorem rx_p {post : Int32 → Prop} {d : Nat → Nat} {i j : Nat} (hA : rf_Ba A) (Fo : rf_Fo (rf_ft A g) d n) (hn : n ≤ 11) (hj : j < n) (hp : rf_pr d i j) (hf : rf_ft A g i j) (hdi : d i = 1) (hd : ∀ q, q < n → dig q = nI (d q)) (hd3 : ∀ q, d q < 3) (hpar : ∀ q, q < n → par q = rf_mt d n q)
    (hpost : post (rf_pv A nu d (rf_mt d n) i j)) : wpX_pairScore post (nI g, nI n, F, B, M, C, A, hl, nu, dig, par, opn) (nI i) (nI j) := by
  have hij := hp.1
  obtain ⟨x, hx, ex⟩ := hA i
  obtain ⟨y, hy, ey⟩ := hA j
  have e1 : (A i).toNatClampNeg = x := by rw [ex]; exact nI_clamp (by omega)
  have e2 : (A j).toNatClampNeg = y := by rw [ey]; exact nI_clamp (by omega)
  have hk : rf_kd x y ≠ 3 := by
    have h9 := hf.2
    rw [e1, e2] at h9
    exact h9
  have h9 := rf_kd3 x y
  refine ⟨vp_in_nI (by omega) (by omega), vp_in_nI (by omega) (by omega), ?_⟩
  rw [nI_clamp (n := i) (by omega), nI_clamp (n := j) (by omega), ex, ey]
  refine rx_k hx hy ?_
  rw [rf_kIn hk]
  refine ⟨vp_in_nI (by omega) (by omega), nm_e (nm_r (nI_1 i) ⟨j - (i + 1) + 1, ?_⟩)⟩
  have h8 := rx_pl (g := g) (F := F) (B := B) (M := M) (C := C) (A := A) (hl := hl) (nu := nu) (opn := opn) (post := post) (s := nu (nI (rf_kd x y)).toNatClampNeg) Fo hn hj hp hdi hd hd3 hpar (fun v hv => by
    rw [nI_clamp (by omega)] at hv
    unfold rf_pv at hpost
    rw [e1, e2, ← hv] at hpost
    exact hpost) (j - (i + 1)) (i + 1) 0 (-1) (by omega) (by omega) (by rw [Nat.zero_add]; rfl) (fun z => absurd z (Nat.lt_irrefl 0)) (by omega)
  rw [rf_L1 hdi, Nat.sub_self] at h8
  exact h8
theorem rx_sl {post : Int32 → Prop} {d : Nat → Nat} (hA : rf_Ba A) (Fo : rf_Fo (rf_ft A g) d n) (hn : n ≤ 11) (hd : ∀ q, q < n → dig q = nI (d q)) (hd3 : ∀ q, d q < 3) (hpar : ∀ q, q < n → par q = rf_mt d n q)
    (hpost : post (rf_sm A nu d n n)) : ∀ t p, p + t = n → wX_foldScore_4 post (nI g) (nI n) F B M C A hl nu dig par opn (t + 1) (rf_sm A nu d n p) (nI p) := by
  intro t
  induction t with
  | zero =>
    intro p hp
    have e : p = n := by omega
    subst e
    exact br_t (nI_le (Nat.le_refl _) (by omega)) hpost
  | succ t ih =>
    intro p hp
    have hpn : p < n := by omega
    have ec : (nI p).toNatClampNeg = p := nI_clamp (by omega)
    have vp : vp_in (nI p) 11 := vp_in_nI (by omega) (by omega)
    have ed : dig (nI p).toNatClampNeg = nI (d p) := by rw [ec]; exact hd p hpn
    have h3 := hd3 p
    refine br_f (nI_ge (by omega) (by omega)) ⟨vp, ?_⟩
    by_cases c1 : d p = 1
    · obtain ⟨j, j1, j2, j3, j4, j5, j6⟩ := rf_Fo_pr Fo hpn c1
      refine br_t (by rw [ed, c1]; rfl) ⟨vp, ?_⟩
      rw [ec, hpar p hpn, j4]
      refine rx_p hA Fo hn j2 j6 j5 c1 hd hd3 hpar (nm_r (rf_sm1 c1 j4 (by omega)).symm (nm_r (nI_1 p) (ih (p + 1) (by omega))))
    · refine br_f (by rw [ed]; intro z; exact c1 ((nI_eq (b := 1) (by omega) (by omega)).mp z)) (nm_r (nI_1 p) ?_)
      rw [← rf_sm0 c1]
      exact ih (p + 1) (by omega)
theorem rx_s {post : Int32 → Prop} {d : Nat → Nat} (hA : rf_Ba A) (Fo : rf_Fo (rf_ft A g) d n) (hn : n ≤ 11) (hd : ∀ q, q < n → dig q = nI (d q)) (hd3 : ∀ q, d q < 3) (hpar : ∀ q, q < n → par q = rf_mt d n q)
    (hpost : post (rf_sm A nu d n n)) : wpX_foldScore post (nI g, nI n, F, B, M, C, A, hl, nu, dig, par, opn) :=
  ⟨n + 1, rx_sl hA Fo hn hd hd3 hpar hpost n 0 (by omega)⟩
end
