/-! the reference: kinds, fitting places, the score -/
section
variable {g n : Nat} {tp my be bm bc wm wb : Int32} {A hl nu sg op ma bM : Nat → Int32}
theorem ry_k {post : Int32 → Prop} {u : SY} {x y : Nat} (hx : x < 4) (hy : y < 4) (hp : post (rf_kI (rf_kd x y))) : wpY_kind post u (nI x) (nI y) := by
  have hx' : x = 0 ∨ x = 1 ∨ x = 2 ∨ x = 3 := by omega
  have hy' : y = 0 ∨ y = 1 ∨ y = 2 ∨ y = 3 := by omega
  rcases hx' with rfl | rfl | rfl | rfl <;> rcases hy' with rfl | rfl | rfl | rfl <;>
    simpa [wpY_kind, rf_kI, rf_kd, nI] using hp
theorem ry_c {post : Int32 → Prop} {i j : Nat} (hA : rf_Ba A) (hg : g ≤ 4) (hi : i < 11) (hj : j < 11) (h1 : rf_ft A g i j → post 1) (h0 : ¬ rf_ft A g i j → post 0) : wpY_suits post (nI g, nI n, tp, my, be, bm, bc, wm, wb, A, hl, nu, sg, op, ma, bM) (nI i) (nI j) := by
  have hc := rf_gapc (g := g) (i := i) (j := j) (by omega) (by omega) (by omega)
  by_cases hgap : g + i < j
  · refine br_f (fun z => hc.mp z hgap) ⟨vp_in_nI hi (by omega), vp_in_nI hj (by omega), ?_⟩
    obtain ⟨x, hx, ex⟩ := hA i
    obtain ⟨y, hy, ey⟩ := hA j
    have e1 : (A i).toNatClampNeg = x := by rw [ex]; exact nI_clamp (by omega)
    have e2 : (A j).toNatClampNeg = y := by rw [ey]; exact nI_clamp (by omega)
    rw [nI_clamp (n := i) (by omega), nI_clamp (n := j) (by omega), ex, ey]
    refine ry_k hx hy ?_
    by_cases hk : rf_kd x y = 3
    · refine br_t (by rw [rf_kI3 hk]; decide) (h0 (fun z => z.2 ?_))
      rw [e1, e2]; exact hk
    · have h9 := rf_kd3 x y
      refine br_f (by rw [rf_kIn hk]; exact nI_pos (by omega)) (h1 ⟨hgap, ?_⟩)
      rw [e1, e2]; exact hk
  · exact br_t (hc.mpr hgap) (h0 (fun z => hgap z.1))
theorem ry_wl {post : Int32 → Prop} {ft : Nat → Nat → Prop} {d : Nat → Nat} {i j : Nat} (Fo : rf_Fo ft d n) (hn : n ≤ 11) (hj : j < n) (hp : rf_pr d i j) (hm : rf_mt d n i = nI j) (hma : ∀ q, q < n → ma q = rf_mt d n q) (hpost : post (nI (rf_wn d i j))) :
    ∀ t k w, j - k ≤ t → i < k → k ≤ j → (rf_sk d k).length = (rf_sk d i).length + 1 → w + rf_cn (rf_Pk d i) k (j - k) = rf_wn d i j → wY_within_6 post (nI i) (nI g) (nI n) tp my be bm bc wm wb A hl nu sg op ma bM (t + 1) (nI w) (nI k) := by
  have hij := hp.1
  have ei : ma (nI i).toNatClampNeg = nI j := by rw [nI_clamp (by omega), hma i (by omega)]; exact hm
  have vi : vp_in (nI i) 12 := vp_in_nI (by omega) (by omega)
  have hend : ∀ t k w, k = j → w + rf_cn (rf_Pk d i) k (j - k) = rf_wn d i j → wY_within_6 post (nI i) (nI g) (nI n) tp my be bm bc wm wb A hl nu sg op ma bM (t + 1) (nI w) (nI k) := by
    intro t k w e hw
    rw [e, Nat.sub_self] at hw
    have hw2 : w = rf_wn d i j := hw
    refine ⟨vi, br_t ?_ ?_⟩
    · rw [ei, e]; exact nI_le (Nat.le_refl _) (by omega)
    · rw [hw2]; exact hpost
  intro t
  induction t with
  | zero =>
    intro k w hk hik hkj hL hw
    exact hend 0 k w (by omega) hw
  | succ t ih =>
    intro k w hk hik hkj hL hw
    by_cases e : k = j
    · exact hend (t + 1) k w e hw
    · have hkl : k < j := by omega
      have ec : (nI k).toNatClampNeg = k := nI_clamp (by omega)
      have vk : vp_in (nI k) 12 := vp_in_nI (by omega) (by omega)
      have em : ma (nI k).toNatClampNeg = rf_mt d n k := by rw [ec]; exact hma k (by omega)
      refine ⟨vi, br_f (by rw [ei]; exact nI_ge hkl (by omega)) (br_f (nI_ge (b := 12) (by omega) (by omega)) ⟨vk, ?_⟩)⟩
      rw [em]
      by_cases c1 : d k = 1
      · obtain ⟨m, m1, m2, m3, m4, m5, m6⟩ := rf_Fo_pr Fo (show k < n by omega) c1
        obtain ⟨w1, w2, w3⟩ := rf_w1 hp m6 hik hkl hL c1
        rw [m4]
        refine br_f (nI_ge m1 (by omega)) (nm_r (nI_1 w) ⟨vk, nm_e (nm_r (nI_1 m) (ih (m + 1) (w + 1) (by omega) (by omega) (by omega) w2 (by omega)))⟩)
      · obtain ⟨w1, w2⟩ := rf_w0 hp hik hkl hL c1
        refine br_t ?_ (nm_r (nI_1 k) (ih (k + 1) w (by omega) (by omega) (by omega) w1 (by omega)))
        by_cases c2 : d k = 2
        · obtain ⟨i', hi', e'⟩ := (Fo k (by omega)).2.1 c2
          rw [e']; exact nI_le (by omega) (by omega)
        · rw [(Fo k (by omega)).2.2 c1 c2]
          exact Int32.le_trans (by decide) (nI_pos' (by omega))
theorem ry_w {post : Int32 → Prop} {ft : Nat → Nat → Prop} {d : Nat → Nat} {i j : Nat} (Fo : rf_Fo ft d n) (hn : n ≤ 11) (hj : j < n) (hd : d i = 1) (hp : rf_pr d i j) (hm : rf_mt d n i = nI j) (hma : ∀ q, q < n → ma q = rf_mt d n q) (hpost : post (nI (rf_wn d i j))) :
    wpY_within post (nI g, nI n, tp, my, be, bm, bc, wm, wb, A, hl, nu, sg, op, ma, bM) (nI i) := by
  have hij := hp.1
  refine nm_r (nI_1 i) ⟨j - (i + 1) + 1, ?_⟩
  exact ry_wl Fo hn hj hp hm hma hpost (j - (i + 1)) (i + 1) 0 (Nat.le_refl _) (by omega) (by omega) (rf_L1 hd) (by rw [Nat.zero_add]; rfl)
theorem rf_asub (a b c : Int32) : a + b - c = a + (b - c) := by
  rw [Int32.sub_eq_add_neg, Int32.sub_eq_add_neg, Int32.add_assoc]
theorem rf_cn_le (P : Nat → Bool) : ∀ t k, rf_cn P k t ≤ t := by
  intro t
  induction t with
  | zero => intro k; exact Nat.le_refl _
  | succ t ih =>
    intro k
    have h9 := ih (k + 1)
    by_cases h : P k = true
    · rw [rf_cn_t h]; omega
    · rw [rf_cn_f (by simpa using h)]; omega
theorem ry_sl {post : Int32 → Prop} {d : Nat → Nat} (hA : rf_Ba A) (Fo : rf_Fo (rf_ft A g) d n) (hn : n ≤ 11) (hma : ∀ q, q < n → ma q = rf_mt d n q)
    (hpost : post (rf_sm A nu d n n)) : ∀ t p, p + t = n → wY_score_4 post (nI g) (nI n) tp my be bm bc wm wb A hl nu sg op ma bM (t + 1) (rf_sm A nu d n p) (nI p) := by
  intro t
  induction t with
  | zero =>
    intro p hp
    have e : p = n := by omega
    subst e
    exact br_t (nI_le (Nat.le_refl _) (by omega)) hpost
  | succ t ih =>
    intro p hp
    have hpn : p < n := by omega
    have ec : (nI p).toNatClampNeg = p := nI_clamp (by omega)
    have em : ma (nI p).toNatClampNeg = rf_mt d n p := by rw [ec]; exact hma p hpn
    refine br_f (nI_ge (by omega) (by omega)) (br_f (nI_ge (b := 11) (by omega) (by omega)) ⟨vp_in_nI (by omega) (by omega), nm_r em ?_⟩)
    by_cases c1 : d p = 1
    · obtain ⟨j, j1, j2, j3, j4, j5, j6⟩ := rf_Fo_pr Fo hpn c1
      obtain ⟨x, hx, ex⟩ := hA p
      obtain ⟨y, hy, ey⟩ := hA j
      have e1 : (A p).toNatClampNeg = x := by rw [ex]; exact nI_clamp (by omega)
      have e2 : (A j).toNatClampNeg = y := by rw [ey]; exact nI_clamp (by omega)
      have hk : rf_kd x y ≠ 3 := by
        have h9 := j5.2
        rw [e1, e2] at h9
        exact h9
      have h9 := rf_kd3 x y
      have hwl := rf_cn_le (rf_Pk d p) (j - (p + 1)) (p + 1)
      have hwl2 : rf_wn d p j ≤ j - (p + 1) := hwl
      have ej : nI j - 1 = nI (j - 1) := by
        show nI j - nI 1 = _
        rw [pk_sub (by omega)]
      have esm := rf_sm1 (A := A) (nu := nu) (n := n) c1 j4 (by omega)
      have hJ := ih (p + 1) (by omega)
      rw [esm] at hJ
      unfold rf_pv at hJ
      rw [e1, e2] at hJ
      rw [j4]
      refine br_f (nI_ge j1 (by omega)) ⟨vp_in_nI (by omega) (by omega), vp_in_nI (by omega) (by omega), ?_⟩
      rw [ec, nI_clamp (n := j) (by omega), ex, ey]
      refine ry_k hx hy ?_
      rw [rf_kIn hk, nI_clamp (n := rf_kd x y) (by omega)]
      refine ⟨vp_in_nI (by omega) (by omega), nm_e ?_⟩
      refine ry_w Fo hn j2 c1 j6 j4 hma ?_
      by_cases w1 : rf_wn d p j = 1
      · rw [if_neg (by omega), if_neg (by omega)] at hJ
        rw [w1]
        refine br_t rfl ⟨by rw [nI_1]; exact vp_in_nI (by omega) (by omega), ?_⟩
        rw [nI_1, nI_clamp (n := p + 1) (by omega), hma (p + 1) (by omega), ej]
        by_cases hm : rf_mt d n (p + 1) = nI (j - 1)
        · rw [if_pos hm, ← Int32.add_assoc] at hJ
          exact br_t hm (nm_e (br_t (by decide) (nm_r (nI_1 p) hJ)))
        · rw [if_neg hm, ← rf_asub, Int32.sub_eq_add_neg] at hJ
          exact br_f hm (nm_e (br_t (by decide) (nm_r (nI_1 p) hJ)))
      · refine br_f (fun z => w1 ((nI_eq (b := 1) (by omega) (by omega)).mp z)) ?_
        by_cases w0 : rf_wn d p j = 0
        · rw [if_pos w0] at hJ
          exact br_t (nI_le (b := 1) (by omega) (by omega)) (nm_r (nI_1 p) hJ)
        · rw [if_neg w0, if_pos (by omega), ← rf_asub] at hJ
          exact br_f (nI_ge (a := 1) (by omega) (by omega)) (nm_e (nm_r (nI_1 p) hJ))
    · refine br_t ?_ (nm_r (nI_1 p) ?_)
      · by_cases c2 : d p = 2
        · obtain ⟨i', hi', e'⟩ := (Fo p hpn).2.1 c2
          rw [e']; exact nI_le (by omega) (by omega)
        · rw [(Fo p hpn).2.2 c1 c2]
          exact Int32.le_trans (by decide) (nI_pos' (by omega))
      · rw [← rf_sm0 c1]
        exact ih (p + 1) (by omega)
theorem ry_s {post : Int32 → Prop} {d : Nat → Nat} (hA : rf_Ba A) (Fo : rf_Fo (rf_ft A g) d n) (hn : n ≤ 11) (hma : ∀ q, q < n → ma q = rf_mt d n q)
    (hpost : post (rf_sm A nu d n n)) : wpY_score post (nI g, nI n, tp, my, be, bm, bc, wm, wb, A, hl, nu, sg, op, ma, bM) :=
  ⟨n + 1, ry_sl hA Fo hn hma hpost n 0 (by omega)⟩
end
