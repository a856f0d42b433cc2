/-! the reference's search -/
section
variable {g n : Nat} {tp my be bm bc wm wb : Int32} {A hl nu sg op ma bM : Nat → Int32}
theorem ry_Sy1 {ft H : Nat → Nat → Prop} {d : Nat → Nat} {p s : Nat} (h : rf_Sy ft H d p) (hH : H p s) (hv : rf_vd ft (rf_up d p s) p) : rf_Sy ft H (rf_up d p s) (p + 1) := by
  intro q hq
  by_cases hqp : q = p
  · rw [hqp]
    exact ⟨by rw [rf_up_s]; exact hH, hv⟩
  · exact rf_Sy_cg (fun q hq => (rf_up_b q hq).symm) h q (by omega)
theorem ry_e121 {post : SY → Prop} {pi pj x4 : Int32} {t p fr v v0 turn : Nat} {d : Nat → Nat} (hn : n ≤ 11) (hp : p ≤ n) (hfr : fr ≤ 3) (hleaf : p = n → fr = 0) (hd : ∀ q, q < p → d q < 3) (hSy : rf_Sy (rf_ft A g) (rf_H hl) d p) (hS : ry_St d p tp sg op ma)
    (hat : rf_at n p fr v0 d) (hv : v = (rf_vl d p + 1) * 3 ^ (n - p)) (hturn : turn + rf_mu n p fr v0 d ≤ 600000) (ht : rf_mu n p fr v0 d < t + 1)
    (hB : rf_YB (rf_ft A g) (rf_H hl) n (rf_sc A nu n) v my be bm bc bM) (hW : rf_YW (rf_QW (rf_ft A g) (rf_H hl) n pi pj) (rf_sc A nu n) v wm wb)
    (hpost : ∀ tp my be bm bc wm wb sg op ma bM, rf_YB (rf_ft A g) (rf_H hl) n (rf_sc A nu n) (3 ^ n) my be bm bc bM → rf_YW (rf_QW (rf_ft A g) (rf_H hl) n pi pj) (rf_sc A nu n) (3 ^ n) wm wb → post (nI g, nI n, tp, my, be, bm, bc, wm, wb, A, hl, nu, sg, op, ma, bM))
    (ih : ∀ p fr v turn d tp sg op ma, p ≤ n → fr ≤ 3 → (p = n → fr = 0) → (∀ q, q < p → d q < 3) → rf_Sy (rf_ft A g) (rf_H hl) d p → ry_St d p tp sg op ma → rf_at n p fr v d → turn + rf_mu n p fr v d ≤ 600000 → rf_mu n p fr v d < t →
      rf_YB (rf_ft A g) (rf_H hl) n (rf_sc A nu n) v my be bm bc bM → rf_YW (rf_QW (rf_ft A g) (rf_H hl) n pi pj) (rf_sc A nu n) v wm wb → wY_explore_52 post pi pj t (nI p) (nI fr) 1 (nI turn) (nI g) (nI n) tp my be bm bc wm wb A hl nu sg op ma bM) :
    wY_explore_121 post (wY_explore_52 post pi pj t) pi pj (nI p) x4 (nI turn) (nI g) (nI n) tp my be bm bc wm wb A hl nu sg op ma bM := by
  cases p with
  | zero =>
    have e : v = 3 ^ n := by
      rw [hv]
      show (0 + 1) * 3 ^ (n - 0) = 3 ^ n
      rw [Nat.zero_add, Nat.one_mul, Nat.sub_zero]
    rw [e] at hB hW
    have hmu : 11 ≤ rf_mu n 0 fr v0 d := by unfold rf_mu; omega
    obtain ⟨t', rfl⟩ : ∃ t', t = t' + 1 := ⟨t - 1, by omega⟩
    refine br_t (by decide) (br_t rfl (nm_r (nI_1 turn) ?_))
    exact br_f (nI_ge (b := 2000000) (by omega) (by omega)) (br_t rfl (hpost _ _ _ _ _ _ _ _ _ _ _ hB hW))
  | succ p =>
    obtain ⟨b1, b2, b3, b4⟩ := rf_bk hn (by omega) hd hfr hat hleaf hv
    have h3 := hd p (by omega)
    refine br_f (nI_nle (by omega) (by omega)) (br_f (by decide) (nm_r (pk_m1 p) ?_))
    refine ry_take hn (by omega) hd (rf_Sy_v hSy) hS (fun tp' op' ma' hS' => ⟨vp_in_nI (by omega) (by omega), nm_r (e' := nI (d p + 1)) ?_ (nm_r (nI_1 turn) ?_)⟩)
    · rw [nI_clamp (by omega), hS.2.2.1 p (by omega), nI_1]
    · exact ih p (d p + 1) v (turn + 1) d tp' sg op' ma' (by omega) (by omega) (fun z => by omega) (fun q hq => hd q (by omega)) (fun q hq => hSy q (by omega)) hS' b3 (by omega) (by omega) hB hW
theorem ry_el {post : SY → Prop} {pi pj : Int32} (hA : rf_Ba A) (hN : rf_Nu nu) (hg : g ≤ 4) (hn : n ≤ 11) (hq : pj ≤ pi ∨ ∃ i, i < n ∧ pi = nI i)
    (hpost : ∀ tp my be bm bc wm wb sg op ma bM, rf_YB (rf_ft A g) (rf_H hl) n (rf_sc A nu n) (3 ^ n) my be bm bc bM → rf_YW (rf_QW (rf_ft A g) (rf_H hl) n pi pj) (rf_sc A nu n) (3 ^ n) wm wb → post (nI g, nI n, tp, my, be, bm, bc, wm, wb, A, hl, nu, sg, op, ma, bM)) :
    ∀ t p fr v turn d tp my be bm bc wm wb sg op ma bM, p ≤ n → fr ≤ 3 → (p = n → fr = 0) → (∀ q, q < p → d q < 3) → rf_Sy (rf_ft A g) (rf_H hl) d p → ry_St d p tp sg op ma → rf_at n p fr v d → turn + rf_mu n p fr v d ≤ 600000 → rf_mu n p fr v d < t →
      rf_YB (rf_ft A g) (rf_H hl) n (rf_sc A nu n) v my be bm bc bM → rf_YW (rf_QW (rf_ft A g) (rf_H hl) n pi pj) (rf_sc A nu n) v wm wb → wY_explore_52 post pi pj t (nI p) (nI fr) 1 (nI turn) (nI g) (nI n) tp my be bm bc wm wb A hl nu sg op ma bM := by
  intro t
  induction t with
  | zero => intro p fr v turn d tp my be bm bc wm wb sg op ma bM _ _ _ _ _ _ _ _ h; omega
  | succ t ih =>
    intro p fr v turn d tp my be bm bc wm wb sg op ma bM hp hfr hleaf hd hSy hS hat hturn ht hB hW
    refine br_f (nI_ge (b := 2000000) (by omega) (by omega)) (br_f (by decide) ?_)
    by_cases hpn : p = n
    · subst hpn
      have hf0 := hleaf rfl
      have hv := hat.2 rfl
      have hvn : rf_vl d p + 1 = (rf_vl d p + 1) * 3 ^ (p - p) := by rw [Nat.sub_self, Nat.pow_zero, Nat.mul_one]
      rw [hv] at hB hW
      refine br_t (nI_le (Nat.le_refl _) (by omega)) (br_t (by decide) (br_t rfl ?_))
      have hlen := rf_lenp d p
      cases hs : rf_sk d p with
      | nil =>
        refine br_t (by rw [hS.1, hs]; rfl) ?_
        refine ry_no hA hN hn hq hd hSy hs hS hB hW (fun my' be' bm' bc' wm' wb' bM' hB' hW' => ?_)
        exact ry_e121 hn hp hfr hleaf hd hSy hS hat hvn hturn ht hB' hW' hpost (fun p fr v turn d tp sg op ma a1 a2 a3 a4 a5 a6 a7 a8 a9 b1 b2 => ih p fr v turn d tp my' be' bm' bc' wm' wb' sg op ma bM' a1 a2 a3 a4 a5 a6 a7 a8 a9 b1 b2)
      | cons i st =>
        have hno : ¬ rf_ok (rf_ft A g) (rf_H hl) p (rf_vl d p) := by
          intro z
          have z2 := ((rf_ok_vl hd).mp z).2
          rw [hs] at z2
          exact absurd z2 (by simp)
        have hB' := rf_YB_s hB (show rf_vl d p ≤ rf_vl d p + 1 by omega) (fun c h1 h2 => by
          have e : c = rf_vl d p := by omega
          rw [e]; exact hno)
        have hW' := rf_YW_s hW (show rf_vl d p ≤ rf_vl d p + 1 by omega) (fun c h1 h2 => by
          have e : c = rf_vl d p := by omega
          rw [e]; exact fun z => hno z.1)
        rw [hs] at hlen
        have hlen2 : st.length + 1 ≤ p := hlen
        refine br_f (by rw [hS.1, hs]; exact nI_ne0 (by show 0 < st.length + 1; omega) (by show st.length + 1 < 2 ^ 31; omega)) ?_
        exact ry_e121 hn hp hfr hleaf hd hSy hS hat hvn hturn ht hB' hW' hpost (fun p fr v turn d tp sg op ma a1 a2 a3 a4 a5 a6 a7 a8 a9 b1 b2 => ih p fr v turn d tp my be bm bc wm wb sg op ma bM a1 a2 a3 a4 a5 a6 a7 a8 a9 b1 b2)
    · have hpl : p < n := by omega
      have hv := hat.1 hpl
      refine br_f (nI_ge hpl (by omega)) ?_
      refine ry_n hA hg hn hpl hfr hS (fun s tp' sg' op' ma' s1 s2 s3 s4 s5 hS' => ?_) (fun s3 => ?_)
      · obtain ⟨v', e1, e2, e3, e4, e5⟩ := rf_dn hn hpl hd s1 s2 hat
        have hsk : ∀ c, v ≤ c → c < v' → ¬ rf_ok (rf_ft A g) (rf_H hl) n c := by
          intro c h1 h2
          rw [hv] at h1
          rw [e1] at h2
          exact rf_skipY hpl hd (by omega) s3 c h1 h2
        refine br_f (nI_ge (b := 3) s2 (by omega)) (nm_r (nI_1 p) (nm_r (nI_1 turn) ?_))
        exact ih (p + 1) 0 v' (turn + 1) (rf_up d p s) tp' my be bm bc wm wb sg' op' ma' bM (by omega) (by omega) (fun _ => rfl) (rf_up_3 hd s2) (ry_Sy1 hSy s4 s5) hS' e4 (by omega) (by omega) (rf_YB_s hB e2 hsk) (rf_YW_s hW e2 (fun c h1 h2 z => hsk c h1 h2 z.1))
      · have e1 : (rf_vl d p + 1) * 3 ^ (n - p) = (3 * rf_vl d p + 3) * 3 ^ (n - (p + 1)) := by
          rw [rf_pw hpl, ← Nat.mul_assoc]
          exact congrArg (· * 3 ^ (n - (p + 1))) (by omega)
        have e2 : v ≤ (rf_vl d p + 1) * 3 ^ (n - p) := by
          rw [e1, hv]
          exact Nat.mul_le_mul_right _ (by omega)
        have hsk : ∀ c, v ≤ c → c < (rf_vl d p + 1) * 3 ^ (n - p) → ¬ rf_ok (rf_ft A g) (rf_H hl) n c := by
          intro c h1 h2
          rw [hv] at h1
          rw [e1] at h2
          exact rf_skipY hpl hd (Nat.le_refl 3) s3 c h1 h2
        refine br_t (by decide) (br_f (fun z => hpn ((nI_eq (by omega) (by omega)).mp z)) ?_)
        exact ry_e121 hn hp hfr hleaf hd hSy hS hat rfl hturn ht (rf_YB_s hB e2 hsk) (rf_YW_s hW e2 (fun c h1 h2 z => hsk c h1 h2 z.1)) hpost (fun p fr v turn d tp sg op ma a1 a2 a3 a4 a5 a6 a7 a8 a9 b1 b2 => ih p fr v turn d tp my be bm bc wm wb sg op ma bM a1 a2 a3 a4 a5 a6 a7 a8 a9 b1 b2)
theorem ry_22 {post : SY → Prop} {pi pj : Int32} (kY : ∀ ma', ∃ m, wY_explore_52 post pi pj m 0 0 1 0 (nI g) (nI n) tp my be bm bc wm wb A hl nu sg op ma' bM) :
    ∀ t k ma, k + t = 12 → wY_explore_22 post pi pj (nI g) (nI n) tp my be bm bc wm wb (t + 1) (nI k) A hl nu sg op ma bM := by
  intro t
  induction t with
  | zero =>
    intro k ma hk
    have e : k = 12 := by omega
    rw [e]
    exact br_t (by decide) (kY ma)
  | succ t ih =>
    intro k ma hk
    exact br_f (nI_ge (b := 12) (by omega) (by omega)) ⟨vp_in_nI (by omega) (by omega), fun ma' _ => nm_r (nI_1 k) (ih (k + 1) ma' (by omega))⟩
theorem ry_e {post : SY → Prop} {pi pj : Int32} (hA : rf_Ba A) (hN : rf_Nu nu) (hg : g ≤ 4) (hn : n ≤ 11) (hq : pj ≤ pi ∨ ∃ i, i < n ∧ pi = nI i)
    (hpost : ∀ tp my be bm bc wm wb sg op ma bM, rf_YB (rf_ft A g) (rf_H hl) n (rf_sc A nu n) (3 ^ n) my be bm bc bM → rf_YW (rf_QW (rf_ft A g) (rf_H hl) n pi pj) (rf_sc A nu n) (3 ^ n) wm wb → post (nI g, nI n, tp, my, be, bm, bc, wm, wb, A, hl, nu, sg, op, ma, bM)) :
    wpY_explore post (nI g, nI n, tp, my, be, bm, bc, wm, wb, A, hl, nu, sg, op, ma, bM) pi pj := by
  have h31 := rf_p31 hn
  have hmu : rf_mu n 0 0 0 (fun _ => 0) ≤ 600000 := by
    have e : rf_ds (fun _ => 0) 0 = 0 := rfl
    unfold rf_mu
    rw [e]
    omega
  refine ⟨13, ry_22 (fun ma' => ⟨rf_mu n 0 0 0 (fun _ => 0) + 1, ?_⟩) 12 0 ma (by omega)⟩
  exact ry_el hA hN hg hn hq hpost (rf_mu n 0 0 0 (fun _ => 0) + 1) 0 0 0 0 (fun _ => 0) 0 0 be 0 bc 0 wb sg op ma' bM (by omega) (by omega) (fun _ => rfl) (fun q hq => by omega) (fun q hq => by omega) ⟨rfl, trivial, fun q hq => by omega, fun q hq => by omega⟩ ⟨fun _ => by
    show 0 = (3 * 0 + 0) * 3 ^ (n - (0 + 1))
    rw [Nat.mul_zero, Nat.add_zero, Nat.zero_mul], fun _ => rfl⟩ (by omega) (by omega) (rf_YB_0 _ _ _ _ _ _ _) (rf_YW_0 _ _ _)
end
