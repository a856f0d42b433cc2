/-! the component's survey of all codes -/
def rf_Q (ft H : Nat → Nat → Prop) (n : Nat) (pi pj : Int32) (c : Nat) : Prop := rf_ok ft H n c ∧ (pi = -1 ∨ (¬ pj ≤ pi ∧ rf_mt (rf_dg n c) n pi.toNatClampNeg = pj))
section
variable {g n : Nat} {F B M C : Int32} {A hl nu dig par opn : Nat → Int32}
theorem rx_h {post : Int32 → Prop} {pi pj : Int32} {c : Nat} (hn : n ≤ 11) (hq : pi = -1 ∨ ∃ i, i < n ∧ pi = nI i) (hpar : ∀ q, q < n → par q = rf_mt (rf_dg n c) n q)
    (h1 : (pi = -1 ∨ (¬ pj ≤ pi ∧ rf_mt (rf_dg n c) n pi.toNatClampNeg = pj)) → post 1) (h0 : ¬ (pi = -1 ∨ (¬ pj ≤ pi ∧ rf_mt (rf_dg n c) n pi.toNatClampNeg = pj)) → post 0) :
    wpX_hasPair post (nI g, nI n, F, B, M, C, A, hl, nu, dig, par, opn) pi pj := by
  by_cases c1 : pi = -1
  · exact br_t c1 (h1 (Or.inl c1))
  · refine br_f c1 ?_
    obtain ⟨i, hi, e⟩ : ∃ i, i < n ∧ pi = nI i := hq.resolve_left c1
    by_cases c2 : pj ≤ pi
    · refine br_t c2 (h0 (fun z => ?_))
      rcases z with z | z
      · exact c1 z
      · exact z.1 c2
    · have ep : par pi.toNatClampNeg = rf_mt (rf_dg n c) n pi.toNatClampNeg := by
        rw [e, nI_clamp (by omega)]; exact hpar i hi
      refine br_f c2 ⟨by rw [e]; exact vp_in_nI (by omega) (by omega), ?_⟩
      rw [ep]
      by_cases c3 : rf_mt (rf_dg n c) n pi.toNatClampNeg = pj
      · exact br_t c3 (h1 (Or.inr ⟨c2, c3⟩))
      · refine br_f c3 (h0 (fun z => ?_))
        rcases z with z | z
        · exact c1 z
        · exact c3 z.2
theorem rx_n {post : SX → Prop} {a : Nat × Int32 × Int32 × Int32} {v k : Int32} (hp : post (nI g, nI n, nI (rf_st a v k).1, (rf_st a v k).2.1, (rf_st a v k).2.2.1, (rf_st a v k).2.2.2, A, hl, nu, dig, par, opn)) :
    wpX_count post (nI g, nI n, nI a.1, a.2.1, a.2.2.1, a.2.2.2, A, hl, nu, dig, par, opn) k v := by
  refine nm_r (nI_1 a.1) ?_
  by_cases c1 : v ≤ a.2.1
  · have c1' : ¬ a.2.1 < v := Int32.not_lt.mpr c1
    refine br_t c1 ?_
    by_cases c2 : v = a.2.1
    · rw [rf_st_e c1' c2] at hp
      exact br_t c2 (nm_e hp)
    · rw [rf_st_n c1' c2] at hp
      exact br_f c2 hp
  · have c1' : a.2.1 < v := Int32.not_le.mp c1
    rw [rf_st_t c1'] at hp
    exact br_f c1 (br_t rfl (nm_e hp))
theorem rx_vl {post : SX → Prop} {pi pj : Int32} (hA : rf_Ba A) (hg : g ≤ 4) (hn : n ≤ 11) (hq : pi = -1 ∨ ∃ i, i < n ∧ pi = nI i)
    (hp : ∀ dig par opn, post (nI g, nI n, nI (rf_ac (rf_Q (rf_ft A g) (rf_H hl) n pi pj) (rf_sc A nu n) (3 ^ n)).1, (rf_ac (rf_Q (rf_ft A g) (rf_H hl) n pi pj) (rf_sc A nu n) (3 ^ n)).2.1, (rf_ac (rf_Q (rf_ft A g) (rf_H hl) n pi pj) (rf_sc A nu n) (3 ^ n)).2.2.1, (rf_ac (rf_Q (rf_ft A g) (rf_H hl) n pi pj) (rf_sc A nu n) (3 ^ n)).2.2.2, A, hl, nu, dig, par, opn)) :
    ∀ t c nx dig par opn, c + t = 3 ^ n → nx ≤ 400000 → (nx ≤ c → rf_BB (rf_ft A g) (rf_H hl) n c) → (c < nx → rf_BB (rf_ft A g) (rf_H hl) n nx ∧ ∀ c', c ≤ c' → c' < nx → ¬ rf_ok (rf_ft A g) (rf_H hl) n c') →
      wX_survey_36 post pi pj (nI (3 ^ n)) (t + 1) (nI nx) (nI c) (nI g) (nI n) (nI (rf_ac (rf_Q (rf_ft A g) (rf_H hl) n pi pj) (rf_sc A nu n) c).1) (rf_ac (rf_Q (rf_ft A g) (rf_H hl) n pi pj) (rf_sc A nu n) c).2.1 (rf_ac (rf_Q (rf_ft A g) (rf_H hl) n pi pj) (rf_sc A nu n) c).2.2.1 (rf_ac (rf_Q (rf_ft A g) (rf_H hl) n pi pj) (rf_sc A nu n) c).2.2.2 A hl nu dig par opn := by
  have h31 := rf_p31 hn
  intro t
  induction t with
  | zero =>
    intro c nx dig par opn hc hnx hB hN
    have e : c = 3 ^ n := by omega
    rw [e]
    exact br_t (nI_le (Nat.le_refl _) (by omega)) (hp dig par opn)
  | succ t ih =>
    intro c nx dig par opn hc hnx hB hN
    refine br_f (nI_ge (by omega) (by omega)) ?_
    by_cases c1 : nx ≤ c
    · refine br_t (nI_le c1 (by omega)) ?_
      refine rx_f (H := rf_H hl) hA hg hn (by omega) (Or.inr ⟨by decide, rfl⟩) (fun dig par opn hd hok hpar => ?_) (fun s dig par opn hfs => ?_)
      · refine br_t (nI_le (Nat.le_refl _) (by omega)) ?_
        have hB1 : rf_BB (rf_ft A g) (rf_H hl) n (c + 1) := rf_BB_s hok
        refine rx_h hn hq hpar (fun z => ?_) (fun z => ?_)
        · refine br_f (by decide) ?_
          refine rx_s hA (rf_Fo_of hok.1 hok.2) hn hd (rf_dg3 n c) hpar ?_
          refine rx_n (nm_r (nI_1 c) ?_)
          have hac := rf_ac_t (Q := rf_Q (rf_ft A g) (rf_H hl) n pi pj) (sc := rf_sc A nu n) (c := c) ⟨hok, z⟩
          have h9 := ih (c + 1) nx dig par opn (by omega) hnx (fun _ => hB1) (fun z => by omega)
          rw [hac] at h9
          exact h9
        · refine br_t rfl (nm_r (nI_1 c) ?_)
          have hac := rf_ac_f (Q := rf_Q (rf_ft A g) (rf_H hl) n pi pj) (sc := rf_sc A nu n) (c := c) (fun y => z y.2)
          have h9 := ih (c + 1) nx dig par opn (by omega) hnx (fun _ => hB1) (fun z => by omega)
          rw [hac] at h9
          exact h9
      · have hs := hfs.1
        have es : nI n - 1 - nI s = nI (n - 1 - s) := by
          show nI n - nI 1 - nI s = _
          rw [pk_sub (by omega), pk_sub (by omega)]
        obtain ⟨b1, b2⟩ := rf_BB_n (hB c1) hfs
        have hM := rf_p31 (k := n - 1 - s) (by omega)
        have hM0 : 0 < 3 ^ (n - 1 - s) := Nat.pow_pos (by decide)
        refine br_f (nI_ge hs (by omega)) ?_
        rw [es]
        refine rx_t (by omega) (nm_r (nI_add c (3 ^ (n - 1 - s))) (nm_r (nI_1 c) ?_))
        have hac := rf_ac_f (Q := rf_Q (rf_ft A g) (rf_H hl) n pi pj) (sc := rf_sc A nu n) (c := c) (fun y => rf_fs_nok hfs y.1)
        have h9 := ih (c + 1) (c + 3 ^ (n - 1 - s)) dig par opn (by omega) (by omega) (fun z => by
          have e : c + 1 = c + 3 ^ (n - 1 - s) := by omega
          rw [e]; exact b1) (fun z => ⟨b1, fun c' h1 h2 => b2 c' (by omega) h2⟩)
        rw [hac] at h9
        exact h9
    · obtain ⟨b1, b2⟩ := hN (by omega)
      refine br_f (nI_ge (by omega) (by omega)) (nm_r (nI_1 c) ?_)
      have hac := rf_ac_f (Q := rf_Q (rf_ft A g) (rf_H hl) n pi pj) (sc := rf_sc A nu n) (c := c) (fun y => b2 c (Nat.le_refl _) (by omega) y.1)
      have h9 := ih (c + 1) nx dig par opn (by omega) hnx (fun z => by
        have e : c + 1 = nx := by omega
        rw [e]; exact b1) (fun z => ⟨b1, fun c' h1 h2 => b2 c' (by omega) h2⟩)
      rw [hac] at h9
      exact h9
theorem rx_v {post : SX → Prop} {pi pj : Int32} (hA : rf_Ba A) (hg : g ≤ 4) (hn : n ≤ 11) (hq : pi = -1 ∨ ∃ i, i < n ∧ pi = nI i)
    (hp : ∀ dig par opn, post (nI g, nI n, nI (rf_ac (rf_Q (rf_ft A g) (rf_H hl) n pi pj) (rf_sc A nu n) (3 ^ n)).1, (rf_ac (rf_Q (rf_ft A g) (rf_H hl) n pi pj) (rf_sc A nu n) (3 ^ n)).2.1, (rf_ac (rf_Q (rf_ft A g) (rf_H hl) n pi pj) (rf_sc A nu n) (3 ^ n)).2.2.1, (rf_ac (rf_Q (rf_ft A g) (rf_H hl) n pi pj) (rf_sc A nu n) (3 ^ n)).2.2.2, A, hl, nu, dig, par, opn)) :
    wpX_survey post (nI g, nI n, F, B, M, C, A, hl, nu, dig, par, opn) pi pj := by
  unfold wpX_survey
  refine rx_t hn ⟨3 ^ n + 1, ?_⟩
  exact rx_vl hA hg hn hq hp (3 ^ n) 0 0 dig par opn (by omega) (by omega) (fun _ => Or.inl rfl) (fun z => absurd z (Nat.lt_irrefl 0))
end
