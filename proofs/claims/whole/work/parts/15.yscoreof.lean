/-! the reference's scoreOf; small facts for the methods -/
def rf_T (_ _ : Nat) : Prop := True
theorem rf_up_self (d : Nat → Nat) (p : Nat) : rf_up d p (d p) = d := by
  funext q
  by_cases h : q = p
  · rw [h, rf_up_s]
  · rw [rf_up_n h]
section
variable {g n : Nat} {tp my be bm bc wm wb : Int32} {A hl nu sg op ma bM : Nat → Int32}
theorem ry_o107 {post : Int32 → SY → Prop} {c : Nat} (hA : rf_Ba A) (hn : n ≤ 11) (hSy : rf_Sy (rf_ft A g) rf_T (rf_dg n c) n) (hS : ry_St (rf_dg n c) n tp sg op ma)
    (kY : rf_ok (rf_ft A g) rf_T n c → post (rf_sc A nu n c) (nI g, nI n, tp, my, be, bm, bc, wm, wb, A, hl, nu, sg, op, ma, bM))
    (kN : ¬ rf_ok (rf_ft A g) rf_T n c → post (-1000) (nI g, nI n, tp, my, be, bm, bc, wm, wb, A, hl, nu, sg, op, ma, bM)) :
    wY_scoreOf_107 post (nI g) (nI n) tp my be bm bc wm wb A hl nu sg op ma bM := by
  have hlen := rf_lenp (rf_dg n c) n
  cases hs : rf_sk (rf_dg n c) n with
  | nil =>
    refine br_t (by rw [hS.1, hs]; rfl) ?_
    exact ry_s hA (rf_Fo_of hSy hs) hn hS.2.2.2 (kY ⟨hSy, hs⟩)
  | cons i st =>
    rw [hs] at hlen
    have hlen2 : st.length + 1 ≤ n := hlen
    refine br_f (by rw [hS.1, hs]; exact nI_ne0 (by show 0 < st.length + 1; omega) (by show st.length + 1 < 2 ^ 31; omega)) (kN (fun z => ?_))
    have z2 := z.2
    rw [hs] at z2
    exact absurd z2 (by simp)
theorem ry_o45 {post : Int32 → SY → Prop} {c : Nat} (hA : rf_Ba A) (hg : g ≤ 4) (hn : n ≤ 11) (hc : c < 3 ^ n)
    (kY : ∀ tp sg op ma, rf_ok (rf_ft A g) rf_T n c → post (rf_sc A nu n c) (nI g, nI n, tp, my, be, bm, bc, wm, wb, A, hl, nu, sg, op, ma, bM))
    (kN : ∀ tp sg op ma, ¬ rf_ok (rf_ft A g) rf_T n c → post (-1000) (nI g, nI n, tp, my, be, bm, bc, wm, wb, A, hl, nu, sg, op, ma, bM)) :
    ∀ t p tp sg op ma, p + t = n → rf_Sy (rf_ft A g) rf_T (rf_dg n c) p → ry_St (rf_dg n c) p tp sg op ma → wY_scoreOf_45 post (t + 1) (nI (3 ^ (n - p))) (nI (c % 3 ^ (n - p))) (nI p) (nI g) (nI n) tp my be bm bc wm wb A hl nu sg op ma bM := by
  intro t
  induction t with
  | zero =>
    intro p tp sg op ma hp hSy hS
    have e : p = n := by omega
    subst e
    exact br_t (nI_le (Nat.le_refl _) (by omega)) (ry_o107 hA hn hSy hS (kY _ _ _ _) (kN _ _ _ _))
  | succ t ih =>
    intro p tp sg op ma hp hSy hS
    have hpn : p < n := by omega
    have hM31 := rf_p31 (k := n - (p + 1)) (by omega)
    have hM31' := rf_p31 (k := n - p) (by omega)
    have hM0 : 0 < 3 ^ (n - (p + 1)) := Nat.pow_pos (by decide)
    have epw : 3 ^ (n - p) = 3 ^ (n - (p + 1)) * 3 := by rw [rf_pw hpn, Nat.mul_comm]
    have hr : c % 3 ^ (n - p) < 3 ^ (n - p) := Nat.mod_lt _ (by omega)
    have edg : c % 3 ^ (n - p) / 3 ^ (n - (p + 1)) = rf_dg n c p := by
      rw [epw, Nat.mod_mul_right_div_self]
      unfold rf_dg
      rw [show n - 1 - p = n - (p + 1) by omega]
    have h3 := rf_dg3 n c p
    refine br_f (nI_ge (by omega) (by omega)) (br_f (nI_ge (b := 11) (by omega) (by omega)) ⟨by decide, nm_r (e' := nI (3 ^ (n - (p + 1)))) ?_ ?_⟩)
    · show nI (3 ^ (n - p)) / nI 3 = _
      rw [pk_div (by omega) (by decide) (by decide), epw, Nat.mul_div_cancel _ (by decide)]
    · refine br_t (nI_le (a := 1) (by omega) (by omega)) ⟨nI_ne0 hM0 (by omega), ?_⟩
      rw [pk_div (by omega) hM0 (by omega), edg]
      refine ry_put hA hg hn hpn h3 hS (fun tp' sg' op' ma' hv hS' => ?_) (fun hv => ?_)
      · rw [rf_up_self] at hv hS'
        refine br_f (by decide) (nm_r (e' := nI (c % 3 ^ (n - (p + 1)))) ?_ (nm_r (nI_1 p) (ih (p + 1) tp' sg' op' ma' (by omega) (fun q hq => ?_) hS')))
        · have h9 := Nat.div_add_mod' (c % 3 ^ (n - p)) (3 ^ (n - (p + 1)))
          have h8 : c % 3 ^ (n - p) % 3 ^ (n - (p + 1)) = c % 3 ^ (n - (p + 1)) := by rw [epw, Nat.mod_mul_right_mod]
          rw [edg, h8] at h9
          rw [pk_mul, pk_sub (by omega)]
          exact congrArg nI (by omega)
        · by_cases hqp : q = p
          · rw [hqp]; exact ⟨trivial, hv⟩
          · exact hSy q (by omega)
      · rw [rf_up_self] at hv
        exact br_t rfl (kN _ _ _ _ (fun z => hv (z.1 p hpn).2))
theorem ry_o4 {post : Int32 → SY → Prop} {v1 : Int32} (hn : n ≤ 11)
    (kY : ((v1 < 0 → (post (-1000) (nI g, nI n, tp, my, be, bm, bc, wm, wb, A, hl, nu, sg, op, ma, bM))) ∧ (¬ v1 < 0 → (((v1 < nI (3 ^ n) → (∃ m, wY_scoreOf_45 post m (nI (3 ^ n)) v1 0 (nI g) (nI n) 0 my be bm bc wm wb A hl nu sg op ma bM)) ∧ (¬ v1 < nI (3 ^ n) → (post (-1000) (nI g, nI n, tp, my, be, bm, bc, wm, wb, A, hl, nu, sg, op, ma, bM)))))))) :
    ∀ t p, p + t = n → wY_scoreOf_4 post v1 (nI g) (nI n) tp my be bm bc wm wb A hl nu sg op ma bM (t + 1) (nI (3 ^ p)) (nI p) := by
  intro t
  induction t with
  | zero =>
    intro p hp
    have e : p = n := by omega
    subst e
    exact br_t (nI_le (Nat.le_refl _) (by omega)) kY
  | succ t ih =>
    intro p hp
    refine br_f (nI_ge (by omega) (by omega)) (nm_r (e' := nI (3 ^ (p + 1))) ?_ (nm_r (nI_1 p) (ih (p + 1) (by omega))))
    show nI 3 * nI (3 ^ p) = _
    rw [pk_mul, Nat.mul_comm, ← Nat.pow_succ]
theorem ry_o {post : Int32 → SY → Prop} {v1 : Int32} (hA : rf_Ba A) (hg : g ≤ 4) (hn : n ≤ 11)
    (kB : (v1 < 0 ∨ nI (3 ^ n) ≤ v1) → post (-1000) (nI g, nI n, tp, my, be, bm, bc, wm, wb, A, hl, nu, sg, op, ma, bM))
    (kY : ∀ c tp sg op ma, c < 3 ^ n → v1 = nI c → rf_ok (rf_ft A g) rf_T n c → post (rf_sc A nu n c) (nI g, nI n, tp, my, be, bm, bc, wm, wb, A, hl, nu, sg, op, ma, bM))
    (kN : ∀ c tp sg op ma, c < 3 ^ n → v1 = nI c → ¬ rf_ok (rf_ft A g) rf_T n c → post (-1000) (nI g, nI n, tp, my, be, bm, bc, wm, wb, A, hl, nu, sg, op, ma, bM)) :
    wpY_scoreOf post (nI g, nI n, tp, my, be, bm, bc, wm, wb, A, hl, nu, sg, op, ma, bM) v1 := by
  have h31 := rf_p31 hn
  refine ⟨n + 1, ry_o4 hn ?_ n 0 (by omega)⟩
  rcases pk_ix v1 (n := 3 ^ n) (by omega) with h | h | ⟨c, hc, e⟩
  · exact br_t h (kB (Or.inl h))
  · by_cases h0 : v1 < 0
    · exact br_t h0 (kB (Or.inl h0))
    · exact br_f h0 (br_f (Int32.not_lt.mpr h) (kB (Or.inr h)))
  · subst e
    refine br_f (nI_pos (by omega)) (br_t (nI_lt hc (by omega)) ⟨n + 1, ?_⟩)
    have h9 := ry_o45 (my := my) (be := be) (bm := bm) (bc := bc) (wm := wm) (wb := wb) (hl := hl) (nu := nu) (bM := bM) (post := post) hA hg hn hc (fun tp sg op ma a => kY c tp sg op ma hc rfl a) (fun tp sg op ma a => kN c tp sg op ma hc rfl a) n 0 0 sg op ma (by omega) (fun q hq => by omega) ⟨rfl, trivial, fun q hq => by omega, fun q hq => by omega⟩
    rw [Nat.sub_zero, Nat.mod_eq_of_lt hc] at h9
    exact h9
end
/-- the least code of a best fold is a fold's -/
theorem rf_ac_b {Q : Nat → Prop} {sc : Nat → Int32} (hs : ∀ c, (-1000 : Int32) < sc c) : ∀ v, 0 < (rf_ac Q sc v).1 → ∃ c0, c0 < v ∧ Q c0 ∧ (rf_ac Q sc v).2.2.2 = nI c0 := by
  intro v
  induction v with
  | zero => intro h; exact absurd h (Nat.lt_irrefl 0)
  | succ v ih =>
    by_cases hq : Q v
    · rw [rf_ac_t hq]
      intro _
      by_cases c1 : (rf_ac Q sc v).2.1 < sc v
      · rw [rf_st_t c1]
        exact ⟨v, by omega, hq, rfl⟩
      · have hp : 0 < (rf_ac Q sc v).1 := by
          by_cases m0 : (rf_ac Q sc v).1 = 0
          · rw [(rf_ac_m m0).1] at c1
            exact absurd (hs v) c1
          · omega
        obtain ⟨c0, h1, h2, h3⟩ := ih hp
        by_cases c2 : sc v = (rf_ac Q sc v).2.1
        · rw [rf_st_e c1 c2]
          exact ⟨c0, by omega, h2, h3⟩
        · rw [rf_st_n c1 c2]
          exact ⟨c0, by omega, h2, h3⟩
    · rw [rf_ac_f hq]
      intro h
      obtain ⟨c0, h1, h2, h3⟩ := ih h
      exact ⟨c0, by omega, h2, h3⟩
theorem rf_Qm1 (ft H : Nat → Nat → Prop) (n : Nat) (pj : Int32) : rf_Q ft H n (-1) pj = rf_ok ft H n :=
  funext fun _ => propext ⟨And.left, fun h => ⟨h, Or.inl rfl⟩⟩
theorem rf_Qn (ft H : Nat → Nat → Prop) (n : Nat) {i : Nat} (hi : i < 2 ^ 31) (pj : Int32) : rf_Q ft H n (nI i) pj = rf_QW ft H n (nI i) pj :=
  funext fun _ => propext ⟨fun h => ⟨h.1, h.2.resolve_left (rf_ne1 hi)⟩, fun h => ⟨h.1, Or.inr h.2⟩⟩
theorem rf_okT {ft H : Nat → Nat → Prop} {n c : Nat} (h : rf_ok ft H n c) : rf_ok ft rf_T n c :=
  ⟨fun q hq => ⟨trivial, (h.1 q hq).2⟩, h.2⟩
theorem rf_mtv {ft : Nat → Nat → Prop} {d : Nat → Nat} {n p : Nat} (F : rf_Fo ft d n) (hp : p < n) : rf_mt d n p = -1 ∨ ∃ j, j < n ∧ rf_mt d n p = nI j := by
  by_cases c1 : d p = 1
  · obtain ⟨j, _, j2, _, j4, _⟩ := rf_Fo_pr F hp c1
    exact Or.inr ⟨j, j2, j4⟩
  · by_cases c2 : d p = 2
    · obtain ⟨i, hi, e⟩ := (F p hp).2.1 c2
      exact Or.inr ⟨i, by omega, e⟩
    · exact Or.inl ((F p hp).2.2 c1 c2)
