/-! digits put one behind another, and what is passed over -/
def rf_up (d : Nat → Nat) (p s : Nat) : Nat → Nat := fun q => if q = p then s else d q
theorem rf_up_s {d : Nat → Nat} {p s : Nat} : rf_up d p s p = s := if_pos rfl
theorem rf_up_n {d : Nat → Nat} {p s q : Nat} (h : q ≠ p) : rf_up d p s q = d q := if_neg h
theorem rf_up_3 {d : Nat → Nat} {p s : Nat} (hd : ∀ q, q < p → d q < 3) (hs : s < 3) : ∀ q, q < p + 1 → rf_up d p s q < 3 := by
  intro q hq
  by_cases h : q = p
  · rw [h, rf_up_s]; exact hs
  · rw [rf_up_n h]; exact hd q (by omega)
theorem rf_up_b {d : Nat → Nat} {p s : Nat} : ∀ q, q < p → rf_up d p s q = d q := fun q hq => rf_up_n (by omega)
theorem rf_up_vl {d : Nat → Nat} {p s : Nat} : rf_vl (rf_up d p s) (p + 1) = 3 * rf_vl d p + s := by
  show 3 * rf_vl (rf_up d p s) p + rf_up d p s p = _
  rw [rf_up_s, rf_vl_cg p rf_up_b]
theorem rf_skipY {ft H : Nat → Nat → Prop} {n p fr s : Nat} {d : Nat → Nat} (hp : p < n) (hd : ∀ q, q < p → d q < 3) (hs3 : s ≤ 3) (hno : ∀ s', fr ≤ s' → s' < s → ¬ (H p s' ∧ rf_vd ft (rf_up d p s') p)) : ∀ c, (3 * rf_vl d p + fr) * 3 ^ (n - (p + 1)) ≤ c → c < (3 * rf_vl d p + s) * 3 ^ (n - (p + 1)) → ¬ rf_ok ft H n c := by
  intro c h1 h2 hok
  have hP : 0 < 3 ^ (n - (p + 1)) := Nat.pow_pos (by decide)
  have q1 : 3 * rf_vl d p + fr ≤ c / 3 ^ (n - (p + 1)) := (Nat.le_div_iff_mul_le hP).mpr h1
  have q2 : c / 3 ^ (n - (p + 1)) < 3 * rf_vl d p + s := (Nat.div_lt_iff_lt_mul hP).mpr h2
  obtain ⟨s', e⟩ : ∃ s', c / 3 ^ (n - (p + 1)) = 3 * rf_vl d p + s' := ⟨c / 3 ^ (n - (p + 1)) - 3 * rf_vl d p, by omega⟩
  have hdg := rf_blk (n := n) (c := c) (d := rf_up d p s') (p + 1) (by omega) (rf_up_3 hd (by omega)) (by rw [e, rf_up_vl])
  have h9 := hok.1 p hp
  have e2 := hdg p (by omega)
  rw [rf_up_s] at e2
  exact hno s' (by omega) (by omega) ⟨by rw [← e2]; exact h9.1, (rf_vd_cg (fun k hk => hdg k hk)).mp h9.2⟩
/-- the code of n digits has just these digits -/
theorem rf_dg_vl {n : Nat} {d : Nat → Nat} (hd : ∀ q, q < n → d q < 3) : ∀ q, q < n → rf_dg n (rf_vl d n) q = d q :=
  rf_blk n (Nat.le_refl _) hd (by rw [Nat.sub_self, Nat.pow_zero, Nat.div_one])
theorem rf_ok_vl {ft H : Nat → Nat → Prop} {n : Nat} {d : Nat → Nat} (hd : ∀ q, q < n → d q < 3) : rf_ok ft H n (rf_vl d n) ↔ rf_Sy ft H d n ∧ rf_sk d n = [] := by
  have h := rf_dg_vl hd
  unfold rf_ok
  rw [(rf_cg n h).1]
  exact ⟨fun h9 => ⟨rf_Sy_cg h h9.1, h9.2⟩, fun h9 => ⟨rf_Sy_cg (fun q hq => (h q hq).symm) h9.1, h9.2⟩⟩
/-- the list of pending places lies in the array, the last one at the end -/
def rf_ly (a : Nat → Int32) : List Nat → Prop
  | [] => True
  | i :: st => a st.length = nI i ∧ rf_ly a st
theorem rf_ly_u {a : Nat → Int32} {k : Nat} {x : Int32} : ∀ st : List Nat, st.length ≤ k → rf_ly a st → rf_ly (upd a k x) st := by
  intro st
  induction st with
  | nil => intro _ _; trivial
  | cons i st ih =>
    intro hk h
    have hk' : st.length + 1 ≤ k := hk
    refine ⟨?_, ih (by omega) h.2⟩
    rw [pk_un (by omega)]
    exact h.1
theorem rf_ly_p {a : Nat → Int32} {st : List Nat} {i : Nat} (h : rf_ly a st) : rf_ly (upd a st.length (nI i)) (i :: st) :=
  ⟨pk_us, rf_ly_u st (Nat.le_refl _) h⟩
/-- where the order of the codes stands: all codes below v are done -/
def rf_at (n p fr v : Nat) (d : Nat → Nat) : Prop := (p < n → v = (3 * rf_vl d p + fr) * 3 ^ (n - (p + 1))) ∧ (p = n → v = rf_vl d p)
def rf_ds (d : Nat → Nat) : Nat → Nat
  | 0 => 0
  | p + 1 => rf_ds d p + d p
theorem rf_ds_cg {d e : Nat → Nat} : ∀ p, (∀ q, q < p → d q = e q) → rf_ds d p = rf_ds e p := by
  intro p
  induction p with
  | zero => intro _; rfl
  | succ p ih =>
    intro h
    show rf_ds d p + d p = rf_ds e p + e p
    rw [ih (fun q hq => h q (by omega)), h p (by omega)]
/-- the turns that are left -/
def rf_mu (n p fr v : Nat) (d : Nat → Nat) : Nat := 3 * (3 ^ n - v) + fr + rf_ds d p + (11 - p)
theorem rf_pw {n p : Nat} (h : p < n) : 3 ^ (n - p) = 3 * 3 ^ (n - (p + 1)) := by
  rw [show n - p = (n - (p + 1)) + 1 by omega, Nat.pow_succ, Nat.mul_comm]
theorem rf_pn {n p : Nat} (h : p ≤ n) : 3 ^ n = 3 ^ p * 3 ^ (n - p) := by
  rw [← Nat.pow_add, show p + (n - p) = n by omega]
theorem rf_vE {n p : Nat} {d : Nat → Nat} (h : p ≤ n) (hd : ∀ q, q < p → d q < 3) : rf_vl d p * 3 ^ (n - p) + 3 ^ (n - p) ≤ 3 ^ n := by
  have h1 := rf_vl_lt p hd
  rw [rf_pn h]
  have h2 := Nat.mul_le_mul_right (3 ^ (n - p)) h1
  rw [Nat.succ_mul] at h2
  exact h2
/-- a digit is put: from v on to the codes with it -/
theorem rf_dn {n p fr s v : Nat} {d : Nat → Nat} (hn : n ≤ 11) (hp : p < n) (hd : ∀ q, q < p → d q < 3) (h1 : fr ≤ s) (h2 : s < 3) (hv : rf_at n p fr v d) :
    ∃ v', v' = (3 * rf_vl d p + s) * 3 ^ (n - (p + 1)) ∧ v ≤ v' ∧ v' ≤ 3 ^ n ∧ rf_at n (p + 1) 0 v' (rf_up d p s) ∧ rf_mu n (p + 1) 0 v' (rf_up d p s) < rf_mu n p fr v d := by
  have hv1 := hv.1 hp
  have hE := rf_vE (n := n) (p := p + 1) (d := rf_up d p s) (by omega) (rf_up_3 hd h2)
  rw [rf_up_vl] at hE
  have hP : 0 < 3 ^ (n - (p + 1)) := Nat.pow_pos (by decide)
  have hle : (3 * rf_vl d p + fr) * 3 ^ (n - (p + 1)) + (s - fr) ≤ (3 * rf_vl d p + s) * 3 ^ (n - (p + 1)) := by
    have e : 3 * rf_vl d p + s = (3 * rf_vl d p + fr) + (s - fr) := by omega
    have h9 := Nat.mul_le_mul_left (s - fr) hP
    have e2 : (3 * rf_vl d p + s) * 3 ^ (n - (p + 1)) = (3 * rf_vl d p + fr) * 3 ^ (n - (p + 1)) + (s - fr) * 3 ^ (n - (p + 1)) := by rw [← Nat.add_mul, ← e]
    omega
  refine ⟨_, rfl, by omega, by omega, ⟨fun h => ?_, fun h => ?_⟩, ?_⟩
  · rw [rf_up_vl, rf_pw h, Nat.add_zero (3 * (3 * rf_vl d p + s)), Nat.mul_comm 3 (3 * rf_vl d p + s), Nat.mul_assoc]
  · rw [rf_up_vl, h, Nat.sub_self, Nat.pow_zero, Nat.mul_one]
  · have e1 : rf_ds (rf_up d p s) (p + 1) = rf_ds d p + s := by
      show rf_ds (rf_up d p s) p + rf_up d p s p = _
      rw [rf_up_s, rf_ds_cg p rf_up_b]
    unfold rf_mu
    rw [e1]
    omega
/-- one step back from a place where nothing more can be put -/
theorem rf_bk {n p fr v : Nat} {d : Nat → Nat} (hn : n ≤ 11) (hp : p < n) (hd : ∀ q, q < p + 1 → d q < 3) (hf : fr ≤ 3) {v0 : Nat} (hv0 : rf_at n (p + 1) fr v0 d) (hleaf : p + 1 = n → fr = 0) (hv : v = (rf_vl d (p + 1) + 1) * 3 ^ (n - (p + 1))) :
    v0 ≤ v ∧ v ≤ 3 ^ n ∧ rf_at n p (d p + 1) v d ∧ rf_mu n p (d p + 1) v d < rf_mu n (p + 1) fr v0 d := by
  have hE := rf_vE (n := n) (p := p + 1) (d := d) (by omega) hd
  have hE2 : v ≤ 3 ^ n := by rw [hv, Nat.add_mul, Nat.one_mul]; exact hE
  have e1 : rf_ds d (p + 1) = rf_ds d p + d p := rfl
  have hat : rf_at n p (d p + 1) v d := ⟨fun _ => by rw [hv]; rfl, fun h => by omega⟩
  by_cases h9 : p + 1 = n
  · have e2 := hv0.2 h9
    have e3 : v = rf_vl d (p + 1) + 1 := by rw [hv, h9, Nat.sub_self, Nat.pow_zero, Nat.mul_one]
    refine ⟨by omega, hE2, hat, ?_⟩
    unfold rf_mu
    rw [e1]
    omega
  · have e2 := hv0.1 (by omega)
    have hP : 0 < 3 ^ (n - (p + 1 + 1)) := Nat.pow_pos (by decide)
    have e3 : v = (3 * rf_vl d (p + 1) + fr) * 3 ^ (n - (p + 1 + 1)) + (3 - fr) * 3 ^ (n - (p + 1 + 1)) := by
      rw [hv, rf_pw (by omega), ← Nat.add_mul, ← Nat.mul_assoc, show 3 * rf_vl d (p + 1) + fr + (3 - fr) = (rf_vl d (p + 1) + 1) * 3 by omega]
    have e4 := Nat.mul_le_mul_left (3 - fr) hP
    refine ⟨by omega, hE2, hat, ?_⟩
    unfold rf_mu
    rw [e1]
    omega
