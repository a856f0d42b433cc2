/-! the digits of a code, and what is gathered over the codes in their order -/
def rf_dg (n c q : Nat) : Nat := c / 3 ^ (n - 1 - q) % 3
theorem rf_dg3 (n c q : Nat) : rf_dg n c q < 3 := Nat.mod_lt _ (by decide)
def rf_vl (d : Nat → Nat) : Nat → Nat
  | 0 => 0
  | p + 1 => 3 * rf_vl d p + d p
theorem rf_vl_cg {d e : Nat → Nat} : ∀ p, (∀ q, q < p → d q = e q) → rf_vl d p = rf_vl e p := by
  intro p
  induction p with
  | zero => intro _; rfl
  | succ p ih =>
    intro h
    show 3 * rf_vl d p + d p = 3 * rf_vl e p + e p
    rw [ih (fun q hq => h q (by omega)), h p (by omega)]
theorem rf_vl_lt {d : Nat → Nat} : ∀ p, (∀ q, q < p → d q < 3) → rf_vl d p < 3 ^ p := by
  intro p
  induction p with
  | zero => intro _; exact Nat.one_pos
  | succ p ih =>
    intro h
    have a := ih (fun q hq => h q (by omega))
    have b := h p (by omega)
    show 3 * rf_vl d p + d p < 3 ^ (p + 1)
    rw [Nat.pow_succ]
    omega
theorem rf_blk {n c : Nat} {d : Nat → Nat} : ∀ p, p ≤ n → (∀ q, q < p → d q < 3) → c / 3 ^ (n - p) = rf_vl d p → ∀ q, q < p → rf_dg n c q = d q := by
  intro p
  induction p with
  | zero => intro _ _ _ q hq; omega
  | succ p ih =>
    intro hp hd hc q hq
    have e1 : n - p = (n - (p + 1)) + 1 := by omega
    have h3 := hd p (by omega)
    have hv : rf_vl d (p + 1) = 3 * rf_vl d p + d p := rfl
    by_cases hqp : q = p
    · rw [hqp]
      show c / 3 ^ (n - 1 - p) % 3 = d p
      rw [show n - 1 - p = n - (p + 1) by omega, hc, hv]
      omega
    · refine ih (by omega) (fun q hq => hd q (by omega)) ?_ q (by omega)
      rw [e1, Nat.pow_succ, ← Nat.div_div_eq_div_mul, hc, hv]
      omega
/-- the codes from v * M to below (v + 1) * M begin alike -/
theorem rf_blk2 {n p c : Nat} {d : Nat → Nat} (hp : p ≤ n) (hd : ∀ q, q < p → d q < 3) (h1 : rf_vl d p * 3 ^ (n - p) ≤ c) (h2 : c < rf_vl d p * 3 ^ (n - p) + 3 ^ (n - p)) : ∀ q, q < p → rf_dg n c q = d q := by
  refine rf_blk p hp hd ?_
  have hM : 0 < 3 ^ (n - p) := Nat.pow_pos (by decide)
  apply Nat.div_eq_of_lt_le
  · exact h1
  · rw [Nat.add_mul, Nat.one_mul]; exact h2
theorem rf_same {n s c c' : Nat} (hs : s < n) (h : c / 3 ^ (n - 1 - s) = c' / 3 ^ (n - 1 - s)) : ∀ q, q < s + 1 → rf_dg n c q = rf_dg n c' q := by
  intro q hq
  show c / 3 ^ (n - 1 - q) % 3 = c' / 3 ^ (n - 1 - q) % 3
  rw [show n - 1 - q = (n - 1 - s) + (s - q) by omega, Nat.pow_add, ← Nat.div_div_eq_div_mul, h, Nat.div_div_eq_div_mul]
def rf_st (a : Nat × Int32 × Int32 × Int32) (v k : Int32) : Nat × Int32 × Int32 × Int32 :=
  if a.2.1 < v then (a.1 + 1, v, 0 + 1, k) else if v = a.2.1 then (a.1 + 1, a.2.1, a.2.2.1 + 1, a.2.2.2) else (a.1 + 1, a.2.1, a.2.2.1, a.2.2.2)
noncomputable def rf_ac (Q : Nat → Prop) (sc : Nat → Int32) : Nat → Nat × Int32 × Int32 × Int32
  | 0 => (0, -1000, 0, -1)
  | c + 1 => @ite _ (Q c) (Classical.propDecidable (Q c)) (rf_st (rf_ac Q sc c) (sc c) (nI c)) (rf_ac Q sc c)
theorem rf_ac_t {Q : Nat → Prop} {sc : Nat → Int32} {c : Nat} (h : Q c) : rf_ac Q sc (c + 1) = rf_st (rf_ac Q sc c) (sc c) (nI c) := if_pos h
theorem rf_ac_f {Q : Nat → Prop} {sc : Nat → Int32} {c : Nat} (h : ¬ Q c) : rf_ac Q sc (c + 1) = rf_ac Q sc c := if_neg h
theorem rf_ac_s {Q : Nat → Prop} {sc : Nat → Int32} {a : Nat} : ∀ t, (∀ c, a ≤ c → c < a + t → ¬ Q c) → rf_ac Q sc (a + t) = rf_ac Q sc a := by
  intro t
  induction t with
  | zero => intro _; rfl
  | succ t ih =>
    intro h
    rw [show a + (t + 1) = a + t + 1 from rfl, rf_ac_f (h (a + t) (by omega) (by omega))]
    exact ih (fun c h1 h2 => h c h1 (by omega))
theorem rf_ac_s2 {Q : Nat → Prop} {sc : Nat → Int32} {a b : Nat} (hab : a ≤ b) (h : ∀ c, a ≤ c → c < b → ¬ Q c) : rf_ac Q sc b = rf_ac Q sc a := by
  have h9 := rf_ac_s (Q := Q) (sc := sc) (a := a) (b - a) (fun c h1 h2 => h c h1 (by omega))
  rw [show a + (b - a) = b by omega] at h9
  exact h9
theorem rf_st1 (a : Nat × Int32 × Int32 × Int32) (v k : Int32) : (rf_st a v k).1 = a.1 + 1 := by
  unfold rf_st
  split
  · rfl
  · split <;> rfl
theorem rf_ac_le (Q : Nat → Prop) (sc : Nat → Int32) : ∀ c, (rf_ac Q sc c).1 ≤ c := by
  intro c
  induction c with
  | zero => exact Nat.le_refl _
  | succ c ih =>
    by_cases h : Q c
    · rw [rf_ac_t h, rf_st1]; omega
    · rw [rf_ac_f h]; omega
theorem rf_ac_0 (Q : Nat → Prop) (sc : Nat → Int32) : ∀ c, (rf_ac Q sc c).1 = 0 → rf_ac Q sc c = (0, -1000, 0, -1) := by
  intro c
  induction c with
  | zero => intro _; rfl
  | succ c ih =>
    by_cases h : Q c
    · rw [rf_ac_t h, rf_st1]; intro h9; omega
    · rw [rf_ac_f h]; exact ih
/-! counting -/
def rf_cn (P : Nat → Bool) : Nat → Nat → Nat
  | _, 0 => 0
  | k, t + 1 => (if P k = true then 1 else 0) + rf_cn P (k + 1) t
theorem rf_cn_t {P : Nat → Bool} {k t : Nat} (h : P k = true) : rf_cn P k (t + 1) = 1 + rf_cn P (k + 1) t := by
  show (if P k = true then 1 else 0) + _ = _
  rw [if_pos h]
theorem rf_cn_f {P : Nat → Bool} {k t : Nat} (h : P k = false) : rf_cn P k (t + 1) = rf_cn P (k + 1) t := by
  show (if P k = true then 1 else 0) + _ = _
  rw [if_neg (by rw [h]; decide), Nat.zero_add]
theorem rf_cn_s {P : Nat → Bool} : ∀ (t k u : Nat), (∀ q, k ≤ q → q < k + t → P q = false) → rf_cn P k (t + u) = rf_cn P (k + t) u := by
  intro t
  induction t with
  | zero => intro k u _; rw [Nat.zero_add]; rfl
  | succ t ih =>
    intro k u h
    rw [show t + 1 + u = (t + u) + 1 by omega, rf_cn_f (h k (by omega) (by omega)), ih (k + 1) u (fun q h1 h2 => h q (by omega) (by omega)), show k + 1 + t = k + (t + 1) by omega]
theorem rf_cn_1 {P : Nat → Bool} : ∀ (t k q : Nat), k ≤ q → q < k + t → P q = true → 1 ≤ rf_cn P k t := by
  intro t
  induction t with
  | zero => intro k q h1 h2 _; omega
  | succ t ih =>
    intro k q h1 h2 h
    by_cases hk : q = k
    · rw [hk] at h; rw [rf_cn_t h]; omega
    · have h9 := ih (k + 1) q (by omega) (by omega) h
      show 1 ≤ (if P k = true then 1 else 0) + rf_cn P (k + 1) t
      omega
theorem rf_cn_2 {P : Nat → Bool} : ∀ (t k q r : Nat), k ≤ q → q < r → r < k + t → P q = true → P r = true → 2 ≤ rf_cn P k t := by
  intro t
  induction t with
  | zero => intro k q r h1 h2 h3 _ _; omega
  | succ t ih =>
    intro k q r h1 h2 h3 h h'
    by_cases hk : q = k
    · have h9 := rf_cn_1 t (k + 1) r (by omega) (by omega) h'
      rw [hk] at h
      rw [rf_cn_t h]
      omega
    · have h9 := ih (k + 1) q r (by omega) h2 (by omega) h h'
      show 2 ≤ (if P k = true then 1 else 0) + rf_cn P (k + 1) t
      omega
