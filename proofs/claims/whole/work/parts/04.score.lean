/-! kinds, fitting places, holds, allowed codes, the score -/
def rf_kd (x y : Nat) : Nat := if x + y = 3 then (if x = 0 ∨ x = 3 then 0 else 1) else if x + y = 5 then 2 else 3
theorem rf_kd3 (x y : Nat) : rf_kd x y ≤ 3 := by
  unfold rf_kd
  split
  · split <;> omega
  · split <;> omega
def rf_ft (A : Nat → Int32) (g : Nat) (i j : Nat) : Prop := g + i < j ∧ rf_kd (A i).toNatClampNeg (A j).toNatClampNeg ≠ 3
def rf_H (h : Nat → Int32) (q x : Nat) : Prop := h q = 0 ∨ h q = nI (x + 1)
def rf_ok (ft H : Nat → Nat → Prop) (n c : Nat) : Prop := rf_Sy ft H (rf_dg n c) n ∧ rf_sk (rf_dg n c) n = []
/-- s is the first unsound place of the code c -/
def rf_fs (ft H : Nat → Nat → Prop) (n c s : Nat) : Prop := s < n ∧ rf_Sx ft H n (rf_dg n c) s ∧ ¬ rf_Sx ft H n (rf_dg n c) (s + 1)
theorem rf_fs_same {ft H : Nat → Nat → Prop} {n c c' s : Nat} (e : c / 3 ^ (n - 1 - s) = c' / 3 ^ (n - 1 - s)) (h : rf_fs ft H n c s) : rf_fs ft H n c' s := by
  have h1 := rf_same h.1 e
  refine ⟨h.1, rf_Sx_cg (fun q hq => h1 q (by omega)) h.2.1, fun h9 => h.2.2 (rf_Sx_cg (fun q hq => (h1 q hq).symm) h9)⟩
theorem rf_fs_nok {ft H : Nat → Nat → Prop} {n c s : Nat} (h : rf_fs ft H n c s) : ¬ rf_ok ft H n c := by
  intro h9
  have h1 := h.1
  exact h.2.2 (fun q hq => rf_xy.mpr h9 q (by omega))
theorem rf_fs_un {ft H : Nat → Nat → Prop} {n c s s' : Nat} (h : rf_fs ft H n c s) (h' : rf_fs ft H n c s') : s = s' := by
  rcases Nat.lt_trichotomy s s' with h1 | h1 | h1
  · exact (h.2.2 (fun q hq => h'.2.1 q (by omega))).elim
  · exact h1
  · exact (h'.2.2 (fun q hq => h.2.1 q (by omega))).elim
theorem rf_pre {c M : Nat} (hM : 0 < M) (h : c % M ≠ 0) : (c - 1) / M = c / M := by
  have h1 := Nat.div_add_mod' c M
  have h2 := Nat.mod_lt c hM
  apply Nat.div_eq_of_lt_le
  · omega
  · rw [Nat.add_mul, Nat.one_mul]; omega
theorem rf_quo {c c' M : Nat} (h : c % M = 0) (h1 : c ≤ c') (h2 : c' < c + M) : c' / M = c / M := by
  have h3 := Nat.div_add_mod' c M
  apply Nat.div_eq_of_lt_le
  · omega
  · rw [Nat.add_mul, Nat.one_mul]; omega
/-- the code before c is sound, or its block ends at c -/
def rf_BB (ft H : Nat → Nat → Prop) (n c : Nat) : Prop := c = 0 ∨ ∀ s, rf_fs ft H n (c - 1) s → c % 3 ^ (n - 1 - s) = 0
theorem rf_BB_m {ft H : Nat → Nat → Prop} {n c s : Nat} (h : rf_BB ft H n c) (hs : rf_fs ft H n c s) : c % 3 ^ (n - 1 - s) = 0 := by
  rcases h with h | h
  · rw [h]; exact Nat.zero_mod _
  · by_cases h9 : c % 3 ^ (n - 1 - s) = 0
    · exact h9
    · exact h s (rf_fs_same (rf_pre (Nat.pow_pos (by decide)) h9).symm hs)
theorem rf_BB_n {ft H : Nat → Nat → Prop} {n c s : Nat} (h : rf_BB ft H n c) (hs : rf_fs ft H n c s) : rf_BB ft H n (c + 3 ^ (n - 1 - s)) ∧ ∀ c', c ≤ c' → c' < c + 3 ^ (n - 1 - s) → ¬ rf_ok ft H n c' := by
  have hm := rf_BB_m h hs
  have hM : 0 < 3 ^ (n - 1 - s) := Nat.pow_pos (by decide)
  have hall : ∀ c', c ≤ c' → c' < c + 3 ^ (n - 1 - s) → rf_fs ft H n c' s := fun c' h1 h2 => rf_fs_same (rf_quo hm h1 h2).symm hs
  refine ⟨Or.inr fun s' hs' => ?_, fun c' h1 h2 => rf_fs_nok (hall c' h1 h2)⟩
  have e := rf_fs_un hs' (hall _ (by omega) (by omega))
  rw [e, Nat.add_mod_right]
  exact hm
theorem rf_BB_s {ft H : Nat → Nat → Prop} {n c : Nat} (h : rf_ok ft H n c) : rf_BB ft H n (c + 1) :=
  Or.inr fun _ hs => (rf_fs_nok hs h).elim
def rf_Pk (d : Nat → Nat) (i q : Nat) : Bool := decide (d q = 1) && decide ((rf_sk d q).length = (rf_sk d i).length + 1)
theorem rf_Pk_t {d : Nat → Nat} {i q : Nat} (h : d q = 1) (h' : (rf_sk d q).length = (rf_sk d i).length + 1) : rf_Pk d i q = true := by
  unfold rf_Pk
  rw [decide_eq_true h, decide_eq_true h']
  rfl
theorem rf_Pk_f {d : Nat → Nat} {i q : Nat} (h : d q ≠ 1 ∨ (rf_sk d q).length ≠ (rf_sk d i).length + 1) : rf_Pk d i q = false := by
  unfold rf_Pk
  rcases h with h | h
  · rw [decide_eq_false h]; rfl
  · rw [decide_eq_false h, Bool.and_false]
theorem rf_Pk_i {d : Nat → Nat} {i q : Nat} (h : rf_Pk d i q = true) : d q = 1 ∧ (rf_sk d q).length = (rf_sk d i).length + 1 := by
  unfold rf_Pk at h
  rw [Bool.and_eq_true, decide_eq_true_eq, decide_eq_true_eq] at h
  exact h
def rf_wn (d : Nat → Nat) (i j : Nat) : Nat := rf_cn (rf_Pk d i) (i + 1) (j - (i + 1))
def rf_pv (A nu : Nat → Int32) (d : Nat → Nat) (m : Nat → Int32) (i j : Nat) : Int32 :=
  if rf_wn d i j = 0 then nu (rf_kd (A i).toNatClampNeg (A j).toNatClampNeg)
  else if 1 < rf_wn d i j then nu (rf_kd (A i).toNatClampNeg (A j).toNatClampNeg) - nu 5
  else if m (i + 1) = nI (j - 1) then nu (rf_kd (A i).toNatClampNeg (A j).toNatClampNeg) + nu 3
  else nu (rf_kd (A i).toNatClampNeg (A j).toNatClampNeg) - nu 4
def rf_sm (A nu : Nat → Int32) (d : Nat → Nat) (n : Nat) : Nat → Int32
  | 0 => 0
  | p + 1 => if d p = 1 then rf_sm A nu d n p + rf_pv A nu d (rf_mt d n) p (rf_mt d n p).toNatClampNeg else rf_sm A nu d n p
theorem rf_sm1 {A nu : Nat → Int32} {d : Nat → Nat} {n p j : Nat} (h : d p = 1) (hj : rf_mt d n p = nI j) (h31 : j < 2 ^ 31) : rf_sm A nu d n (p + 1) = rf_sm A nu d n p + rf_pv A nu d (rf_mt d n) p j := by
  show (if d p = 1 then rf_sm A nu d n p + rf_pv A nu d (rf_mt d n) p (rf_mt d n p).toNatClampNeg else rf_sm A nu d n p) = _
  rw [if_pos h, hj, nI_clamp h31]
theorem rf_sm0 {A nu : Nat → Int32} {d : Nat → Nat} {n p : Nat} (h : d p ≠ 1) : rf_sm A nu d n (p + 1) = rf_sm A nu d n p := if_neg h
def rf_sc (A nu : Nat → Int32) (n c : Nat) : Int32 := rf_sm A nu (rf_dg n c) n n
theorem rf_add {a b : Int32} (h1 : -10000 ≤ a.toInt) (h2 : a.toInt ≤ 10000) (h3 : -10000 ≤ b.toInt) (h4 : b.toInt ≤ 10000) : (a + b).toInt = a.toInt + b.toInt := by
  rw [Int32.toInt_add]
  exact Int.bmod_eq_of_le (by omega) (by omega)
theorem rf_sub {a b : Int32} (h1 : -10000 ≤ a.toInt) (h2 : a.toInt ≤ 10000) (h3 : -10000 ≤ b.toInt) (h4 : b.toInt ≤ 10000) : (a - b).toInt = a.toInt - b.toInt := by
  rw [Int32.toInt_sub]
  exact Int.bmod_eq_of_le (by omega) (by omega)
def rf_Nu (nu : Nat → Int32) : Prop := ∀ q, ∃ x, x ≤ 20 ∧ nu q = nI x
theorem rf_Nu_b {nu : Nat → Int32} (h : rf_Nu nu) (q : Nat) : 0 ≤ (nu q).toInt ∧ (nu q).toInt ≤ 20 := by
  obtain ⟨x, hx, e⟩ := h q
  rw [e, nI_toInt (by omega)]
  omega
theorem rf_pv_b {A nu : Nat → Int32} (h : rf_Nu nu) (d : Nat → Nat) (m : Nat → Int32) (i j : Nat) : -20 ≤ (rf_pv A nu d m i j).toInt ∧ (rf_pv A nu d m i j).toInt ≤ 40 := by
  unfold rf_pv
  generalize rf_kd (A i).toNatClampNeg (A j).toNatClampNeg = k
  have hk := rf_Nu_b h k
  have h3 := rf_Nu_b h 3
  have h4 := rf_Nu_b h 4
  have h5 := rf_Nu_b h 5
  split
  · omega
  · split
    · rw [rf_sub (by omega) (by omega) (by omega) (by omega)]; omega
    · split
      · rw [rf_add (by omega) (by omega) (by omega) (by omega)]; omega
      · rw [rf_sub (by omega) (by omega) (by omega) (by omega)]; omega
theorem rf_sm_b {A nu : Nat → Int32} (h : rf_Nu nu) (d : Nat → Nat) (n : Nat) : ∀ p : Nat, p ≤ 11 → -20 * (p : Int) ≤ (rf_sm A nu d n p).toInt ∧ (rf_sm A nu d n p).toInt ≤ 40 * (p : Int) := by
  intro p
  induction p with
  | zero =>
    intro _
    have e : (rf_sm A nu d n 0).toInt = 0 := rfl
    omega
  | succ p ih =>
    intro hp
    have h1 := ih (by omega)
    by_cases h9 : d p = 1
    · have e : rf_sm A nu d n (p + 1) = rf_sm A nu d n p + rf_pv A nu d (rf_mt d n) p (rf_mt d n p).toNatClampNeg := if_pos h9
      have h2 := rf_pv_b (A := A) h d (rf_mt d n) p (rf_mt d n p).toNatClampNeg
      rw [e, rf_add (by omega) (by omega) (by omega) (by omega)]
      omega
    · rw [rf_sm0 h9]
      omega
theorem rf_sc_b {A nu : Nat → Int32} (h : rf_Nu nu) {n c : Nat} (hn : n ≤ 11) : (-1000 : Int32) < rf_sc A nu n c := by
  have h1 := rf_sm_b (A := A) h (rf_dg n c) n n hn
  rw [Int32.lt_iff_toInt_lt, show (-1000 : Int32).toInt = -1000 from by decide]
  show _ < (rf_sm A nu (rf_dg n c) n n).toInt
  omega
/-! the places between i and its partner j -/
theorem rf_L1 {d : Nat → Nat} {k : Nat} (h : d k = 1) : (rf_sk d (k + 1)).length = (rf_sk d k).length + 1 := by rw [rf_sk1 h]; rfl
theorem rf_L2 {d : Nat → Nat} {k : Nat} (h : d k = 2) : (rf_sk d (k + 1)).length = (rf_sk d k).length - 1 := by rw [rf_sk2 h, List.length_tail]
theorem rf_L0 {d : Nat → Nat} {k : Nat} (h1 : d k ≠ 1) (h2 : d k ≠ 2) : (rf_sk d (k + 1)).length = (rf_sk d k).length := by rw [rf_sk0 h1 h2]
def rf_pr (d : Nat → Nat) (i j : Nat) : Prop := i < j ∧ (rf_sk d (j + 1)).length = (rf_sk d i).length ∧ ∀ q, i < q → q ≤ j → (rf_sk d i).length < (rf_sk d q).length
/-- a pair that begins directly within (i, j) ends within -/
theorem rf_in {d : Nat → Nat} {i j k m : Nat} (h : rf_pr d i j) (hk : rf_pr d k m) (h1 : i < k) (h2 : k < j) (e : (rf_sk d k).length = (rf_sk d i).length + 1) : m < j := by
  obtain ⟨a1, a2, a3⟩ := h
  obtain ⟨b1, b2, b3⟩ := hk
  rcases Nat.lt_trichotomy m j with h9 | h9 | h9
  · exact h9
  · rw [h9] at b2; omega
  · have h8 := b3 (j + 1) (by omega) (by omega)
    omega
/-- one step over a place that begins no pair -/
theorem rf_w0 {d : Nat → Nat} {i j k : Nat} (h : rf_pr d i j) (h1 : i < k) (h2 : k < j) (e : (rf_sk d k).length = (rf_sk d i).length + 1) (hd : d k ≠ 1) : (rf_sk d (k + 1)).length = (rf_sk d i).length + 1 ∧ rf_cn (rf_Pk d i) k (j - k) = rf_cn (rf_Pk d i) (k + 1) (j - (k + 1)) := by
  obtain ⟨a1, a2, a3⟩ := h
  constructor
  · have h8 := a3 (k + 1) (by omega) (by omega)
    by_cases h9 : d k = 2
    · have h7 := rf_L2 h9
      omega
    · rw [rf_L0 hd h9]; exact e
  · rw [show j - k = (j - (k + 1)) + 1 by omega, rf_cn_f (rf_Pk_f (Or.inl hd))]
/-- one step over a pair directly within -/
theorem rf_w1 {d : Nat → Nat} {i j k m : Nat} (h : rf_pr d i j) (hk : rf_pr d k m) (h1 : i < k) (h2 : k < j) (e : (rf_sk d k).length = (rf_sk d i).length + 1) (hd : d k = 1) : m < j ∧ (rf_sk d (m + 1)).length = (rf_sk d i).length + 1 ∧ rf_cn (rf_Pk d i) k (j - k) = 1 + rf_cn (rf_Pk d i) (m + 1) (j - (m + 1)) := by
  have hm := rf_in h hk h1 h2 e
  obtain ⟨b1, b2, b3⟩ := hk
  refine ⟨hm, by omega, ?_⟩
  rw [show j - k = (j - (k + 1)) + 1 by omega, rf_cn_t (rf_Pk_t hd e), show j - (k + 1) = (m - k) + (j - (m + 1)) by omega, rf_cn_s (m - k) (k + 1) _ (fun q h3 h4 => rf_Pk_f (Or.inr (by have h8 := b3 q (by omega) (by omega); omega))), show k + 1 + (m - k) = m + 1 by omega]
theorem rf_Fo_pr {ft : Nat → Nat → Prop} {d : Nat → Nat} {n k : Nat} (F : rf_Fo ft d n) (hk : k < n) (h : d k = 1) : ∃ j, k < j ∧ j < n ∧ d j = 2 ∧ rf_mt d n k = nI j ∧ ft k j ∧ rf_pr d k j := by
  obtain ⟨j, c1, c2, c3, c4, c5, c6, c7⟩ := (F k hk).1 h
  exact ⟨j, c1, c2, c3, c4, c5, c1, c6, c7⟩
/-- with one pair directly within: that it begins at i + 1 and ends at j - 1 is seen at i + 1 alone -/
theorem rf_stk {ft : Nat → Nat → Prop} {d : Nat → Nat} {n i j q : Nat} (F : rf_Fo ft d n) (hj : j < n) (hn : n < 2 ^ 31) (hw : rf_wn d i j = 1) (hq1 : i < q) (hq2 : q < j) (hq : rf_Pk d i q = true) (hd : d i = 1) (hp : rf_pr d i j) : rf_mt d n (i + 1) = nI (j - 1) → q = i + 1 := by
  intro hm
  have h2 : i + 1 < n := by omega
  have hd1 : d (i + 1) = 1 := by
    by_cases h9 : d (i + 1) = 1
    · exact h9
    · by_cases h8 : d (i + 1) = 2
      · obtain ⟨k, hk, e⟩ := (F (i + 1) h2).2.1 h8
        rw [hm] at e
        have e2 := (nI_eq (by omega) (by omega)).mp e
        omega
      · have e := (F (i + 1) h2).2.2 h9 h8
        rw [hm] at e
        have e2 := congrArg Int32.toInt e
        rw [nI_toInt (by omega), show (-1 : Int32).toInt = -1 from by decide] at e2
        omega
  have hP : rf_Pk d i (i + 1) = true := rf_Pk_t hd1 (rf_L1 hd)
  by_cases h9 : q = i + 1
  · exact h9
  · have h8 := rf_cn_2 (j - (i + 1)) (i + 1) (i + 1) q (Nat.le_refl _) (by omega) (by omega) hP hq
    have h7 : rf_cn (rf_Pk d i) (i + 1) (j - (i + 1)) = 1 := hw
    omega
