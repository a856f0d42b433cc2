/-! the stack of pending places, the partners, and what they say of one another, for a row of digits d -/
def rf_sk (d : Nat → Nat) : Nat → List Nat
  | 0 => []
  | p + 1 => if d p = 1 then p :: rf_sk d p else if d p = 2 then (rf_sk d p).tail else rf_sk d p
def rf_mt (d : Nat → Nat) : Nat → Nat → Int32
  | 0 => fun _ => -1
  | p + 1 => if d p = 2 then upd (upd (rf_mt d p) ((rf_sk d p).headD 0) (nI p)) p (nI ((rf_sk d p).headD 0)) else upd (rf_mt d p) p (-1)
theorem rf_sk1 {d : Nat → Nat} {p : Nat} (h : d p = 1) : rf_sk d (p + 1) = p :: rf_sk d p := by simp [rf_sk, h]
theorem rf_sk2 {d : Nat → Nat} {p : Nat} (h : d p = 2) : rf_sk d (p + 1) = (rf_sk d p).tail := by simp [rf_sk, h]
theorem rf_sk0 {d : Nat → Nat} {p : Nat} (h1 : d p ≠ 1) (h2 : d p ≠ 2) : rf_sk d (p + 1) = rf_sk d p := by simp [rf_sk, h1, h2]
theorem rf_mt2 {d : Nat → Nat} {p i : Nat} {st : List Nat} (h : d p = 2) (hs : rf_sk d p = i :: st) : rf_mt d (p + 1) = upd (upd (rf_mt d p) i (nI p)) p (nI i) := by simp [rf_mt, h, hs]
theorem rf_mt0 {d : Nat → Nat} {p : Nat} (h : d p ≠ 2) : rf_mt d (p + 1) = upd (rf_mt d p) p (-1) := by simp [rf_mt, h]
theorem rf_cg {d e : Nat → Nat} : ∀ p, (∀ q, q < p → d q = e q) → rf_sk d p = rf_sk e p ∧ rf_mt d p = rf_mt e p := by
  intro p
  induction p with
  | zero => intro _; exact ⟨rfl, rfl⟩
  | succ p ih =>
    intro h
    obtain ⟨a, b⟩ := ih (fun q hq => h q (by omega))
    have c := h p (by omega)
    constructor
    · simp only [rf_sk, a, c]
    · simp only [rf_mt, a, b, c]
theorem rf_A (d : Nat → Nat) : ∀ (p i : Nat) (st : List Nat), (i :: st) <:+ rf_sk d p → i < p ∧ d i = 1 ∧ st = rf_sk d i ∧ ∀ q, i < q → q ≤ p → st.length < (rf_sk d q).length := by
  intro p
  induction p with
  | zero =>
    intro i st h
    have h9 := h.length_le
    simp [rf_sk] at h9
  | succ p ih =>
    intro i st h
    have hl : st.length < (rf_sk d (p + 1)).length := h.length_le
    by_cases h1 : d p = 1
    · rw [rf_sk1 h1] at h
      rcases List.suffix_cons_iff.mp h with e | h'
      · injection e with e1 e2
        refine ⟨by omega, by rw [e1]; exact h1, by rw [e1]; exact e2, fun q hq hp => ?_⟩
        have e3 : q = p + 1 := by omega
        rw [e3]; exact hl
      · obtain ⟨a1, a2, a3, a4⟩ := ih i st h'
        refine ⟨by omega, a2, a3, fun q hq hp => ?_⟩
        by_cases hqp : q = p + 1
        · rw [hqp]; exact hl
        · exact a4 q hq (by omega)
    · have h' : (i :: st) <:+ rf_sk d p := by
        by_cases h2 : d p = 2
        · rw [rf_sk2 h2] at h; exact h.trans (List.tail_suffix _)
        · rw [rf_sk0 h1 h2] at h; exact h
      obtain ⟨a1, a2, a3, a4⟩ := ih i st h'
      refine ⟨by omega, a2, a3, fun q hq hp => ?_⟩
      by_cases hqp : q = p + 1
      · rw [hqp]; exact hl
      · exact a4 q hq (by omega)
theorem rf_nc {d : Nat → Nat} {p k j : Nat} {st : List Nat} (h : (k :: st) <:+ rf_sk d p) (hj : j < p) (hk : k < j) (h2 : d j = 2) (e : rf_sk d j = k :: rf_sk d k) : False := by
  obtain ⟨_, _, a3, a4⟩ := rf_A d p k st h
  have h9 := a4 (j + 1) (by omega) (by omega)
  rw [rf_sk2 h2, e, a3] at h9
  exact Nat.lt_irrefl _ h9
/-- k and j are a pair -/
def rf_cl (d : Nat → Nat) (m : Nat → Int32) (k j : Nat) : Prop := k < j ∧ d j = 2 ∧ m k = nI j ∧ m j = nI k ∧ rf_sk d j = k :: rf_sk d k
theorem rf_cl_m {d : Nat → Nat} {m m' : Nat → Int32} {k j : Nat} (h : rf_cl d m k j) (hk : m' k = m k) (hj : m' j = m j) : rf_cl d m' k j :=
  ⟨h.1, h.2.1, hk.trans h.2.2.1, hj.trans h.2.2.2.1, h.2.2.2.2⟩
def rf_Bk (d : Nat → Nat) (p k : Nat) : Prop :=
  (d k = 1 → ((∃ st, (k :: st) <:+ rf_sk d p) ∧ rf_mt d p k = -1) ∨ ∃ j, j < p ∧ rf_cl d (rf_mt d p) k j) ∧
  (d k = 2 → ∃ i, d i = 1 ∧ rf_cl d (rf_mt d p) i k) ∧
  (d k ≠ 1 → d k ≠ 2 → rf_mt d p k = -1)
theorem rf_B (d : Nat → Nat) : ∀ p, (∀ q, q < p → d q = 2 → ∃ i st, rf_sk d q = i :: st) → ∀ k, k < p → rf_Bk d p k := by
  intro p
  induction p with
  | zero => intro _ k hk; omega
  | succ p ih =>
    intro hv k hk
    have ih' := ih (fun q hq => hv q (by omega))
    by_cases h2 : d p = 2
    · obtain ⟨i, st, hs⟩ := hv p (by omega) h2
      have hsuf : (i :: st) <:+ rf_sk d p := by rw [hs]; exact List.suffix_refl _
      obtain ⟨a1, a2, a3, a4⟩ := rf_A d p i st hsuf
      have hm : rf_mt d (p + 1) = upd (upd (rf_mt d p) i (nI p)) p (nI i) := rf_mt2 h2 hs
      have hk' : rf_sk d (p + 1) = st := by rw [rf_sk2 h2, hs]; rfl
      have mi : rf_mt d (p + 1) i = nI p := by rw [hm, pk_un (by omega), pk_us]
      have mp : rf_mt d (p + 1) p = nI i := by rw [hm, pk_us]
      have mo : ∀ q, q ≠ p → q ≠ i → rf_mt d (p + 1) q = rf_mt d p q := fun q h h' => by rw [hm, pk_un h, pk_un h']
      have hc : rf_cl d (rf_mt d (p + 1)) i p := ⟨a1, h2, mi, mp, by rw [hs, ← a3]⟩
      by_cases hkp : k = p
      · rw [hkp]
        exact ⟨fun h => absurd (h.symm.trans h2) (by decide), fun _ => ⟨i, a2, hc⟩, fun _ h => absurd h2 h⟩
      · have hkl : k < p := by omega
        obtain ⟨b1, b2, b3⟩ := ih' k hkl
        refine ⟨fun h => ?_, fun h => ?_, fun h h' => ?_⟩
        · by_cases hki : k = i
          · rw [hki]; exact Or.inr ⟨p, by omega, hc⟩
          · rcases b1 h with ⟨⟨st', hst⟩, hm1⟩ | ⟨j, hj, hcl⟩
            · left
              refine ⟨⟨st', ?_⟩, by rw [mo k hkp hki]; exact hm1⟩
              rw [hk']
              rw [hs] at hst
              rcases List.suffix_cons_iff.mp hst with e | h'
              · injection e with e1 e2
                exact absurd e1 hki
              · exact h'
            · right
              refine ⟨j, by omega, rf_cl_m hcl (mo k hkp hki) (mo j (by omega) (fun e => ?_))⟩
              have h9 := hcl.2.1
              rw [e, a2] at h9
              exact absurd h9 (by decide)
        · obtain ⟨i', hi', hcl⟩ := b2 h
          have hne : i' ≠ i := fun e => by
            rw [e] at hcl
            exact rf_nc hsuf hkl hcl.1 hcl.2.1 hcl.2.2.2.2
          have hik := hcl.1
          refine ⟨i', hi', rf_cl_m hcl (mo i' (by omega) hne) (mo k hkp (fun e => ?_))⟩
          rw [e, a2] at h
          exact absurd h (by decide)
        · rw [mo k hkp (fun e => h (by rw [e]; exact a2))]
          exact b3 h h'
    · have hm : rf_mt d (p + 1) = upd (rf_mt d p) p (-1) := rf_mt0 h2
      have mp : rf_mt d (p + 1) p = -1 := by rw [hm, pk_us]
      have mo : ∀ q, q ≠ p → rf_mt d (p + 1) q = rf_mt d p q := fun q h => by rw [hm, pk_un h]
      have hsf : ∀ l, l <:+ rf_sk d p → l <:+ rf_sk d (p + 1) := by
        intro l hl
        by_cases h1 : d p = 1
        · rw [rf_sk1 h1]; exact hl.trans (List.suffix_cons _ _)
        · rw [rf_sk0 h1 h2]; exact hl
      by_cases hkp : k = p
      · rw [hkp]
        refine ⟨fun h => Or.inl ⟨⟨rf_sk d p, ?_⟩, mp⟩, fun h => absurd h h2, fun _ _ => mp⟩
        rw [rf_sk1 h]; exact List.suffix_refl _
      · have hkl : k < p := by omega
        obtain ⟨b1, b2, b3⟩ := ih' k hkl
        refine ⟨fun h => ?_, fun h => ?_, fun h h' => by rw [mo k hkp]; exact b3 h h'⟩
        · rcases b1 h with ⟨⟨st', hst⟩, hm1⟩ | ⟨j, hj, hcl⟩
          · exact Or.inl ⟨⟨st', hsf _ hst⟩, by rw [mo k hkp]; exact hm1⟩
          · exact Or.inr ⟨j, by omega, rf_cl_m hcl (mo k hkp) (mo j (by omega))⟩
        · obtain ⟨i', hi', hcl⟩ := b2 h
          have hik := hcl.1
          exact ⟨i', hi', rf_cl_m hcl (mo i' (by omega)) (mo k hkp)⟩
/-- a pending place has no partner -/
theorem rf_op {d : Nat → Nat} {p i : Nat} {st : List Nat} (hv : ∀ q, q < p → d q = 2 → ∃ i st, rf_sk d q = i :: st) (hs : rf_sk d p = i :: st) : i < p ∧ d i = 1 ∧ st = rf_sk d i ∧ rf_mt d p i = -1 := by
  have hsuf : (i :: st) <:+ rf_sk d p := by rw [hs]; exact List.suffix_refl _
  obtain ⟨a1, a2, a3, a4⟩ := rf_A d p i st hsuf
  refine ⟨a1, a2, a3, ?_⟩
  rcases (rf_B d p hv i a1).1 a2 with h | ⟨j, hj, hcl⟩
  · exact h.2
  · exact (rf_nc hsuf hj hcl.1 hcl.2.1 hcl.2.2.2.2).elim
theorem rf_len1 (d : Nat → Nat) (p : Nat) : (rf_sk d p).length ≤ (rf_sk d (p + 1)).length + 1 := by
  by_cases h1 : d p = 1
  · rw [rf_sk1 h1, List.length_cons]; omega
  · by_cases h2 : d p = 2
    · rw [rf_sk2 h2, List.length_tail]; omega
    · rw [rf_sk0 h1 h2]; omega
theorem rf_lent (d : Nat → Nat) (p : Nat) : ∀ t, (rf_sk d p).length ≤ (rf_sk d (p + t)).length + t := by
  intro t
  induction t with
  | zero => exact Nat.le_refl _
  | succ t ih =>
    have h := rf_len1 d (p + t)
    rw [show p + (t + 1) = p + t + 1 from rfl]
    omega
theorem rf_lenp (d : Nat → Nat) : ∀ p, (rf_sk d p).length ≤ p := by
  intro p
  induction p with
  | zero => exact Nat.le_refl _
  | succ p ih =>
    by_cases h1 : d p = 1
    · rw [rf_sk1 h1, List.length_cons]; omega
    · by_cases h2 : d p = 2
      · rw [rf_sk2 h2, List.length_tail]; omega
      · rw [rf_sk0 h1 h2]; omega
/-- the second place of a pair finds a fitting one pending -/
def rf_vd (ft : Nat → Nat → Prop) (d : Nat → Nat) (q : Nat) : Prop := d q = 2 → ∃ i st, rf_sk d q = i :: st ∧ ft i q
def rf_Sy (ft H : Nat → Nat → Prop) (d : Nat → Nat) (p : Nat) : Prop := ∀ q, q < p → H q (d q) ∧ rf_vd ft d q
def rf_Sx (ft H : Nat → Nat → Prop) (n : Nat) (d : Nat → Nat) (p : Nat) : Prop := ∀ q, q < p → H q (d q) ∧ rf_vd ft d q ∧ (rf_sk d (q + 1)).length ≤ n - 1 - q
theorem rf_Sy_v {ft H : Nat → Nat → Prop} {d : Nat → Nat} {p : Nat} (h : rf_Sy ft H d p) : ∀ q, q < p → d q = 2 → ∃ i st, rf_sk d q = i :: st :=
  fun q hq h2 => let ⟨i, st, e, _⟩ := (h q hq).2 h2; ⟨i, st, e⟩
theorem rf_xy {ft H : Nat → Nat → Prop} {n : Nat} {d : Nat → Nat} : rf_Sx ft H n d n ↔ rf_Sy ft H d n ∧ rf_sk d n = [] := by
  constructor
  · intro h
    refine ⟨fun q hq => ⟨(h q hq).1, (h q hq).2.1⟩, ?_⟩
    cases n with
    | zero => rfl
    | succ n =>
      have h9 := (h n (by omega)).2.2
      exact List.eq_nil_of_length_eq_zero (by omega)
  · rintro ⟨h, e⟩ q hq
    refine ⟨(h q hq).1, (h q hq).2, ?_⟩
    have h9 := rf_lent d (q + 1) (n - 1 - q)
    rw [show q + 1 + (n - 1 - q) = n by omega, e] at h9
    simpa using h9
theorem rf_vd_cg {ft : Nat → Nat → Prop} {d e : Nat → Nat} {q : Nat} (h : ∀ k, k < q + 1 → d k = e k) : rf_vd ft d q ↔ rf_vd ft e q := by
  have h1 := (rf_cg q (fun k hk => h k (by omega))).1
  unfold rf_vd
  rw [h1, h q (by omega)]
theorem rf_Sy_cg {ft H : Nat → Nat → Prop} {d e : Nat → Nat} {p : Nat} (h : ∀ q, q < p → d q = e q) (hs : rf_Sy ft H d p) : rf_Sy ft H e p := by
  intro q hq
  obtain ⟨a, b⟩ := hs q hq
  exact ⟨by rw [← h q hq]; exact a, (rf_vd_cg (fun k hk => h k (by omega))).mp b⟩
theorem rf_Sx_cg {ft H : Nat → Nat → Prop} {n : Nat} {d e : Nat → Nat} {p : Nat} (h : ∀ q, q < p → d q = e q) (hs : rf_Sx ft H n d p) : rf_Sx ft H n e p := by
  intro q hq
  obtain ⟨a, b, c⟩ := hs q hq
  refine ⟨by rw [← h q hq]; exact a, (rf_vd_cg (fun k hk => h k (by omega))).mp b, ?_⟩
  rw [← (rf_cg (q + 1) (fun k hk => h k (by omega))).1]
  exact c
/-- what a whole fold has -/
def rf_Fo (ft : Nat → Nat → Prop) (d : Nat → Nat) (n : Nat) : Prop := ∀ k, k < n →
  (d k = 1 → ∃ j, k < j ∧ j < n ∧ d j = 2 ∧ rf_mt d n k = nI j ∧ ft k j ∧ (rf_sk d (j + 1)).length = (rf_sk d k).length ∧ ∀ q, k < q → q ≤ j → (rf_sk d k).length < (rf_sk d q).length) ∧
  (d k = 2 → ∃ i, i < k ∧ rf_mt d n k = nI i) ∧ (d k ≠ 1 → d k ≠ 2 → rf_mt d n k = -1)
theorem rf_Fo_of {ft H : Nat → Nat → Prop} {d : Nat → Nat} {n : Nat} (h : rf_Sy ft H d n) (e : rf_sk d n = []) : rf_Fo ft d n := by
  intro k hk
  obtain ⟨b1, b2, b3⟩ := rf_B d n (rf_Sy_v h) k hk
  refine ⟨fun h1 => ?_, fun h2 => ?_, b3⟩
  · rcases b1 h1 with ⟨⟨st, hst⟩, _⟩ | ⟨j, hj, hcl⟩
    · rw [e] at hst
      have h9 := hst.length_le
      simp at h9
    · obtain ⟨c1, c2, c3, c4, c5⟩ := hcl
      obtain ⟨i, st, f1, f2⟩ := (h j hj).2 c2
      have f3 : i = k := by
        rw [c5] at f1
        injection f1 with f4 _
        exact f4.symm
      rw [f3] at f2
      refine ⟨j, c1, hj, c2, c3, f2, by rw [rf_sk2 c2, c5]; rfl, fun q hq hqj => ?_⟩
      exact (rf_A d j k (rf_sk d k) (by rw [c5]; exact List.suffix_refl _)).2.2.2 q hq hqj
  · obtain ⟨i, _, hcl⟩ := b2 h2
    exact ⟨i, hcl.1, hcl.2.2.2.1⟩
