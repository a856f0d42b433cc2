section
theorem pk_us {f : Nat → Int32} {k : Nat} {x : Int32} : upd f k x k = x := if_pos rfl
theorem pk_un {f : Nat → Int32} {k j : Nat} {x : Int32} (h : j ≠ k) : upd f k x j = f j := if_neg h
theorem pk_sub {a b : Nat} (h : b ≤ a) : nI a - nI b = nI (a - b) := by
  obtain ⟨c, rfl⟩ : ∃ c, a = c + b := ⟨a - b, by omega⟩
  rw [← nI_add, Int32.add_sub_cancel, Nat.add_sub_cancel]
theorem pk_m1 (n : Nat) : nI (n + 1) + (-1) = nI n := by
  rw [← nI_1, Int32.add_assoc, show (1 : Int32) + (-1) = 0 from rfl, Int32.add_zero]
theorem pk_mul (a b : Nat) : nI a * nI b = nI (a * b) := (Int32.ofNat_mul a b).symm
theorem pk_div {a d : Nat} (ha : a < 2 ^ 31) (h0 : 0 < d) (hd : d < 2 ^ 31) : nI a / nI d = nI (a / d) := by
  apply Int32.toInt_inj.mp
  rw [lg_idiv_nonneg (by rw [nI_toInt ha]; omega) (by rw [nI_toInt hd]; omega), nI_toInt ha, nI_toInt hd, nI_toInt (Nat.lt_of_le_of_lt (Nat.div_le_self a d) ha)]
  first | rfl | exact (Int.natCast_ediv _ _).symm
theorem pk_rem {a d : Nat} (ha : a < 2 ^ 31) (h0 : 0 < d) (hd : d < 2 ^ 31) : nI a - nI a / nI d * nI d = nI (a % d) := by
  rw [pk_div ha h0 hd, pk_mul, pk_sub (Nat.div_mul_le_self a d)]
  exact congrArg nI (by have := Nat.div_add_mod' a d; omega)
theorem pk_sub_toInt {a b : Nat} (ha : a < 2 ^ 30) (hb : b < 2 ^ 30) : (nI a - nI b).toInt = (a : Int) - b := by
  rw [Int32.toInt_sub, nI_toInt (by omega), nI_toInt (by omega)]
  exact Int.bmod_eq_of_le (by omega) (by omega)
theorem pk_ix (x : Int32) {n : Nat} (hn : n < 2 ^ 31) : x < 0 ∨ nI n ≤ x ∨ ∃ j : Nat, j < n ∧ x = nI j := by
  by_cases h : x < 0
  · exact Or.inl h
  · obtain ⟨j, hj, rfl⟩ := nI_of h
    by_cases h2 : j < n
    · exact Or.inr (Or.inr ⟨j, h2, rfl⟩)
    · exact Or.inr (Or.inl (nI_le (by omega) hj))
theorem pk_le {x y : Int32} {A B : Prop} (a b : Nat) (f : a ≤ b → A) (g : b < a → B) (hx : x = nI a := by rfl) (hy : y = nI b := by rfl) (ha : a < 2 ^ 31 := by omega) (hb : b < 2 ^ 31 := by omega) : (x ≤ y → A) ∧ (¬ x ≤ y → B) := by
  subst hx hy
  rw [nI_leI ha hb]
  exact ⟨f, fun z => g (by omega)⟩
theorem pk_lt {x y : Int32} {A B : Prop} (a b : Nat) (f : a < b → A) (g : b ≤ a → B) (hx : x = nI a := by rfl) (hy : y = nI b := by rfl) (ha : a < 2 ^ 31 := by omega) (hb : b < 2 ^ 31 := by omega) : (x < y → A) ∧ (¬ x < y → B) := by
  subst hx hy
  rw [nI_ltI ha hb]
  exact ⟨f, fun z => g (by omega)⟩
theorem pk_eq {x y : Int32} {A B : Prop} (a b : Nat) (f : a = b → A) (g : a ≠ b → B) (hx : x = nI a := by rfl) (hy : y = nI b := by rfl) (ha : a < 2 ^ 31 := by omega) (hb : b < 2 ^ 31 := by omega) : (x = y → A) ∧ (¬ x = y → B) := by
  subst hx hy
  rw [nI_eq ha hb]
  exact ⟨f, g⟩
theorem pk_in {x : Int32} (n N : Nat) (h : n < N) (hx : x = nI n := by rfl) (hN : N < 2 ^ 31 := by omega) : vp_in x N := by
  subst hx
  exact vp_in_nI h hN
theorem pk_cl {x : Int32} (n : Nat) (hx : x = nI n := by rfl) (h : n < 2 ^ 31 := by omega) : x.toNatClampNeg = n := by
  subst hx
  exact nI_clamp h
theorem pk_loop {σ : Type} (W : Nat → Nat → σ → Prop) (I : Nat → σ → Prop) (e i0 : Nat) (s : σ) (hi : i0 ≤ e) (h0 : I i0 s) (hx : ∀ n s, I e s → W (n + 1) e s)
    (hs : ∀ n i s, i < e → I i s → (∀ s', I (i + 1) s' → W n (i + 1) s') → W (n + 1) i s) : ∃ n, W n i0 s :=
  ⟨e + 1, loop_i W I e hx hs (e + 1) i0 s hi (by omega) h0⟩
theorem pk_loopD {σ : Type} (W : Nat → Nat → σ → Prop) (I : Nat → σ → Prop) (hx : ∀ n s, I 0 s → W (n + 1) 0 s)
    (hs : ∀ n i s, I (i + 1) s → (∀ s', I i s' → W n i s') → W (n + 1) (i + 1) s) : ∀ (e : Nat) (s : σ), I e s → W (e + 1) e s := by
  intro e
  induction e with
  | zero => exact fun s h => hx 0 s h
  | succ e ih => exact fun s h => hs (e + 1) e s h (fun s' h' => ih s' h')
end
section
/-! the stack of pending places, the partners, and what they say of one another, for a row of digits d -/
def rf_sk (d : Nat → Nat) : Nat → List Nat
  | 0 => []
  | p + 1 => if d p = 1 then p :: rf_sk d p else if d p = 2 then (rf_sk d p).tail else rf_sk d p
def rf_mt (d : Nat → Nat) : Nat → Nat → Int32
  | 0 => fun _ => -1
  | p + 1 => if d p = 2 then upd (upd (rf_mt d p) ((rf_sk d p).headD 0) (nI p)) p (nI ((rf_sk d p).headD 0)) else upd (rf_mt d p) p (-1)
theorem rf_sk1 {d : Nat → Nat} {p : Nat} (h : d p = 1) : rf_sk d (p + 1) = p :: rf_sk d p := by simp [rf_sk, h]
theorem rf_sk2 {d : Nat → Nat} {p : Nat} (h : d p = 2) : rf_sk d (p + 1) = (rf_sk d p).tail := by simp [rf_sk, h]
theorem rf_sk0 {d : Nat → Nat} {p : Nat} (h1 : d p ≠ 1) (h2 : d p ≠ 2) : rf_sk d (p + 1) = rf_sk d p := by simp [rf_sk, h1, h2]
theorem rf_mt2 {d : Nat → Nat} {p i : Nat} {st : List Nat} (h : d p = 2) (hs : rf_sk d p = i :: st) : rf_mt d (p + 1) = upd (upd (rf_mt d p) i (nI p)) p (nI i) := by simp [rf_mt, h, hs]
theorem rf_mt0 {d : Nat → Nat} {p : Nat} (h : d p ≠ 2) : rf_mt d (p + 1) = upd (rf_mt d p) p (-1) := by simp [rf_mt, h]
theorem rf_cg {d e : Nat → Nat} : ∀ p, (∀ q, q < p → d q = e q) → rf_sk d p = rf_sk e p ∧ rf_mt d p = rf_mt e p := by
  intro p
  induction p with
  | zero => intro _; exact ⟨rfl, rfl⟩
  | succ p ih =>
    intro h
    obtain ⟨a, b⟩ := ih (fun q hq => h q (by omega))
    have c := h p (by omega)
    constructor
    · simp only [rf_sk, a, c]
    · simp only [rf_mt, a, b, c]
theorem rf_A (d : Nat → Nat) : ∀ (p i : Nat) (st : List Nat), (i :: st) <:+ rf_sk d p → i < p ∧ d i = 1 ∧ st = rf_sk d i ∧ ∀ q, i < q → q ≤ p → st.length < (rf_sk d q).length := by
  intro p
  induction p with
  | zero =>
    intro i st h
    have h9 := h.length_le
    simp [rf_sk] at h9
  | succ p ih =>
    intro i st h
    have hl : st.length < (rf_sk d (p + 1)).length := h.length_le
    by_cases h1 : d p = 1
    · rw [rf_sk1 h1] at h
      rcases List.suffix_cons_iff.mp h with e | h'
      · injection e with e1 e2
        refine ⟨by omega, by rw [e1]; exact h1, by rw [e1]; exact e2, fun q hq hp => ?_⟩
        have e3 : q = p + 1 := by omega
        rw [e3]; exact hl
      · obtain ⟨a1, a2, a3, a4⟩ := ih i st h'
        refine ⟨by omega, a2, a3, fun q hq hp => ?_⟩
        by_cases hqp : q = p + 1
        · rw [hqp]; exact hl
        · exact a4 q hq (by omega)
    · have h' : (i :: st) <:+ rf_sk d p := by
        by_cases h2 : d p = 2
        · rw [rf_sk2 h2] at h; exact h.trans (List.tail_suffix _)
        · rw [rf_sk0 h1 h2] at h; exact h
      obtain ⟨a1, a2, a3, a4⟩ := ih i st h'
      refine ⟨by omega, a2, a3, fun q hq hp => ?_⟩
      by_cases hqp : q = p + 1
      · rw [hqp]; exact hl
      · exact a4 q hq (by omega)
theorem rf_nc {d : Nat → Nat} {p k j : Nat} {st : List Nat} (h : (k :: st) <:+ rf_sk d p) (hj : j < p) (hk : k < j) (h2 : d j = 2) (e : rf_sk d j = k :: rf_sk d k) : False := by
  obtain ⟨_, _, a3, a4⟩ := rf_A d p k st h
  have h9 := a4 (j + 1) (by omega) (by omega)
  rw [rf_sk2 h2, e, a3] at h9
  exact Nat.lt_irrefl _ h9
/-- k and j are a pair -/
def rf_cl (d : Nat → Nat) (m : Nat → Int32) (k j : Nat) : Prop := k < j ∧ d j = 2 ∧ m k = nI j ∧ m j = nI k ∧ rf_sk d j = k :: rf_sk d k
theorem rf_cl_m {d : Nat → Nat} {m m' : Nat → Int32} {k j : Nat} (h : rf_cl d m k j) (hk : m' k = m k) (hj : m' j = m j) : rf_cl d m' k j :=
  ⟨h.1, h.2.1, hk.trans h.2.2.1, hj.trans h.2.2.2.1, h.2.2.2.2⟩
def rf_Bk (d : Nat → Nat) (p k : Nat) : Prop :=
  (d k = 1 → ((∃ st, (k :: st) <:+ rf_sk d p) ∧ rf_mt d p k = -1) ∨ ∃ j, j < p ∧ rf_cl d (rf_mt d p) k j) ∧
  (d k = 2 → ∃ i, d i = 1 ∧ rf_cl d (rf_mt d p) i k) ∧
  (d k ≠ 1 → d k ≠ 2 → rf_mt d p k = -1)
theorem rf_B (d : Nat → Nat) : ∀ p, (∀ q, q < p → d q = 2 → ∃ i st, rf_sk d q = i :: st) → ∀ k, k < p → rf_Bk d p k := by
  intro p
  induction p with
  | zero => intro _ k hk; omega
  | succ p ih =>
    intro hv k hk
    have ih' := ih (fun q hq => hv q (by omega))
    by_cases h2 : d p = 2
    · obtain ⟨i, st, hs⟩ := hv p (by omega) h2
      have hsuf : (i :: st) <:+ rf_sk d p := by rw [hs]; exact List.suffix_refl _
      obtain ⟨a1, a2, a3, a4⟩ := rf_A d p i st hsuf
      have hm : rf_mt d (p + 1) = upd (upd (rf_mt d p) i (nI p)) p (nI i) := rf_mt2 h2 hs
      have hk' : rf_sk d (p + 1) = st := by rw [rf_sk2 h2, hs]; rfl
      have mi : rf_mt d (p + 1) i = nI p := by rw [hm, pk_un (by omega), pk_us]
      have mp : rf_mt d (p + 1) p = nI i := by rw [hm, pk_us]
      have mo : ∀ q, q ≠ p → q ≠ i → rf_mt d (p + 1) q = rf_mt d p q := fun q h h' => by rw [hm, pk_un h, pk_un h']
      have hc : rf_cl d (rf_mt d (p + 1)) i p := ⟨a1, h2, mi, mp, by rw [hs, ← a3]⟩
      by_cases hkp : k = p
      · rw [hkp]
        exact ⟨fun h => absurd (h.symm.trans h2) (by decide), fun _ => ⟨i, a2, hc⟩, fun _ h => absurd h2 h⟩
      · have hkl : k < p := by omega
        obtain ⟨b1, b2, b3⟩ := ih' k hkl
        refine ⟨fun h => ?_, fun h => ?_, fun h h' => ?_⟩
        · by_cases hki : k = i
          · rw [hki]; exact Or.inr ⟨p, by omega, hc⟩
          · rcases b1 h with ⟨⟨st', hst⟩, hm1⟩ | ⟨j, hj, hcl⟩
            · left
              refine ⟨⟨st', ?_⟩, by rw [mo k hkp hki]; exact hm1⟩
              rw [hk']
              rw [hs] at hst
              rcases List.suffix_cons_iff.mp hst with e | h'
              · injection e with e1 e2
                exact absurd e1 hki
              · exact h'
            · right
              refine ⟨j, by omega, rf_cl_m hcl (mo k hkp hki) (mo j (by omega) (fun e => ?_))⟩
              have h9 := hcl.2.1
              rw [e, a2] at h9
              exact absurd h9 (by decide)
        · obtain ⟨i', hi', hcl⟩ := b2 h
          have hne : i' ≠ i := fun e => by
            rw [e] at hcl
            exact rf_nc hsuf hkl hcl.1 hcl.2.1 hcl.2.2.2.2
          have hik := hcl.1
          refine ⟨i', hi', rf_cl_m hcl (mo i' (by omega) hne) (mo k hkp (fun e => ?_))⟩
          rw [e, a2] at h
          exact absurd h (by decide)
        · rw [mo k hkp (fun e => h (by rw [e]; exact a2))]
          exact b3 h h'
    · have hm : rf_mt d (p + 1) = upd (rf_mt d p) p (-1) := rf_mt0 h2
      have mp : rf_mt d (p + 1) p = -1 := by rw [hm, pk_us]
      have mo : ∀ q, q ≠ p → rf_mt d (p + 1) q = rf_mt d p q := fun q h => by rw [hm, pk_un h]
      have hsf : ∀ l, l <:+ rf_sk d p → l <:+ rf_sk d (p + 1) := by
        intro l hl
        by_cases h1 : d p = 1
        · rw [rf_sk1 h1]; exact hl.trans (List.suffix_cons _ _)
        · rw [rf_sk0 h1 h2]; exact hl
      by_cases hkp : k = p
      · rw [hkp]
        refine ⟨fun h => Or.inl ⟨⟨rf_sk d p, ?_⟩, mp⟩, fun h => absurd h h2, fun _ _ => mp⟩
        rw [rf_sk1 h]; exact List.suffix_refl _
      · have hkl : k < p := by omega
        obtain ⟨b1, b2, b3⟩ := ih' k hkl
        refine ⟨fun h => ?_, fun h => ?_, fun h h' => by rw [mo k hkp]; exact b3 h h'⟩
        · rcases b1 h with ⟨⟨st', hst⟩, hm1⟩ | ⟨j, hj, hcl⟩
          · exact Or.inl ⟨⟨st', hsf _ hst⟩, by rw [mo k hkp]; exact hm1⟩
          · exact Or.inr ⟨j, by omega, rf_cl_m hcl (mo k hkp) (mo j (by omega))⟩
        · obtain ⟨i', hi', hcl⟩ := b2 h
          have hik := hcl.1
          exact ⟨i', hi', rf_cl_m hcl (mo i' (by omega)) (mo k hkp)⟩
/-- a pending place has no partner -/
theorem rf_op {d : Nat → Nat} {p i : Nat} {st : List Nat} (hv : ∀ q, q < p → d q = 2 → ∃ i st, rf_sk d q = i :: st) (hs : rf_sk d p = i :: st) : i < p ∧ d i = 1 ∧ st = rf_sk d i ∧ rf_mt d p i = -1 := by
  have hsuf : (i :: st) <:+ rf_sk d p := by rw [hs]; exact List.suffix_refl _
  obtain ⟨a1, a2, a3, a4⟩ := rf_A d p i st hsuf
  refine ⟨a1, a2, a3, ?_⟩
  rcases (rf_B d p hv i a1).1 a2 with h | ⟨j, hj, hcl⟩
  · exact h.2
  · exact (rf_nc hsuf hj hcl.1 hcl.2.1 hcl.2.2.2.2).elim
theorem rf_len1 (d : Nat → Nat) (p : Nat) : (rf_sk d p).length ≤ (rf_sk d (p + 1)).length + 1 := by
  by_cases h1 : d p = 1
  · rw [rf_sk1 h1, List.length_cons]; omega
  · by_cases h2 : d p = 2
    · rw [rf_sk2 h2, List.length_tail]; omega
    · rw [rf_sk0 h1 h2]; omega
theorem rf_lent (d : Nat → Nat) (p : Nat) : ∀ t, (rf_sk d p).length ≤ (rf_sk d (p + t)).length + t := by
  intro t
  induction t with
  | zero => exact Nat.le_refl _
  | succ t ih =>
    have h := rf_len1 d (p + t)
    rw [show p + (t + 1) = p + t + 1 from rfl]
    omega
theorem rf_lenp (d : Nat → Nat) : ∀ p, (rf_sk d p).length ≤ p := by
  intro p
  induction p with
  | zero => exact Nat.le_refl _
  | succ p ih =>
    by_cases h1 : d p = 1
    · rw [rf_sk1 h1, List.length_cons]; omega
    · by_cases h2 : d p = 2
      · rw [rf_sk2 h2, List.length_tail]; omega
      · rw [rf_sk0 h1 h2]; omega
/-- the second place of a pair finds a fitting one pending -/
def rf_vd (ft : Nat → Nat → Prop) (d : Nat → Nat) (q : Nat) : Prop := d q = 2 → ∃ i st, rf_sk d q = i :: st ∧ ft i q
def rf_Sy (ft H : Nat → Nat → Prop) (d : Nat → Nat) (p : Nat) : Prop := ∀ q, q < p → H q (d q) ∧ rf_vd ft d q
def rf_Sx (ft H : Nat → Nat → Prop) (n : Nat) (d : Nat → Nat) (p : Nat) : Prop := ∀ q, q < p → H q (d q) ∧ rf_vd ft d q ∧ (rf_sk d (q + 1)).length ≤ n - 1 - q
theorem rf_Sy_v {ft H : Nat → Nat → Prop} {d : Nat → Nat} {p : Nat} (h : rf_Sy ft H d p) : ∀ q, q < p → d q = 2 → ∃ i st, rf_sk d q = i :: st :=
  fun q hq h2 => let ⟨i, st, e, _⟩ := (h q hq).2 h2; ⟨i, st, e⟩
theorem rf_xy {ft H : Nat → Nat → Prop} {n : Nat} {d : Nat → Nat} : rf_Sx ft H n d n ↔ rf_Sy ft H d n ∧ rf_sk d n = [] := by
  constructor
  · intro h
    refine ⟨fun q hq => ⟨(h q hq).1, (h q hq).2.1⟩, ?_⟩
    cases n with
    | zero => rfl
    | succ n =>
      have h9 := (h n (by omega)).2.2
      exact List.eq_nil_of_length_eq_zero (by omega)
  · rintro ⟨h, e⟩ q hq
    refine ⟨(h q hq).1, (h q hq).2, ?_⟩
    have h9 := rf_lent d (q + 1) (n - 1 - q)
    rw [show q + 1 + (n - 1 - q) = n by omega, e] at h9
    simpa using h9
theorem rf_vd_cg {ft : Nat → Nat → Prop} {d e : Nat → Nat} {q : Nat} (h : ∀ k, k < q + 1 → d k = e k) : rf_vd ft d q ↔ rf_vd ft e q := by
  have h1 := (rf_cg q (fun k hk => h k (by omega))).1
  unfold rf_vd
  rw [h1, h q (by omega)]
theorem rf_Sy_cg {ft H : Nat → Nat → Prop} {d e : Nat → Nat} {p : Nat} (h : ∀ q, q < p → d q = e q) (hs : rf_Sy ft H d p) : rf_Sy ft H e p := by
  intro q hq
  obtain ⟨a, b⟩ := hs q hq
  exact ⟨by rw [← h q hq]; exact a, (rf_vd_cg (fun k hk => h k (by omega))).mp b⟩
theorem rf_Sx_cg {ft H : Nat → Nat → Prop} {n : Nat} {d e : Nat → Nat} {p : Nat} (h : ∀ q, q < p → d q = e q) (hs : rf_Sx ft H n d p) : rf_Sx ft H n e p := by
  intro q hq
  obtain ⟨a, b, c⟩ := hs q hq
  refine ⟨by rw [← h q hq]; exact a, (rf_vd_cg (fun k hk => h k (by omega))).mp b, ?_⟩
  rw [← (rf_cg (q + 1) (fun k hk => h k (by omega))).1]
  exact c
/-- what a whole fold has -/
def rf_Fo (ft : Nat → Nat → Prop) (d : Nat → Nat) (n : Nat) : Prop := ∀ k, k < n →
  (d k = 1 → ∃ j, k < j ∧ j < n ∧ d j = 2 ∧ rf_mt d n k = nI j ∧ ft k j ∧ (rf_sk d (j + 1)).length = (rf_sk d k).length ∧ ∀ q, k < q → q ≤ j → (rf_sk d k).length < (rf_sk d q).length) ∧
  (d k = 2 → ∃ i, i < k ∧ rf_mt d n k = nI i) ∧ (d k ≠ 1 → d k ≠ 2 → rf_mt d n k = -1)
theorem rf_Fo_of {ft H : Nat → Nat → Prop} {d : Nat → Nat} {n : Nat} (h : rf_Sy ft H d n) (e : rf_sk d n = []) : rf_Fo ft d n := by
  intro k hk
  obtain ⟨b1, b2, b3⟩ := rf_B d n (rf_Sy_v h) k hk
  refine ⟨fun h1 => ?_, fun h2 => ?_, b3⟩
  · rcases b1 h1 with ⟨⟨st, hst⟩, _⟩ | ⟨j, hj, hcl⟩
    · rw [e] at hst
      have h9 := hst.length_le
      simp at h9
    · obtain ⟨c1, c2, c3, c4, c5⟩ := hcl
      obtain ⟨i, st, f1, f2⟩ := (h j hj).2 c2
      have f3 : i = k := by
        rw [c5] at f1
        injection f1 with f4 _
        exact f4.symm
      rw [f3] at f2
      refine ⟨j, c1, hj, c2, c3, f2, by rw [rf_sk2 c2, c5]; rfl, fun q hq hqj => ?_⟩
      exact (rf_A d j k (rf_sk d k) (by rw [c5]; exact List.suffix_refl _)).2.2.2 q hq hqj
  · obtain ⟨i, _, hcl⟩ := b2 h2
    exact ⟨i, hcl.1, hcl.2.2.2.1⟩
end
section
/-! the digits of a code, and what is gathered over the codes in their order -/
def rf_dg (n c q : Nat) : Nat := c / 3 ^ (n - 1 - q) % 3
theorem rf_dg3 (n c q : Nat) : rf_dg n c q < 3 := Nat.mod_lt _ (by decide)
def rf_vl (d : Nat → Nat) : Nat → Nat
  | 0 => 0
  | p + 1 => 3 * rf_vl d p + d p
theorem rf_vl_cg {d e : Nat → Nat} : ∀ p, (∀ q, q < p → d q = e q) → rf_vl d p = rf_vl e p := by
  intro p
  induction p with
  | zero => intro _; rfl
  | succ p ih =>
    intro h
    show 3 * rf_vl d p + d p = 3 * rf_vl e p + e p
    rw [ih (fun q hq => h q (by omega)), h p (by omega)]
theorem rf_vl_lt {d : Nat → Nat} : ∀ p, (∀ q, q < p → d q < 3) → rf_vl d p < 3 ^ p := by
  intro p
  induction p with
  | zero => intro _; exact Nat.one_pos
  | succ p ih =>
    intro h
    have a := ih (fun q hq => h q (by omega))
    have b := h p (by omega)
    show 3 * rf_vl d p + d p < 3 ^ (p + 1)
    rw [Nat.pow_succ]
    omega
theorem rf_blk {n c : Nat} {d : Nat → Nat} : ∀ p, p ≤ n → (∀ q, q < p → d q < 3) → c / 3 ^ (n - p) = rf_vl d p → ∀ q, q < p → rf_dg n c q = d q := by
  intro p
  induction p with
  | zero => intro _ _ _ q hq; omega
  | succ p ih =>
    intro hp hd hc q hq
    have e1 : n - p = (n - (p + 1)) + 1 := by omega
    have h3 := hd p (by omega)
    have hv : rf_vl d (p + 1) = 3 * rf_vl d p + d p := rfl
    by_cases hqp : q = p
    · rw [hqp]
      show c / 3 ^ (n - 1 - p) % 3 = d p
      rw [show n - 1 - p = n - (p + 1) by omega, hc, hv]
      omega
    · refine ih (by omega) (fun q hq => hd q (by omega)) ?_ q (by omega)
      rw [e1, Nat.pow_succ, ← Nat.div_div_eq_div_mul, hc, hv]
      omega
/-- the codes from v * M to below (v + 1) * M begin alike -/
theorem rf_blk2 {n p c : Nat} {d : Nat → Nat} (hp : p ≤ n) (hd : ∀ q, q < p → d q < 3) (h1 : rf_vl d p * 3 ^ (n - p) ≤ c) (h2 : c < rf_vl d p * 3 ^ (n - p) + 3 ^ (n - p)) : ∀ q, q < p → rf_dg n c q = d q := by
  refine rf_blk p hp hd ?_
  have hM : 0 < 3 ^ (n - p) := Nat.pow_pos (by decide)
  apply Nat.div_eq_of_lt_le
  · exact h1
  · rw [Nat.add_mul, Nat.one_mul]; exact h2
theorem rf_same {n s c c' : Nat} (hs : s < n) (h : c / 3 ^ (n - 1 - s) = c' / 3 ^ (n - 1 - s)) : ∀ q, q < s + 1 → rf_dg n c q = rf_dg n c' q := by
  intro q hq
  show c / 3 ^ (n - 1 - q) % 3 = c' / 3 ^ (n - 1 - q) % 3
  rw [show n - 1 - q = (n - 1 - s) + (s - q) by omega, Nat.pow_add, ← Nat.div_div_eq_div_mul, h, Nat.div_div_eq_div_mul]
def rf_st (a : Nat × Int32 × Int32 × Int32) (v k : Int32) : Nat × Int32 × Int32 × Int32 :=
  if a.2.1 < v then (a.1 + 1, v, 0 + 1, k) else if v = a.2.1 then (a.1 + 1, a.2.1, a.2.2.1 + 1, a.2.2.2) else (a.1 + 1, a.2.1, a.2.2.1, a.2.2.2)
noncomputable def rf_ac (Q : Nat → Prop) (sc : Nat → Int32) : Nat → Nat × Int32 × Int32 × Int32
  | 0 => (0, -1000, 0, -1)
  | c + 1 => @ite _ (Q c) (Classical.propDecidable (Q c)) (rf_st (rf_ac Q sc c) (sc c) (nI c)) (rf_ac Q sc c)
theorem rf_ac_t {Q : Nat → Prop} {sc : Nat → Int32} {c : Nat} (h : Q c) : rf_ac Q sc (c + 1) = rf_st (rf_ac Q sc c) (sc c) (nI c) := if_pos h
theorem rf_ac_f {Q : Nat → Prop} {sc : Nat → Int32} {c : Nat} (h : ¬ Q c) : rf_ac Q sc (c + 1) = rf_ac Q sc c := if_neg h
theorem rf_ac_s {Q : Nat → Prop} {sc : Nat → Int32} {a : Nat} : ∀ t, (∀ c, a ≤ c → c < a + t → ¬ Q c) → rf_ac Q sc (a + t) = rf_ac Q sc a := by
  intro t
  induction t with
  | zero => intro _; rfl
  | succ t ih =>
    intro h
    rw [show a + (t + 1) = a + t + 1 from rfl, rf_ac_f (h (a + t) (by omega) (by omega))]
    exact ih (fun c h1 h2 => h c h1 (by omega))
theorem rf_ac_s2 {Q : Nat → Prop} {sc : Nat → Int32} {a b : Nat} (hab : a ≤ b) (h : ∀ c, a ≤ c → c < b → ¬ Q c) : rf_ac Q sc b = rf_ac Q sc a := by
  have h9 := rf_ac_s (Q := Q) (sc := sc) (a := a) (b - a) (fun c h1 h2 => h c h1 (by omega))
  rw [show a + (b - a) = b by omega] at h9
  exact h9
theorem rf_st1 (a : Nat × Int32 × Int32 × Int32) (v k : Int32) : (rf_st a v k).1 = a.1 + 1 := by
  unfold rf_st
  split
  · rfl
  · split <;> rfl
theorem rf_ac_le (Q : Nat → Prop) (sc : Nat → Int32) : ∀ c, (rf_ac Q sc c).1 ≤ c := by
  intro c
  induction c with
  | zero => exact Nat.le_refl _
  | succ c ih =>
    by_cases h : Q c
    · rw [rf_ac_t h, rf_st1]; omega
    · rw [rf_ac_f h]; omega
theorem rf_ac_0 (Q : Nat → Prop) (sc : Nat → Int32) : ∀ c, (rf_ac Q sc c).1 = 0 → rf_ac Q sc c = (0, -1000, 0, -1) := by
  intro c
  induction c with
  | zero => intro _; rfl
  | succ c ih =>
    by_cases h : Q c
    · rw [rf_ac_t h, rf_st1]; intro h9; omega
    · rw [rf_ac_f h]; exact ih
/-! counting -/
def rf_cn (P : Nat → Bool) : Nat → Nat → Nat
  | _, 0 => 0
  | k, t + 1 => (if P k = true then 1 else 0) + rf_cn P (k + 1) t
theorem rf_cn_t {P : Nat → Bool} {k t : Nat} (h : P k = true) : rf_cn P k (t + 1) = 1 + rf_cn P (k + 1) t := by
  show (if P k = true then 1 else 0) + _ = _
  rw [if_pos h]
theorem rf_cn_f {P : Nat → Bool} {k t : Nat} (h : P k = false) : rf_cn P k (t + 1) = rf_cn P (k + 1) t := by
  show (if P k = true then 1 else 0) + _ = _
  rw [if_neg (by rw [h]; decide), Nat.zero_add]
theorem rf_cn_s {P : Nat → Bool} : ∀ (t k u : Nat), (∀ q, k ≤ q → q < k + t → P q = false) → rf_cn P k (t + u) = rf_cn P (k + t) u := by
  intro t
  induction t with
  | zero => intro k u _; rw [Nat.zero_add]; rfl
  | succ t ih =>
    intro k u h
    rw [show t + 1 + u = (t + u) + 1 by omega, rf_cn_f (h k (by omega) (by omega)), ih (k + 1) u (fun q h1 h2 => h q (by omega) (by omega)), show k + 1 + t = k + (t + 1) by omega]
theorem rf_cn_1 {P : Nat → Bool} : ∀ (t k q : Nat), k ≤ q → q < k + t → P q = true → 1 ≤ rf_cn P k t := by
  intro t
  induction t with
  | zero => intro k q h1 h2 _; omega
  | succ t ih =>
    intro k q h1 h2 h
    by_cases hk : q = k
    · rw [hk] at h; rw [rf_cn_t h]; omega
    · have h9 := ih (k + 1) q (by omega) (by omega) h
      show 1 ≤ (if P k = true then 1 else 0) + rf_cn P (k + 1) t
      omega
theorem rf_cn_2 {P : Nat → Bool} : ∀ (t k q r : Nat), k ≤ q → q < r → r < k + t → P q = true → P r = true → 2 ≤ rf_cn P k t := by
  intro t
  induction t with
  | zero => intro k q r h1 h2 h3 _ _; omega
  | succ t ih =>
    intro k q r h1 h2 h3 h h'
    by_cases hk : q = k
    · have h9 := rf_cn_1 t (k + 1) r (by omega) (by omega) h'
      rw [hk] at h
      rw [rf_cn_t h]
      omega
    · have h9 := ih (k + 1) q r (by omega) h2 (by omega) h h'
      show 2 ≤ (if P k = true then 1 else 0) + rf_cn P (k + 1) t
      omega
end
section
/-! kinds, fitting places, holds, allowed codes, the score -/
def rf_kd (x y : Nat) : Nat := if x + y = 3 then (if x = 0 ∨ x = 3 then 0 else 1) else if x + y = 5 then 2 else 3
theorem rf_kd3 (x y : Nat) : rf_kd x y ≤ 3 := by
  unfold rf_kd
  split
  · split <;> omega
  · split <;> omega
def rf_ft (A : Nat → Int32) (g : Nat) (i j : Nat) : Prop := g + i < j ∧ rf_kd (A i).toNatClampNeg (A j).toNatClampNeg ≠ 3
def rf_H (h : Nat → Int32) (q x : Nat) : Prop := h q = 0 ∨ h q = nI (x + 1)
def rf_ok (ft H : Nat → Nat → Prop) (n c : Nat) : Prop := rf_Sy ft H (rf_dg n c) n ∧ rf_sk (rf_dg n c) n = []
/-- s is the first unsound place of the code c -/
def rf_fs (ft H : Nat → Nat → Prop) (n c s : Nat) : Prop := s < n ∧ rf_Sx ft H n (rf_dg n c) s ∧ ¬ rf_Sx ft H n (rf_dg n c) (s + 1)
theorem rf_fs_same {ft H : Nat → Nat → Prop} {n c c' s : Nat} (e : c / 3 ^ (n - 1 - s) = c' / 3 ^ (n - 1 - s)) (h : rf_fs ft H n c s) : rf_fs ft H n c' s := by
  have h1 := rf_same h.1 e
  refine ⟨h.1, rf_Sx_cg (fun q hq => h1 q (by omega)) h.2.1, fun h9 => h.2.2 (rf_Sx_cg (fun q hq => (h1 q hq).symm) h9)⟩
theorem rf_fs_nok {ft H : Nat → Nat → Prop} {n c s : Nat} (h : rf_fs ft H n c s) : ¬ rf_ok ft H n c := by
  intro h9
  have h1 := h.1
  exact h.2.2 (fun q hq => rf_xy.mpr h9 q (by omega))
theorem rf_fs_un {ft H : Nat → Nat → Prop} {n c s s' : Nat} (h : rf_fs ft H n c s) (h' : rf_fs ft H n c s') : s = s' := by
  rcases Nat.lt_trichotomy s s' with h1 | h1 | h1
  · exact (h.2.2 (fun q hq => h'.2.1 q (by omega))).elim
  · exact h1
  · exact (h'.2.2 (fun q hq => h.2.1 q (by omega))).elim
theorem rf_pre {c M : Nat} (hM : 0 < M) (h : c % M ≠ 0) : (c - 1) / M = c / M := by
  have h1 := Nat.div_add_mod' c M
  have h2 := Nat.mod_lt c hM
  apply Nat.div_eq_of_lt_le
  · omega
  · rw [Nat.add_mul, Nat.one_mul]; omega
theorem rf_quo {c c' M : Nat} (h : c % M = 0) (h1 : c ≤ c') (h2 : c' < c + M) : c' / M = c / M := by
  have h3 := Nat.div_add_mod' c M
  apply Nat.div_eq_of_lt_le
  · omega
  · rw [Nat.add_mul, Nat.one_mul]; omega
/-- the code before c is sound, or its block ends at c -/
def rf_BB (ft H : Nat → Nat → Prop) (n c : Nat) : Prop := c = 0 ∨ ∀ s, rf_fs ft H n (c - 1) s → c % 3 ^ (n - 1 - s) = 0
theorem rf_BB_m {ft H : Nat → Nat → Prop} {n c s : Nat} (h : rf_BB ft H n c) (hs : rf_fs ft H n c s) : c % 3 ^ (n - 1 - s) = 0 := by
  rcases h with h | h
  · rw [h]; exact Nat.zero_mod _
  · by_cases h9 : c % 3 ^ (n - 1 - s) = 0
    · exact h9
    · exact h s (rf_fs_same (rf_pre (Nat.pow_pos (by decide)) h9).symm hs)
theorem rf_BB_n {ft H : Nat → Nat → Prop} {n c s : Nat} (h : rf_BB ft H n c) (hs : rf_fs ft H n c s) : rf_BB ft H n (c + 3 ^ (n - 1 - s)) ∧ ∀ c', c ≤ c' → c' < c + 3 ^ (n - 1 - s) → ¬ rf_ok ft H n c' := by
  have hm := rf_BB_m h hs
  have hM : 0 < 3 ^ (n - 1 - s) := Nat.pow_pos (by decide)
  have hall : ∀ c', c ≤ c' → c' < c + 3 ^ (n - 1 - s) → rf_fs ft H n c' s := fun c' h1 h2 => rf_fs_same (rf_quo hm h1 h2).symm hs
  refine ⟨Or.inr fun s' hs' => ?_, fun c' h1 h2 => rf_fs_nok (hall c' h1 h2)⟩
  have e := rf_fs_un hs' (hall _ (by omega) (by omega))
  rw [e, Nat.add_mod_right]
  exact hm
theorem rf_BB_s {ft H : Nat → Nat → Prop} {n c : Nat} (h : rf_ok ft H n c) : rf_BB ft H n (c + 1) :=
  Or.inr fun _ hs => (rf_fs_nok hs h).elim
def rf_Pk (d : Nat → Nat) (i q : Nat) : Bool := decide (d q = 1) && decide ((rf_sk d q).length = (rf_sk d i).length + 1)
theorem rf_Pk_t {d : Nat → Nat} {i q : Nat} (h : d q = 1) (h' : (rf_sk d q).length = (rf_sk d i).length + 1) : rf_Pk d i q = true := by
  unfold rf_Pk
  rw [decide_eq_true h, decide_eq_true h']
  rfl
theorem rf_Pk_f {d : Nat → Nat} {i q : Nat} (h : d q ≠ 1 ∨ (rf_sk d q).length ≠ (rf_sk d i).length + 1) : rf_Pk d i q = false := by
  unfold rf_Pk
  rcases h with h | h
  · rw [decide_eq_false h]; rfl
  · rw [decide_eq_false h, Bool.and_false]
theorem rf_Pk_i {d : Nat → Nat} {i q : Nat} (h : rf_Pk d i q = true) : d q = 1 ∧ (rf_sk d q).length = (rf_sk d i).length + 1 := by
  unfold rf_Pk at h
  rw [Bool.and_eq_true, decide_eq_true_eq, decide_eq_true_eq] at h
  exact h
def rf_wn (d : Nat → Nat) (i j : Nat) : Nat := rf_cn (rf_Pk d i) (i + 1) (j - (i + 1))
def rf_pv (A nu : Nat → Int32) (d : Nat → Nat) (m : Nat → Int32) (i j : Nat) : Int32 :=
  if rf_wn d i j = 0 then nu (rf_kd (A i).toNatClampNeg (A j).toNatClampNeg)
  else if 1 < rf_wn d i j then nu (rf_kd (A i).toNatClampNeg (A j).toNatClampNeg) - nu 5
  else if m (i + 1) = nI (j - 1) then nu (rf_kd (A i).toNatClampNeg (A j).toNatClampNeg) + nu 3
  else nu (rf_kd (A i).toNatClampNeg (A j).toNatClampNeg) - nu 4
def rf_sm (A nu : Nat → Int32) (d : Nat → Nat) (n : Nat) : Nat → Int32
  | 0 => 0
  | p + 1 => if d p = 1 then rf_sm A nu d n p + rf_pv A nu d (rf_mt d n) p (rf_mt d n p).toNatClampNeg else rf_sm A nu d n p
theorem rf_sm1 {A nu : Nat → Int32} {d : Nat → Nat} {n p j : Nat} (h : d p = 1) (hj : rf_mt d n p = nI j) (h31 : j < 2 ^ 31) : rf_sm A nu d n (p + 1) = rf_sm A nu d n p + rf_pv A nu d (rf_mt d n) p j := by
  show (if d p = 1 then rf_sm A nu d n p + rf_pv A nu d (rf_mt d n) p (rf_mt d n p).toNatClampNeg else rf_sm A nu d n p) = _
  rw [if_pos h, hj, nI_clamp h31]
theorem rf_sm0 {A nu : Nat → Int32} {d : Nat → Nat} {n p : Nat} (h : d p ≠ 1) : rf_sm A nu d n (p + 1) = rf_sm A nu d n p := if_neg h
def rf_sc (A nu : Nat → Int32) (n c : Nat) : Int32 := rf_sm A nu (rf_dg n c) n n
theorem rf_add {a b : Int32} (h1 : -10000 ≤ a.toInt) (h2 : a.toInt ≤ 10000) (h3 : -10000 ≤ b.toInt) (h4 : b.toInt ≤ 10000) : (a + b).toInt = a.toInt + b.toInt := by
  rw [Int32.toInt_add]
  exact Int.bmod_eq_of_le (by omega) (by omega)
theorem rf_sub {a b : Int32} (h1 : -10000 ≤ a.toInt) (h2 : a.toInt ≤ 10000) (h3 : -10000 ≤ b.toInt) (h4 : b.toInt ≤ 10000) : (a - b).toInt = a.toInt - b.toInt := by
  rw [Int32.toInt_sub]
  exact Int.bmod_eq_of_le (by omega) (by omega)
def rf_Nu (nu : Nat → Int32) : Prop := ∀ q, ∃ x, x ≤ 20 ∧ nu q = nI x
theorem rf_Nu_b {nu : Nat → Int32} (h : rf_Nu nu) (q : Nat) : 0 ≤ (nu q).toInt ∧ (nu q).toInt ≤ 20 := by
  obtain ⟨x, hx, e⟩ := h q
  rw [e, nI_toInt (by omega)]
  omega
theorem rf_pv_b {A nu : Nat → Int32} (h : rf_Nu nu) (d : Nat → Nat) (m : Nat → Int32) (i j : Nat) : -20 ≤ (rf_pv A nu d m i j).toInt ∧ (rf_pv A nu d m i j).toInt ≤ 40 := by
  unfold rf_pv
  generalize rf_kd (A i).toNatClampNeg (A j).toNatClampNeg = k
  have hk := rf_Nu_b h k
  have h3 := rf_Nu_b h 3
  have h4 := rf_Nu_b h 4
  have h5 := rf_Nu_b h 5
  split
  · omega
  · split
    · rw [rf_sub (by omega) (by omega) (by omega) (by omega)]; omega
    · split
      · rw [rf_add (by omega) (by omega) (by omega) (by omega)]; omega
      · rw [rf_sub (by omega) (by omega) (by omega) (by omega)]; omega
theorem rf_sm_b {A nu : Nat → Int32} (h : rf_Nu nu) (d : Nat → Nat) (n : Nat) : ∀ p : Nat, p ≤ 11 → -20 * (p : Int) ≤ (rf_sm A nu d n p).toInt ∧ (rf_sm A nu d n p).toInt ≤ 40 * (p : Int) := by
  intro p
  induction p with
  | zero =>
    intro _
    have e : (rf_sm A nu d n 0).toInt = 0 := rfl
    omega
  | succ p ih =>
    intro hp
    have h1 := ih (by omega)
    by_cases h9 : d p = 1
    · have e : rf_sm A nu d n (p + 1) = rf_sm A nu d n p + rf_pv A nu d (rf_mt d n) p (rf_mt d n p).toNatClampNeg := if_pos h9
      have h2 := rf_pv_b (A := A) h d (rf_mt d n) p (rf_mt d n p).toNatClampNeg
      rw [e, rf_add (by omega) (by omega) (by omega) (by omega)]
      omega
    · rw [rf_sm0 h9]
      omega
theorem rf_sc_b {A nu : Nat → Int32} (h : rf_Nu nu) {n c : Nat} (hn : n ≤ 11) : (-1000 : Int32) < rf_sc A nu n c := by
  have h1 := rf_sm_b (A := A) h (rf_dg n c) n n hn
  rw [Int32.lt_iff_toInt_lt, show (-1000 : Int32).toInt = -1000 from by decide]
  show _ < (rf_sm A nu (rf_dg n c) n n).toInt
  omega
/-! the places between i and its partner j -/
theorem rf_L1 {d : Nat → Nat} {k : Nat} (h : d k = 1) : (rf_sk d (k + 1)).length = (rf_sk d k).length + 1 := by rw [rf_sk1 h]; rfl
theorem rf_L2 {d : Nat → Nat} {k : Nat} (h : d k = 2) : (rf_sk d (k + 1)).length = (rf_sk d k).length - 1 := by rw [rf_sk2 h, List.length_tail]
theorem rf_L0 {d : Nat → Nat} {k : Nat} (h1 : d k ≠ 1) (h2 : d k ≠ 2) : (rf_sk d (k + 1)).length = (rf_sk d k).length := by rw [rf_sk0 h1 h2]
def rf_pr (d : Nat → Nat) (i j : Nat) : Prop := i < j ∧ (rf_sk d (j + 1)).length = (rf_sk d i).length ∧ ∀ q, i < q → q ≤ j → (rf_sk d i).length < (rf_sk d q).length
/-- a pair that begins directly within (i, j) ends within -/
theorem rf_in {d : Nat → Nat} {i j k m : Nat} (h : rf_pr d i j) (hk : rf_pr d k m) (h1 : i < k) (h2 : k < j) (e : (rf_sk d k).length = (rf_sk d i).length + 1) : m < j := by
  obtain ⟨a1, a2, a3⟩ := h
  obtain ⟨b1, b2, b3⟩ := hk
  rcases Nat.lt_trichotomy m j with h9 | h9 | h9
  · exact h9
  · rw [h9] at b2; omega
  · have h8 := b3 (j + 1) (by omega) (by omega)
    omega
/-- one step over a place that begins no pair -/
theorem rf_w0 {d : Nat → Nat} {i j k : Nat} (h : rf_pr d i j) (h1 : i < k) (h2 : k < j) (e : (rf_sk d k).length = (rf_sk d i).length + 1) (hd : d k ≠ 1) : (rf_sk d (k + 1)).length = (rf_sk d i).length + 1 ∧ rf_cn (rf_Pk d i) k (j - k) = rf_cn (rf_Pk d i) (k + 1) (j - (k + 1)) := by
  obtain ⟨a1, a2, a3⟩ := h
  constructor
  · have h8 := a3 (k + 1) (by omega) (by omega)
    by_cases h9 : d k = 2
    · have h7 := rf_L2 h9
      omega
    · rw [rf_L0 hd h9]; exact e
  · rw [show j - k = (j - (k + 1)) + 1 by omega, rf_cn_f (rf_Pk_f (Or.inl hd))]
/-- one step over a pair directly within -/
theorem rf_w1 {d : Nat → Nat} {i j k m : Nat} (h : rf_pr d i j) (hk : rf_pr d k m) (h1 : i < k) (h2 : k < j) (e : (rf_sk d k).length = (rf_sk d i).length + 1) (hd : d k = 1) : m < j ∧ (rf_sk d (m + 1)).length = (rf_sk d i).length + 1 ∧ rf_cn (rf_Pk d i) k (j - k) = 1 + rf_cn (rf_Pk d i) (m + 1) (j - (m + 1)) := by
  have hm := rf_in h hk h1 h2 e
  obtain ⟨b1, b2, b3⟩ := hk
  refine ⟨hm, by omega, ?_⟩
  rw [show j - k = (j - (k + 1)) + 1 by omega, rf_cn_t (rf_Pk_t hd e), show j - (k + 1) = (m - k) + (j - (m + 1)) by omega, rf_cn_s (m - k) (k + 1) _ (fun q h3 h4 => rf_Pk_f (Or.inr (by have h8 := b3 q (by omega) (by omega); omega))), show k + 1 + (m - k) = m + 1 by omega]
theorem rf_Fo_pr {ft : Nat → Nat → Prop} {d : Nat → Nat} {n k : Nat} (F : rf_Fo ft d n) (hk : k < n) (h : d k = 1) : ∃ j, k < j ∧ j < n ∧ d j = 2 ∧ rf_mt d n k = nI j ∧ ft k j ∧ rf_pr d k j := by
  obtain ⟨j, c1, c2, c3, c4, c5, c6, c7⟩ := (F k hk).1 h
  exact ⟨j, c1, c2, c3, c4, c5, c1, c6, c7⟩
/-- with one pair directly within: that it begins at i + 1 and ends at j - 1 is seen at i + 1 alone -/
theorem rf_stk {ft : Nat → Nat → Prop} {d : Nat → Nat} {n i j q : Nat} (F : rf_Fo ft d n) (hj : j < n) (hn : n < 2 ^ 31) (hw : rf_wn d i j = 1) (hq1 : i < q) (hq2 : q < j) (hq : rf_Pk d i q = true) (hd : d i = 1) (hp : rf_pr d i j) : rf_mt d n (i + 1) = nI (j - 1) → q = i + 1 := by
  intro hm
  have h2 : i + 1 < n := by omega
  have hd1 : d (i + 1) = 1 := by
    by_cases h9 : d (i + 1) = 1
    · exact h9
    · by_cases h8 : d (i + 1) = 2
      · obtain ⟨k, hk, e⟩ := (F (i + 1) h2).2.1 h8
        rw [hm] at e
        have e2 := (nI_eq (by omega) (by omega)).mp e
        omega
      · have e := (F (i + 1) h2).2.2 h9 h8
        rw [hm] at e
        have e2 := congrArg Int32.toInt e
        rw [nI_toInt (by omega), show (-1 : Int32).toInt = -1 from by decide] at e2
        omega
  have hP : rf_Pk d i (i + 1) = true := rf_Pk_t hd1 (rf_L1 hd)
  by_cases h9 : q = i + 1
  · exact h9
  · have h8 := rf_cn_2 (j - (i + 1)) (i + 1) (i + 1) q (Nat.le_refl _) (by omega) (by omega) hP hq
    have h7 : rf_cn (rf_Pk d i) (i + 1) (j - (i + 1)) = 1 := hw
    omega
end
section
/-! digits put one behind another, and what is passed over -/
def rf_up (d : Nat → Nat) (p s : Nat) : Nat → Nat := fun q => if q = p then s else d q
theorem rf_up_s {d : Nat → Nat} {p s : Nat} : rf_up d p s p = s := if_pos rfl
theorem rf_up_n {d : Nat → Nat} {p s q : Nat} (h : q ≠ p) : rf_up d p s q = d q := if_neg h
theorem rf_up_3 {d : Nat → Nat} {p s : Nat} (hd : ∀ q, q < p → d q < 3) (hs : s < 3) : ∀ q, q < p + 1 → rf_up d p s q < 3 := by
  intro q hq
  by_cases h : q = p
  · rw [h, rf_up_s]; exact hs
  · rw [rf_up_n h]; exact hd q (by omega)
theorem rf_up_b {d : Nat → Nat} {p s : Nat} : ∀ q, q < p → rf_up d p s q = d q := fun q hq => rf_up_n (by omega)
theorem rf_up_vl {d : Nat → Nat} {p s : Nat} : rf_vl (rf_up d p s) (p + 1) = 3 * rf_vl d p + s := by
  show 3 * rf_vl (rf_up d p s) p + rf_up d p s p = _
  rw [rf_up_s, rf_vl_cg p rf_up_b]
theorem rf_skipY {ft H : Nat → Nat → Prop} {n p fr s : Nat} {d : Nat → Nat} (hp : p < n) (hd : ∀ q, q < p → d q < 3) (hs3 : s ≤ 3) (hno : ∀ s', fr ≤ s' → s' < s → ¬ (H p s' ∧ rf_vd ft (rf_up d p s') p)) : ∀ c, (3 * rf_vl d p + fr) * 3 ^ (n - (p + 1)) ≤ c → c < (3 * rf_vl d p + s) * 3 ^ (n - (p + 1)) → ¬ rf_ok ft H n c := by
  intro c h1 h2 hok
  have hP : 0 < 3 ^ (n - (p + 1)) := Nat.pow_pos (by decide)
  have q1 : 3 * rf_vl d p + fr ≤ c / 3 ^ (n - (p + 1)) := (Nat.le_div_iff_mul_le hP).mpr h1
  have q2 : c / 3 ^ (n - (p + 1)) < 3 * rf_vl d p + s := (Nat.div_lt_iff_lt_mul hP).mpr h2
  obtain ⟨s', e⟩ : ∃ s', c / 3 ^ (n - (p + 1)) = 3 * rf_vl d p + s' := ⟨c / 3 ^ (n - (p + 1)) - 3 * rf_vl d p, by omega⟩
  have hdg := rf_blk (n := n) (c := c) (d := rf_up d p s') (p + 1) (by omega) (rf_up_3 hd (by omega)) (by rw [e, rf_up_vl])
  have h9 := hok.1 p hp
  have e2 := hdg p (by omega)
  rw [rf_up_s] at e2
  exact hno s' (by omega) (by omega) ⟨by rw [← e2]; exact h9.1, (rf_vd_cg (fun k hk => hdg k hk)).mp h9.2⟩
/-- the code of n digits has just these digits -/
theorem rf_dg_vl {n : Nat} {d : Nat → Nat} (hd : ∀ q, q < n → d q < 3) : ∀ q, q < n → rf_dg n (rf_vl d n) q = d q :=
  rf_blk n (Nat.le_refl _) hd (by rw [Nat.sub_self, Nat.pow_zero, Nat.div_one])
theorem rf_ok_vl {ft H : Nat → Nat → Prop} {n : Nat} {d : Nat → Nat} (hd : ∀ q, q < n → d q < 3) : rf_ok ft H n (rf_vl d n) ↔ rf_Sy ft H d n ∧ rf_sk d n = [] := by
  have h := rf_dg_vl hd
  unfold rf_ok
  rw [(rf_cg n h).1]
  exact ⟨fun h9 => ⟨rf_Sy_cg h h9.1, h9.2⟩, fun h9 => ⟨rf_Sy_cg (fun q hq => (h q hq).symm) h9.1, h9.2⟩⟩
/-- the list of pending places lies in the array, the last one at the end -/
def rf_ly (a : Nat → Int32) : List Nat → Prop
  | [] => True
  | i :: st => a st.length = nI i ∧ rf_ly a st
theorem rf_ly_u {a : Nat → Int32} {k : Nat} {x : Int32} : ∀ st : List Nat, st.length ≤ k → rf_ly a st → rf_ly (upd a k x) st := by
  intro st
  induction st with
  | nil => intro _ _; trivial
  | cons i st ih =>
    intro hk h
    have hk' : st.length + 1 ≤ k := hk
    refine ⟨?_, ih (by omega) h.2⟩
    rw [pk_un (by omega)]
    exact h.1
theorem rf_ly_p {a : Nat → Int32} {st : List Nat} {i : Nat} (h : rf_ly a st) : rf_ly (upd a st.length (nI i)) (i :: st) :=
  ⟨pk_us, rf_ly_u st (Nat.le_refl _) h⟩
/-- where the order of the codes stands: all codes below v are done -/
def rf_at (n p fr v : Nat) (d : Nat → Nat) : Prop := (p < n → v = (3 * rf_vl d p + fr) * 3 ^ (n - (p + 1))) ∧ (p = n → v = rf_vl d p)
def rf_ds (d : Nat → Nat) : Nat → Nat
  | 0 => 0
  | p + 1 => rf_ds d p + d p
theorem rf_ds_cg {d e : Nat → Nat} : ∀ p, (∀ q, q < p → d q = e q) → rf_ds d p = rf_ds e p := by
  intro p
  induction p with
  | zero => intro _; rfl
  | succ p ih =>
    intro h
    show rf_ds d p + d p = rf_ds e p + e p
    rw [ih (fun q hq => h q (by omega)), h p (by omega)]
/-- the turns that are left -/
def rf_mu (n p fr v : Nat) (d : Nat → Nat) : Nat := 3 * (3 ^ n - v) + fr + rf_ds d p + (11 - p)
theorem rf_pw {n p : Nat} (h : p < n) : 3 ^ (n - p) = 3 * 3 ^ (n - (p + 1)) := by
  rw [show n - p = (n - (p + 1)) + 1 by omega, Nat.pow_succ, Nat.mul_comm]
theorem rf_pn {n p : Nat} (h : p ≤ n) : 3 ^ n = 3 ^ p * 3 ^ (n - p) := by
  rw [← Nat.pow_add, show p + (n - p) = n by omega]
theorem rf_vE {n p : Nat} {d : Nat → Nat} (h : p ≤ n) (hd : ∀ q, q < p → d q < 3) : rf_vl d p * 3 ^ (n - p) + 3 ^ (n - p) ≤ 3 ^ n := by
  have h1 := rf_vl_lt p hd
  rw [rf_pn h]
  have h2 := Nat.mul_le_mul_right (3 ^ (n - p)) h1
  rw [Nat.succ_mul] at h2
  exact h2
/-- a digit is put: from v on to the codes with it -/
theorem rf_dn {n p fr s v : Nat} {d : Nat → Nat} (hn : n ≤ 11) (hp : p < n) (hd : ∀ q, q < p → d q < 3) (h1 : fr ≤ s) (h2 : s < 3) (hv : rf_at n p fr v d) :
    ∃ v', v' = (3 * rf_vl d p + s) * 3 ^ (n - (p + 1)) ∧ v ≤ v' ∧ v' ≤ 3 ^ n ∧ rf_at n (p + 1) 0 v' (rf_up d p s) ∧ rf_mu n (p + 1) 0 v' (rf_up d p s) < rf_mu n p fr v d := by
  have hv1 := hv.1 hp
  have hE := rf_vE (n := n) (p := p + 1) (d := rf_up d p s) (by omega) (rf_up_3 hd h2)
  rw [rf_up_vl] at hE
  have hP : 0 < 3 ^ (n - (p + 1)) := Nat.pow_pos (by decide)
  have hle : (3 * rf_vl d p + fr) * 3 ^ (n - (p + 1)) + (s - fr) ≤ (3 * rf_vl d p + s) * 3 ^ (n - (p + 1)) := by
    have e : 3 * rf_vl d p + s = (3 * rf_vl d p + fr) + (s - fr) := by omega
    have h9 := Nat.mul_le_mul_left (s - fr) hP
    have e2 : (3 * rf_vl d p + s) * 3 ^ (n - (p + 1)) = (3 * rf_vl d p + fr) * 3 ^ (n - (p + 1)) + (s - fr) * 3 ^ (n - (p + 1)) := by rw [← Nat.add_mul, ← e]
    omega
  refine ⟨_, rfl, by omega, by omega, ⟨fun h => ?_, fun h => ?_⟩, ?_⟩
  · rw [rf_up_vl, rf_pw h, Nat.add_zero (3 * (3 * rf_vl d p + s)), Nat.mul_comm 3 (3 * rf_vl d p + s), Nat.mul_assoc]
  · rw [rf_up_vl, h, Nat.sub_self, Nat.pow_zero, Nat.mul_one]
  · have e1 : rf_ds (rf_up d p s) (p + 1) = rf_ds d p + s := by
      show rf_ds (rf_up d p s) p + rf_up d p s p = _
      rw [rf_up_s, rf_ds_cg p rf_up_b]
    unfold rf_mu
    rw [e1]
    omega
/-- one step back from a place where nothing more can be put -/
theorem rf_bk {n p fr v : Nat} {d : Nat → Nat} (hn : n ≤ 11) (hp : p < n) (hd : ∀ q, q < p + 1 → d q < 3) (hf : fr ≤ 3) {v0 : Nat} (hv0 : rf_at n (p + 1) fr v0 d) (hleaf : p + 1 = n → fr = 0) (hv : v = (rf_vl d (p + 1) + 1) * 3 ^ (n - (p + 1))) :
    v0 ≤ v ∧ v ≤ 3 ^ n ∧ rf_at n p (d p + 1) v d ∧ rf_mu n p (d p + 1) v d < rf_mu n (p + 1) fr v0 d := by
  have hE := rf_vE (n := n) (p := p + 1) (d := d) (by omega) hd
  have hE2 : v ≤ 3 ^ n := by rw [hv, Nat.add_mul, Nat.one_mul]; exact hE
  have e1 : rf_ds d (p + 1) = rf_ds d p + d p := rfl
  have hat : rf_at n p (d p + 1) v d := ⟨fun _ => by rw [hv]; rfl, fun h => by omega⟩
  by_cases h9 : p + 1 = n
  · have e2 := hv0.2 h9
    have e3 : v = rf_vl d (p + 1) + 1 := by rw [hv, h9, Nat.sub_self, Nat.pow_zero, Nat.mul_one]
    refine ⟨by omega, hE2, hat, ?_⟩
    unfold rf_mu
    rw [e1]
    omega
  · have e2 := hv0.1 (by omega)
    have hP : 0 < 3 ^ (n - (p + 1 + 1)) := Nat.pow_pos (by decide)
    have e3 : v = (3 * rf_vl d (p + 1) + fr) * 3 ^ (n - (p + 1 + 1)) + (3 - fr) * 3 ^ (n - (p + 1 + 1)) := by
      rw [hv, rf_pw (by omega), ← Nat.add_mul, ← Nat.mul_assoc, show 3 * rf_vl d (p + 1) + fr + (3 - fr) = (rf_vl d (p + 1) + 1) * 3 by omega]
    have e4 := Nat.mul_le_mul_left (3 - fr) hP
    refine ⟨by omega, hE2, hat, ?_⟩
    unfold rf_mu
    rw [e1]
    omega
end
section
/-! the reference's accounts against what is gathered -/
theorem rf_st_t {a : Nat × Int32 × Int32 × Int32} {v k : Int32} (h : a.2.1 < v) : rf_st a v k = (a.1 + 1, v, 0 + 1, k) := if_pos h
theorem rf_st_e {a : Nat × Int32 × Int32 × Int32} {v k : Int32} (h : ¬ a.2.1 < v) (h' : v = a.2.1) : rf_st a v k = (a.1 + 1, a.2.1, a.2.2.1 + 1, a.2.2.2) := by
  unfold rf_st
  rw [if_neg h, if_pos h']
theorem rf_st_n {a : Nat × Int32 × Int32 × Int32} {v k : Int32} (h : ¬ a.2.1 < v) (h' : ¬ v = a.2.1) : rf_st a v k = (a.1 + 1, a.2.1, a.2.2.1, a.2.2.2) := by
  unfold rf_st
  rw [if_neg h, if_neg h']
def rf_YB (ft H : Nat → Nat → Prop) (n : Nat) (sc : Nat → Int32) (v : Nat) (many best bestMany bestCode : Int32) (bm : Nat → Int32) : Prop :=
  many = nI (rf_ac (rf_ok ft H n) sc v).1 ∧ bestMany = (rf_ac (rf_ok ft H n) sc v).2.2.1 ∧
  (0 < (rf_ac (rf_ok ft H n) sc v).1 → best = (rf_ac (rf_ok ft H n) sc v).2.1 ∧ bestCode = (rf_ac (rf_ok ft H n) sc v).2.2.2 ∧
    ∃ c0, c0 < 3 ^ n ∧ rf_ok ft H n c0 ∧ (rf_ac (rf_ok ft H n) sc v).2.2.2 = nI c0 ∧ ∀ q, q < n → bm q = rf_mt (rf_dg n c0) n q)
def rf_YW (Q : Nat → Prop) (sc : Nat → Int32) (v : Nat) (wm wb : Int32) : Prop :=
  wm = nI (rf_ac Q sc v).1 ∧ (0 < (rf_ac Q sc v).1 → wb = (rf_ac Q sc v).2.1)
theorem rf_YB_s {ft H : Nat → Nat → Prop} {n : Nat} {sc : Nat → Int32} {v v' : Nat} {many best bestMany bestCode : Int32} {bm : Nat → Int32} (h : rf_YB ft H n sc v many best bestMany bestCode bm) (hv : v ≤ v') (hno : ∀ c, v ≤ c → c < v' → ¬ rf_ok ft H n c) : rf_YB ft H n sc v' many best bestMany bestCode bm := by
  unfold rf_YB at h ⊢
  rw [rf_ac_s2 hv hno]
  exact h
theorem rf_YW_s {Q : Nat → Prop} {sc : Nat → Int32} {v v' : Nat} {wm wb : Int32} (h : rf_YW Q sc v wm wb) (hv : v ≤ v') (hno : ∀ c, v ≤ c → c < v' → ¬ Q c) : rf_YW Q sc v' wm wb := by
  unfold rf_YW at h ⊢
  rw [rf_ac_s2 hv hno]
  exact h
theorem rf_YB_0 (ft H : Nat → Nat → Prop) (n : Nat) (sc : Nat → Int32) (best bestCode : Int32) (bm : Nat → Int32) : rf_YB ft H n sc 0 0 best 0 bestCode bm :=
  ⟨nI_0.symm, rfl, fun h => absurd h (Nat.lt_irrefl 0)⟩
theorem rf_YW_0 (Q : Nat → Prop) (sc : Nat → Int32) (wb : Int32) : rf_YW Q sc 0 0 wb :=
  ⟨nI_0.symm, fun h => absurd h (Nat.lt_irrefl 0)⟩
theorem rf_YB_t {ft H : Nat → Nat → Prop} {n : Nat} {sc : Nat → Int32} {v : Nat} {many best bestMany bestCode : Int32} {bm bm' : Nat → Int32} (h : rf_YB ft H n sc v many best bestMany bestCode bm) (hv : v < 3 ^ n) (hok : rf_ok ft H n v) (hl : (rf_ac (rf_ok ft H n) sc v).2.1 < sc v) (hb : ∀ q, q < n → bm' q = rf_mt (rf_dg n v) n q) : rf_YB ft H n sc (v + 1) (many + 1) (sc v) (0 + 1) (nI v) bm' := by
  obtain ⟨h1, h2, h3⟩ := h
  unfold rf_YB
  rw [rf_ac_t hok, rf_st_t hl]
  exact ⟨by rw [h1, nI_1], rfl, fun _ => ⟨rfl, rfl, v, hv, hok, rfl, hb⟩⟩
theorem rf_YB_e {ft H : Nat → Nat → Prop} {n : Nat} {sc : Nat → Int32} {v : Nat} {many best bestMany bestCode : Int32} {bm : Nat → Int32} (h : rf_YB ft H n sc v many best bestMany bestCode bm) (hok : rf_ok ft H n v) (hp : 0 < (rf_ac (rf_ok ft H n) sc v).1) (hl : ¬ best < sc v) (he : sc v = best) : rf_YB ft H n sc (v + 1) (many + 1) best (bestMany + 1) bestCode bm := by
  obtain ⟨h1, h2, h3⟩ := h
  obtain ⟨h4, h5, h6⟩ := h3 hp
  rw [h4] at hl he
  unfold rf_YB
  rw [rf_ac_t hok, rf_st_e hl he]
  exact ⟨by rw [h1, nI_1], by rw [h2], fun _ => ⟨h4, h5, h6⟩⟩
theorem rf_YB_n {ft H : Nat → Nat → Prop} {n : Nat} {sc : Nat → Int32} {v : Nat} {many best bestMany bestCode : Int32} {bm : Nat → Int32} (h : rf_YB ft H n sc v many best bestMany bestCode bm) (hok : rf_ok ft H n v) (hp : 0 < (rf_ac (rf_ok ft H n) sc v).1) (hl : ¬ best < sc v) (he : ¬ sc v = best) : rf_YB ft H n sc (v + 1) (many + 1) best bestMany bestCode bm := by
  obtain ⟨h1, h2, h3⟩ := h
  obtain ⟨h4, h5, h6⟩ := h3 hp
  rw [h4] at hl he
  unfold rf_YB
  rw [rf_ac_t hok, rf_st_n hl he]
  exact ⟨by rw [h1, nI_1], h2, fun _ => ⟨h4, h5, h6⟩⟩
theorem rf_YW_t {Q : Nat → Prop} {sc : Nat → Int32} {v : Nat} {wm wb : Int32} (h : rf_YW Q sc v wm wb) (hq : Q v) (hl : (rf_ac Q sc v).2.1 < sc v) : rf_YW Q sc (v + 1) (wm + 1) (sc v) := by
  obtain ⟨h1, h2⟩ := h
  unfold rf_YW
  rw [rf_ac_t hq, rf_st_t hl]
  exact ⟨by rw [h1, nI_1], fun _ => rfl⟩
theorem rf_YW_n {Q : Nat → Prop} {sc : Nat → Int32} {v : Nat} {wm wb : Int32} (h : rf_YW Q sc v wm wb) (hq : Q v) (hp : 0 < (rf_ac Q sc v).1) (hl : ¬ wb < sc v) : rf_YW Q sc (v + 1) (wm + 1) wb := by
  obtain ⟨h1, h2⟩ := h
  have h4 := h2 hp
  rw [h4] at hl
  unfold rf_YW
  by_cases he : sc v = (rf_ac Q sc v).2.1
  · rw [rf_ac_t hq, rf_st_e hl he]
    exact ⟨by rw [h1, nI_1], fun _ => h4⟩
  · rw [rf_ac_t hq, rf_st_n hl he]
    exact ⟨by rw [h1, nI_1], fun _ => h4⟩
theorem rf_ac_m {Q : Nat → Prop} {sc : Nat → Int32} {v : Nat} (h : (rf_ac Q sc v).1 = 0) : (rf_ac Q sc v).2.1 = -1000 ∧ (rf_ac Q sc v).2.2.1 = 0 ∧ (rf_ac Q sc v).2.2.2 = -1 := by
  rw [rf_ac_0 Q sc v h]
  exact ⟨rfl, rfl, rfl⟩
end
section
/-! the component: kinds, fitting, powers, digits -/
theorem rf_ne1 {a : Nat} (h : a < 2 ^ 31) : ¬ nI a = -1 := by
  intro e
  have e2 := congrArg Int32.toInt e
  rw [nI_toInt h, show (-1 : Int32).toInt = -1 from by decide] at e2
  omega
theorem rf_gapc {g i j : Nat} (hg : g < 2 ^ 30) (hi : i < 2 ^ 30) (hj : j < 2 ^ 30) : (nI j - nI i ≤ nI g) ↔ ¬ (g + i < j) := by
  rw [Int32.le_iff_toInt_le, pk_sub_toInt hj hi, nI_toInt (by omega)]
  omega
def rf_kI (k : Nat) : Int32 := if k = 3 then -1 else nI k
theorem rf_kI3 {k : Nat} (h : k = 3) : rf_kI k = -1 := if_pos h
theorem rf_kIn {k : Nat} (h : k ≠ 3) : rf_kI k = nI k := if_neg h
theorem rx_k {post : Int32 → Prop} {x y : Nat} (hx : x < 4) (hy : y < 4) (hp : post (rf_kI (rf_kd x y))) : wpX_kindOf post (nI x) (nI y) := by
  have hx' : x = 0 ∨ x = 1 ∨ x = 2 ∨ x = 3 := by omega
  have hy' : y = 0 ∨ y = 1 ∨ y = 2 ∨ y = 3 := by omega
  rcases hx' with rfl | rfl | rfl | rfl <;> rcases hy' with rfl | rfl | rfl | rfl <;>
    simpa [wpX_kindOf, wX_kindOf_10, wX_kindOf_21, wX_kindOf_33, wX_kindOf_45, rf_kI, rf_kd, nI] using hp
section
variable {g n : Nat} {F B M C : Int32} {A hl nu dig par opn : Nat → Int32}
def rf_Ba (A : Nat → Int32) : Prop := ∀ q, ∃ x, x < 4 ∧ A q = nI x
theorem rx_c {post : Int32 → Prop} {i j : Nat} (hA : rf_Ba A) (hg : g ≤ 4) (hi : i < 11) (hj : j < 11) (h1 : rf_ft A g i j → post 1) (h0 : ¬ rf_ft A g i j → post 0) : wpX_canPair post (nI g, nI n, F, B, M, C, A, hl, nu, dig, par, opn) (nI i) (nI j) := by
  have hc := rf_gapc (g := g) (i := i) (j := j) (by omega) (by omega) (by omega)
  by_cases hgap : g + i < j
  · refine br_f (fun z => hc.mp z hgap) ⟨vp_in_nI hi (by omega), vp_in_nI hj (by omega), ?_⟩
    obtain ⟨x, hx, ex⟩ := hA i
    obtain ⟨y, hy, ey⟩ := hA j
    have e1 : (A i).toNatClampNeg = x := by rw [ex]; exact nI_clamp (by omega)
    have e2 : (A j).toNatClampNeg = y := by rw [ey]; exact nI_clamp (by omega)
    rw [nI_clamp (n := i) (by omega), nI_clamp (n := j) (by omega), ex, ey]
    refine rx_k hx hy ?_
    by_cases hk : rf_kd x y = 3
    · refine br_t (rf_kI3 hk) (h0 (fun z => z.2 ?_))
      rw [e1, e2]; exact hk
    · have h9 := rf_kd3 x y
      refine br_f (by rw [rf_kIn hk]; exact rf_ne1 (by omega)) (h1 ⟨hgap, ?_⟩)
      rw [e1, e2]; exact hk
  · exact br_t (hc.mpr hgap) (h0 (fun z => hgap z.1))
theorem rx_tl {post : Int32 → Prop} {k : Nat} (hk : k ≤ 11) (hp : post (nI (3 ^ k))) : ∀ t i, i + t = k → wX_threeToThe_4 post (nI k) (t + 1) (nI (3 ^ i)) (nI i) := by
  intro t
  induction t with
  | zero =>
    intro i hi
    have e : i = k := by omega
    rw [e]
    exact br_t (nI_le (Nat.le_refl _) (by omega)) hp
  | succ t ih =>
    intro i hi
    refine br_f (nI_ge (by omega) (by omega)) (nm_r (e' := nI (3 ^ (i + 1))) ?_ (nm_r (nI_1 i) (ih (i + 1) (by omega))))
    show nI (3 ^ i) * nI 3 = nI (3 ^ (i + 1))
    rw [pk_mul, ← Nat.pow_succ]
theorem rx_t {post : Int32 → Prop} {k : Nat} (hk : k ≤ 11) (hp : post (nI (3 ^ k))) : wpX_threeToThe post (nI k) :=
  ⟨k + 1, rx_tl hk hp k 0 (by omega)⟩
theorem rf_p31 {k : Nat} (h : k ≤ 11) : 3 ^ k ≤ 177147 := Nat.pow_le_pow_right (n := 3) (by decide) h
theorem rx_dl {post : SX → Prop} {c : Nat} (hn : n ≤ 11) (hc : c < 3 ^ n) (hp : ∀ dig', (∀ q, q < n → dig' q = nI (rf_dg n c q)) → post (nI g, nI n, F, B, M, C, A, hl, nu, dig', par, opn)) : ∀ k, k ≤ n → ∀ dig, (∀ q, k ≤ q → q < n → dig q = nI (rf_dg n c q)) → wX_readDigits_9 post (nI g) (nI n) F B M C (k + 1) (nI (c / 3 ^ (n - k))) (nI k - 1) A hl nu dig par opn := by
  have h31 := rf_p31 hn
  intro k
  induction k with
  | zero =>
    intro _ dig hd
    exact br_t (by decide) (hp dig (fun q hq => hd q (by omega) hq))
  | succ k ih =>
    intro hk dig hd
    rw [nI_pred]
    have hv : c / 3 ^ (n - (k + 1)) < 2 ^ 31 := Nat.lt_of_le_of_lt (Nat.div_le_self _ _) (by omega)
    refine br_f (nI_pos (by omega)) ⟨by decide, vp_in_nI (by omega) (by omega), nm_e ⟨by decide, nm_r (e' := nI (c / 3 ^ (n - k))) ?_ (nm_r (Int32.sub_eq_add_neg _ _).symm (ih (by omega) _ (fun q h1 h2 => ?_)))⟩⟩
    · show nI (c / 3 ^ (n - (k + 1))) / nI 3 = _
      rw [pk_div hv (by decide) (by decide), Nat.div_div_eq_div_mul, ← Nat.pow_succ, show (n - (k + 1)).succ = n - k by omega]
    · rw [nI_clamp (n := k) (by omega)]
      by_cases hq : q = k
      · rw [hq, pk_us]
        show nI (c / 3 ^ (n - (k + 1))) - nI (c / 3 ^ (n - (k + 1))) / nI 3 * nI 3 = _
        rw [pk_rem hv (by decide) (by decide)]
        unfold rf_dg
        rw [show n - 1 - k = n - (k + 1) by omega]
      · rw [pk_un hq]
        exact hd q (by omega) h2
theorem rx_d {post : SX → Prop} {c : Nat} (hn : n ≤ 11) (hc : c < 3 ^ n) (hp : ∀ dig', (∀ q, q < n → dig' q = nI (rf_dg n c q)) → post (nI g, nI n, F, B, M, C, A, hl, nu, dig', par, opn)) : wpX_readDigits post (nI g, nI n, F, B, M, C, A, hl, nu, dig, par, opn) (nI c) := by
  have h9 := rx_dl (g := g) (F := F) (B := B) (M := M) (C := C) (A := A) (hl := hl) (nu := nu) (par := par) (opn := opn) hn hc hp n (Nat.le_refl _) dig (fun q h1 h2 => by omega)
  rw [Nat.sub_self, Nat.pow_zero, Nat.div_one] at h9
  exact nm_e ⟨n + 1, h9⟩
end
end
section
/-! the component reads a fold -/
section
variable {g n : Nat} {F B M C : Int32} {A hl nu dig par opn : Nat → Int32}
theorem rx_f129 {post : Int32 → SX → Prop} {J10 : Int32 → Int32 → (Nat → Int32) → (Nat → Int32) → (Nat → Int32) → (Nat → Int32) → (Nat → Int32) → (Nat → Int32) → Prop} {hz : Int32} {p L : Nat} (hp : p < n) (hn : n ≤ 11) (hL : L ≤ 20) (hy : L ≤ n - 1 - p → J10 (nI L) (nI (p + 1)) A hl nu dig par opn) (hno : ¬ L ≤ n - 1 - p → post (nI p) (nI g, nI n, F, B, M, C, A, hl, nu, dig, par, opn)) : wX_readFold_129 post J10 hz (nI L) (nI p) (nI g) (nI n) F B M C A hl nu dig par opn := by
  have e : nI n - 1 - nI p = nI (n - 1 - p) := by
    show nI n - nI 1 - nI p = _
    rw [pk_sub (by omega), pk_sub (by omega)]
  have hc : nI L ≤ nI n - 1 - nI p ↔ L ≤ n - 1 - p := by rw [e]; exact nI_leI (by omega) (by omega)
  by_cases h9 : L ≤ n - 1 - p
  · exact br_t (hc.mpr h9) (nm_r (nI_1 p) (hy h9))
  · exact br_f (fun z => h9 (hc.mp z)) (hno h9)
theorem rx_f35 {post : Int32 → SX → Prop} {J10 : Int32 → Int32 → (Nat → Int32) → (Nat → Int32) → (Nat → Int32) → (Nat → Int32) → (Nat → Int32) → (Nat → Int32) → Prop} {hz : Int32} {H : Nat → Nat → Prop} {p : Nat} {d : Nat → Nat}
    (hA : rf_Ba A) (hg : g ≤ 4) (hp : p < n) (hn : n ≤ 11) (hd : ∀ q, q < n → dig q = nI (d q)) (hd3 : ∀ q, d q < 3) (hS : rf_Sx (rf_ft A g) H n d p) (hH : H p (d p)) (hly : rf_ly opn (rf_sk d p)) (hpar : ∀ q, q < p → par q = rf_mt d p q)
    (kY : ∀ par opn, rf_Sx (rf_ft A g) H n d (p + 1) → rf_ly opn (rf_sk d (p + 1)) → (∀ q, q < p + 1 → par q = rf_mt d (p + 1) q) → J10 (nI (rf_sk d (p + 1)).length) (nI (p + 1)) A hl nu dig par opn)
    (kN : ∀ par opn, ¬ rf_Sx (rf_ft A g) H n d (p + 1) → post (nI p) (nI g, nI n, F, B, M, C, A, hl, nu, dig, par, opn)) :
    wX_readFold_35 post J10 hz (nI (rf_sk d p).length) (nI p) (nI g) (nI n) F B M C A hl nu dig par opn := by
  have ec : (nI p).toNatClampNeg = p := nI_clamp (by omega)
  have vp : vp_in (nI p) 11 := vp_in_nI (by omega) (by omega)
  have hlen := rf_lenp d p
  have ed : dig (nI p).toNatClampNeg = nI (d p) := by rw [ec]; exact hd p hp
  have h3 := hd3 p
  have kS : rf_vd (rf_ft A g) d p → (rf_sk d (p + 1)).length ≤ n - 1 - p → rf_Sx (rf_ft A g) H n d (p + 1) := by
    intro v1 v2 q hq
    by_cases hqp : q = p
    · rw [hqp]; exact ⟨hH, v1, v2⟩
    · exact hS q (by omega)
  have kL : ¬ (rf_sk d (p + 1)).length ≤ n - 1 - p → ¬ rf_Sx (rf_ft A g) H n d (p + 1) := fun z y => z (y p (by omega)).2.2
  refine ⟨vp, fun par1 e1 => ⟨vp, ?_⟩⟩
  rw [ec] at e1
  by_cases c1 : d p = 1
  · refine br_t (by rw [ed, c1]; rfl) ⟨vp_in_nI (by omega) (by omega), fun opn1 e2 => nm_r (nI_1 _) ⟨vp, br_f (by rw [ed, c1]; decide) ?_⟩⟩
    rw [nI_clamp (by omega)] at e2
    have es := rf_sk1 c1
    have el : (rf_sk d p).length + 1 = (rf_sk d (p + 1)).length := by rw [es]; rfl
    rw [el]
    refine rx_f129 hp hn (by omega) (fun z => kY _ _ (kS (fun z => absurd (c1.symm.trans z) (by decide)) z) ?_ ?_) (fun z => kN _ _ (kL z))
    · rw [es, e2]; exact rf_ly_p hly
    · intro q hq
      rw [e1, rf_mt0 (by omega)]
      by_cases hqp : q = p
      · rw [hqp, pk_us, pk_us]
      · rw [pk_un hqp, pk_un hqp]; exact hpar q (by omega)
  · refine br_f (by rw [ed]; intro z; exact c1 ((nI_eq (b := 1) (by omega) (by omega)).mp z)) ⟨vp, ?_⟩
    by_cases c2 : d p = 2
    · refine br_t (by rw [ed, c2]; rfl) ?_
      cases hs : rf_sk d p with
      | nil =>
        refine br_t rfl (kN _ _ (fun y => ?_))
        obtain ⟨i, st, e3, _⟩ := (y p (by omega)).2.1 c2
        rw [hs] at e3
        exact absurd e3 (by simp)
      | cons i st =>
        have hi := (rf_A d p i st (by rw [hs]; exact List.suffix_refl _)).1
        rw [hs] at hly hlen
        have hl1 : st.length + 1 ≤ p := hlen
        have ep : nI (i :: st).length - 1 = nI st.length := nI_pred st.length
        have ecs : (nI st.length).toNatClampNeg = st.length := nI_clamp (by omega)
        have eo : opn (nI (i :: st).length - 1).toNatClampNeg = nI i := by rw [ep, ecs]; exact hly.1
        have eo2 : opn (nI st.length).toNatClampNeg = nI i := by rw [ecs]; exact hly.1
        refine br_f (nI_ne0 (by show 0 < st.length + 1; omega) (by show st.length + 1 < 2 ^ 31; omega)) ⟨by rw [ep]; exact vp_in_nI (by omega) (by omega), ?_⟩
        rw [eo]
        refine rx_c hA hg (by omega) (by omega) (fun hf => ?_) (fun hf => br_t rfl (kN _ _ (fun y => ?_)))
        · refine br_f (by decide) (nm_r (e' := nI st.length) (pk_m1 st.length) ⟨vp_in_nI (by omega) (by omega), vp, fun par2 e2 => ⟨vp_in_nI (by omega) (by omega), by rw [eo2]; exact vp_in_nI (by omega) (by omega), fun par3 e3 => ?_⟩⟩)
          rw [eo2, ec] at e2
          rw [eo2, nI_clamp (by omega)] at e3
          have es : rf_sk d (p + 1) = st := by rw [rf_sk2 c2, hs]; rfl
          rw [← es]
          refine rx_f129 hp hn (by rw [es]; omega) (fun z => kY _ _ (kS (fun _ => ⟨i, st, hs, hf⟩) z) ?_ ?_) (fun z => kN _ _ (kL z))
          · rw [es]; exact hly.2
          · intro q hq
            rw [e3, e2, e1, rf_mt2 c2 hs]
            by_cases hqi : q = i
            · rw [hqi, pk_us, pk_un (by omega), pk_us]
            · rw [pk_un hqi]
              by_cases hqp : q = p
              · rw [hqp, pk_us, pk_us]
              · rw [pk_un hqp, pk_un hqp, pk_un hqp, pk_un hqi]; exact hpar q (by omega)
        · obtain ⟨i', st', e3, hf'⟩ := (y p (by omega)).2.1 c2
          rw [hs] at e3
          injection e3 with e4 _
          rw [← e4] at hf'
          exact hf hf'
    · refine br_f (by rw [ed]; intro z; exact c2 ((nI_eq (b := 2) (by omega) (by omega)).mp z)) ?_
      have es := rf_sk0 c1 c2
      rw [← es]
      refine rx_f129 hp hn (by rw [es]; omega) (fun z => kY _ _ (kS (fun z => absurd z c2) z) ?_ ?_) (fun z => kN _ _ (kL z))
      · rw [es]; exact hly
      · intro q hq
        rw [e1, rf_mt0 c2]
        by_cases hqp : q = p
        · rw [hqp, pk_us, pk_us]
        · rw [pk_un hqp, pk_un hqp]; exact hpar q (by omega)
theorem rx_fl {post : Int32 → SX → Prop} {hz : Int32} {H : Nat → Nat → Prop} {d : Nat → Nat}
    (hA : rf_Ba A) (hg : g ≤ 4) (hn : n ≤ 11) (hd : ∀ q, q < n → dig q = nI (d q)) (hd3 : ∀ q, d q < 3) (hH : (hz = 0 ∧ ∀ q x, H q x) ∨ (¬ hz = 0 ∧ H = rf_H hl))
    (kY : ∀ par opn, rf_Sx (rf_ft A g) H n d n → (∀ q, q < n → par q = rf_mt d n q) → post (nI n) (nI g, nI n, F, B, M, C, A, hl, nu, dig, par, opn))
    (kN : ∀ s par opn, s < n → rf_Sx (rf_ft A g) H n d s → ¬ rf_Sx (rf_ft A g) H n d (s + 1) → post (nI s) (nI g, nI n, F, B, M, C, A, hl, nu, dig, par, opn)) :
    ∀ t p par opn, p + t = n → rf_Sx (rf_ft A g) H n d p → rf_ly opn (rf_sk d p) → (∀ q, q < p → par q = rf_mt d p q) → wX_readFold_10 post hz (nI g) (nI n) F B M C (t + 1) (nI (rf_sk d p).length) (nI p) A hl nu dig par opn := by
  intro t
  induction t with
  | zero =>
    intro p par opn hp hS hly hpar
    have e : p = n := by omega
    subst e
    exact br_t (nI_le (Nat.le_refl _) (by omega)) (kY _ _ hS hpar)
  | succ t ih =>
    intro p par opn hp hS hly hpar
    have hpn : p < n := by omega
    have ec : (nI p).toNatClampNeg = p := nI_clamp (by omega)
    have vp : vp_in (nI p) 11 := vp_in_nI (by omega) (by omega)
    have ed : dig (nI p).toNatClampNeg = nI (d p) := by rw [ec]; exact hd p hpn
    have W35 : H p (d p) → wX_readFold_35 post (wX_readFold_10 post hz (nI g) (nI n) F B M C (t + 1)) hz (nI (rf_sk d p).length) (nI p) (nI g) (nI n) F B M C A hl nu dig par opn :=
      fun hHp => rx_f35 hA hg hpn hn hd hd3 hS hHp hly hpar (fun par opn a b c => ih (p + 1) par opn (by omega) a b c) (fun par opn a => kN p par opn hpn hS a)
    refine br_f (nI_ge (by omega) (by omega)) ?_
    rcases hH with ⟨e, hall⟩ | ⟨e, e2⟩
    · exact br_t e (W35 (hall _ _))
    · subst e2
      refine br_f e ⟨vp, ?_⟩
      by_cases z1 : hl p = 0
      · exact br_t (by rw [ec]; exact z1) (br_f (by decide) (W35 (Or.inl z1)))
      · refine br_f (by rw [ec]; exact z1) ⟨vp, vp, ?_⟩
        rw [ed, nI_1, ec]
        by_cases z2 : hl p = nI (d p + 1)
        · exact br_t z2 (br_f (by decide) (W35 (Or.inr z2)))
        · refine br_f z2 (br_t rfl (kN p par opn hpn hS (fun y => ?_)))
          rcases (y p (by omega)).1 with z | z
          · exact z1 z
          · exact z2 z
theorem rx_f {post : Int32 → SX → Prop} {hz : Int32} {H : Nat → Nat → Prop} {c : Nat}
    (hA : rf_Ba A) (hg : g ≤ 4) (hn : n ≤ 11) (hc : c < 3 ^ n) (hH : (hz = 0 ∧ ∀ q x, H q x) ∨ (¬ hz = 0 ∧ H = rf_H hl))
    (kY : ∀ dig par opn, (∀ q, q < n → dig q = nI (rf_dg n c q)) → rf_ok (rf_ft A g) H n c → (∀ q, q < n → par q = rf_mt (rf_dg n c) n q) → post (nI n) (nI g, nI n, F, B, M, C, A, hl, nu, dig, par, opn))
    (kN : ∀ s dig par opn, rf_fs (rf_ft A g) H n c s → post (nI s) (nI g, nI n, F, B, M, C, A, hl, nu, dig, par, opn)) :
    wpX_readFold post (nI g, nI n, F, B, M, C, A, hl, nu, dig, par, opn) (nI c) hz := by
  unfold wpX_readFold
  refine rx_d hn hc (fun dig' hd => ⟨n + 1, ?_⟩)
  exact rx_fl (d := rf_dg n c) hA hg hn hd (rf_dg3 n c) hH (fun par opn a b => kY dig' par opn hd (rf_xy.mp a) b) (fun s par opn a b c => kN s dig' par opn ⟨a, b, c⟩) n 0 par opn (by omega) (fun q hq => by omega) trivial (fun q hq => by omega)
end
end
section
/-! the component's score -/
section
variable {g n : Nat} {F B M C : Int32} {A hl nu dig par opn : Nat → Int32}
theorem rx_pl {post : Int32 → Prop} {ft : Nat → Nat → Prop} {d : Nat → Nat} {i j : Nat} {s : Int32} (Fo : rf_Fo ft d n) (hn : n ≤ 11) (hj : j < n) (hp : rf_pr d i j) (hdi : d i = 1) (hd : ∀ q, q < n → dig q = nI (d q)) (hd3 : ∀ q, d q < 3) (hpar : ∀ q, q < n → par q = rf_mt d n q)
    (hpost : ∀ v, v = (if rf_wn d i j = 0 then s else if 1 < rf_wn d i j then s - nu 5 else if rf_mt d n (i + 1) = nI (j - 1) then s + nu 3 else s - nu 4) → post v) :
    ∀ t k w last, k + t = j → i < k → w + rf_cn (rf_Pk d i) k (j - k) = rf_wn d i j → (0 < w → ∃ q, last = nI q ∧ i < q ∧ q < k ∧ rf_Pk d i q = true) → w ≤ k →
      wX_pairScore_35 post (nI i) (nI j) s (nI g) (nI n) F B M C A hl nu dig par opn (t + 1) (nI w) last (nI ((rf_sk d k).length - ((rf_sk d i).length + 1))) (nI k) := by
  have hij := hp.1
  have ej : nI j - 1 = nI (j - 1) := by
    show nI j - nI 1 = _
    rw [pk_sub (by omega)]
  intro t
  induction t with
  | zero =>
    intro k w last hk hik hw hlast hwk
    have e : k = j := by omega
    subst e
    rw [Nat.sub_self] at hw
    have hw2 : w = rf_wn d i k := hw
    refine br_t (nI_le (Nat.le_refl _) (by omega)) ?_
    by_cases w0 : w = 0
    · exact br_t (by rw [w0]; rfl) (hpost _ (by rw [if_pos (by omega)]))
    · refine br_f (nI_ne0 (by omega) (by omega)) ?_
      by_cases w1 : w ≤ 1
      · refine br_t (nI_le (b := 1) w1 (by decide)) ?_
        obtain ⟨q, eq, q1, q2, q3⟩ := hlast (by omega)
        have hwn : rf_wn d i k = 1 := by omega
        have p4 : rf_mt d n (i + 1) ≠ nI (k - 1) → s - nu 4 = (if rf_wn d i k = 0 then s else if 1 < rf_wn d i k then s - nu 5 else if rf_mt d n (i + 1) = nI (k - 1) then s + nu 3 else s - nu 4) := by
          intro z
          rw [if_neg (by omega), if_neg (by omega), if_neg z]
        rw [eq, nI_1]
        by_cases hq : q = i + 1
        · rw [hq, ej]
          have e1 : par (nI (i + 1)).toNatClampNeg = rf_mt d n (i + 1) := by rw [nI_clamp (by omega)]; exact hpar _ (by omega)
          refine br_t rfl ⟨vp_in_nI (by omega) (by omega), ?_⟩
          rw [e1]
          by_cases hm : rf_mt d n (i + 1) = nI (k - 1)
          · exact br_t hm (br_f (by decide) (hpost _ (by rw [if_neg (by omega), if_neg (by omega), if_pos hm])))
          · exact br_f hm (br_t rfl (hpost _ (p4 hm)))
        · refine br_f (fun z => hq ((nI_eq (by omega) (by omega)).mp z)) (br_t rfl (hpost _ (p4 (fun z => hq ?_))))
          exact rf_stk Fo hj (by omega) hwn q1 q2 q3 hdi hp z
      · exact br_f (nI_ge (a := 1) (by omega) (by omega)) (hpost _ (by rw [if_neg (by omega), if_pos (by omega)]))
  | succ t ih =>
    intro k w last hk hik hw hlast hwk
    have hkj : k < j := by omega
    have ec : (nI k).toNatClampNeg = k := nI_clamp (by omega)
    have vp : vp_in (nI k) 11 := vp_in_nI (by omega) (by omega)
    have ed : dig (nI k).toNatClampNeg = nI (d k) := by rw [ec]; exact hd k (by omega)
    have h3 := hd3 k
    have hL := hp.2.2 k hik (by omega)
    have hL' := hp.2.2 (k + 1) (by omega) (by omega)
    have hlen := rf_lenp d k
    have ejk : j - k = (j - (k + 1)) + 1 := by omega
    refine br_f (nI_ge (by omega) (by omega)) ⟨vp, ?_⟩
    by_cases c1 : d k = 1
    · have eL := rf_L1 c1
      refine br_t (by rw [ed, c1]; rfl) ?_
      by_cases c0 : (rf_sk d k).length = (rf_sk d i).length + 1
      · have hP : rf_Pk d i k = true := rf_Pk_t c1 c0
        refine br_t (by rw [c0, Nat.sub_self]; rfl) (nm_r (nI_1 w) (nm_r (e' := nI ((rf_sk d (k + 1)).length - ((rf_sk d i).length + 1))) ?_ ⟨vp, br_f (by rw [ed, c1]; decide) (nm_r (nI_1 k) (ih (k + 1) (w + 1) (nI k) (by omega) (by omega) ?_ (fun _ => ⟨k, rfl, hik, by omega, hP⟩) (by omega)))⟩))
        · rw [nI_1]; exact congrArg nI (by omega)
        · rw [ejk, rf_cn_t hP] at hw; omega
      · have hP : rf_Pk d i k = false := rf_Pk_f (Or.inr c0)
        refine br_f (nI_ne0 (by omega) (by omega)) (nm_r (e' := nI ((rf_sk d (k + 1)).length - ((rf_sk d i).length + 1))) ?_ ⟨vp, br_f (by rw [ed, c1]; decide) (nm_r (nI_1 k) (ih (k + 1) w last (by omega) (by omega) ?_ (fun z => ?_) (by omega)))⟩)
        · rw [nI_1]; exact congrArg nI (by omega)
        · rw [ejk, rf_cn_f hP] at hw; exact hw
        · obtain ⟨q, a1, a2, a3, a4⟩ := hlast z
          exact ⟨q, a1, a2, by omega, a4⟩
    · have hP : rf_Pk d i k = false := rf_Pk_f (Or.inl c1)
      have hw' : w + rf_cn (rf_Pk d i) (k + 1) (j - (k + 1)) = rf_wn d i j := by rw [ejk, rf_cn_f hP] at hw; exact hw
      have hlast' : 0 < w → ∃ q, last = nI q ∧ i < q ∧ q < k + 1 ∧ rf_Pk d i q = true := fun z => by
        obtain ⟨q, a1, a2, a3, a4⟩ := hlast z
        exact ⟨q, a1, a2, by omega, a4⟩
      refine br_f (by rw [ed]; intro z; exact c1 ((nI_eq (b := 1) (by omega) (by omega)).mp z)) ⟨vp, ?_⟩
      by_cases c2 : d k = 2
      · have eL := rf_L2 c2
        refine br_t (by rw [ed, c2]; rfl) (nm_r (e' := nI ((rf_sk d (k + 1)).length - ((rf_sk d i).length + 1))) ?_ (nm_r (nI_1 k) (ih (k + 1) w last (by omega) (by omega) hw' hlast' (by omega))))
        rw [show (rf_sk d k).length - ((rf_sk d i).length + 1) = ((rf_sk d (k + 1)).length - ((rf_sk d i).length + 1)) + 1 by omega, pk_m1]
      · have eL := rf_L0 c1 c2
        refine br_f (by rw [ed]; intro z; exact c2 ((nI_eq (b := 2) (by omega) (by omega)).mp z)) (nm_r (nI_1 k) ?_)
        rw [← eL]
        exact ih (k + 1) w last (by omega) (by omega) hw' hlast' (by omega)
theorem rx_p {post : Int32 → Prop} {d : Nat → Nat} {i j : Nat} (hA : rf_Ba A) (Fo : rf_Fo (rf_ft A g) d n) (hn : n ≤ 11) (hj : j < n) (hp : rf_pr d i j) (hf : rf_ft A g i j) (hdi : d i = 1) (hd : ∀ q, q < n → dig q = nI (d q)) (hd3 : ∀ q, d q < 3) (hpar : ∀ q, q < n → par q = rf_mt d n q)
    (hpost : post (rf_pv A nu d (rf_mt d n) i j)) : wpX_pairScore post (nI g, nI n, F, B, M, C, A, hl, nu, dig, par, opn) (nI i) (nI j) := by
  have hij := hp.1
  obtain ⟨x, hx, ex⟩ := hA i
  obtain ⟨y, hy, ey⟩ := hA j
  have e1 : (A i).toNatClampNeg = x := by rw [ex]; exact nI_clamp (by omega)
  have e2 : (A j).toNatClampNeg = y := by rw [ey]; exact nI_clamp (by omega)
  have hk : rf_kd x y ≠ 3 := by
    have h9 := hf.2
    rw [e1, e2] at h9
    exact h9
  have h9 := rf_kd3 x y
  refine ⟨vp_in_nI (by omega) (by omega), vp_in_nI (by omega) (by omega), ?_⟩
  rw [nI_clamp (n := i) (by omega), nI_clamp (n := j) (by omega), ex, ey]
  refine rx_k hx hy ?_
  rw [rf_kIn hk]
  refine ⟨vp_in_nI (by omega) (by omega), nm_e (nm_r (nI_1 i) ⟨j - (i + 1) + 1, ?_⟩)⟩
  have h8 := rx_pl (g := g) (F := F) (B := B) (M := M) (C := C) (A := A) (hl := hl) (nu := nu) (opn := opn) (post := post) (s := nu (nI (rf_kd x y)).toNatClampNeg) Fo hn hj hp hdi hd hd3 hpar (fun v hv => by
    rw [nI_clamp (by omega)] at hv
    unfold rf_pv at hpost
    rw [e1, e2, ← hv] at hpost
    exact hpost) (j - (i + 1)) (i + 1) 0 (-1) (by omega) (by omega) (by rw [Nat.zero_add]; rfl) (fun z => absurd z (Nat.lt_irrefl 0)) (by omega)
  rw [rf_L1 hdi, Nat.sub_self] at h8
  exact h8
theorem rx_sl {post : Int32 → Prop} {d : Nat → Nat} (hA : rf_Ba A) (Fo : rf_Fo (rf_ft A g) d n) (hn : n ≤ 11) (hd : ∀ q, q < n → dig q = nI (d q)) (hd3 : ∀ q, d q < 3) (hpar : ∀ q, q < n → par q = rf_mt d n q)
    (hpost : post (rf_sm A nu d n n)) : ∀ t p, p + t = n → wX_foldScore_4 post (nI g) (nI n) F B M C A hl nu dig par opn (t + 1) (rf_sm A nu d n p) (nI p) := by
  intro t
  induction t with
  | zero =>
    intro p hp
    have e : p = n := by omega
    subst e
    exact br_t (nI_le (Nat.le_refl _) (by omega)) hpost
  | succ t ih =>
    intro p hp
    have hpn : p < n := by omega
    have ec : (nI p).toNatClampNeg = p := nI_clamp (by omega)
    have vp : vp_in (nI p) 11 := vp_in_nI (by omega) (by omega)
    have ed : dig (nI p).toNatClampNeg = nI (d p) := by rw [ec]; exact hd p hpn
    have h3 := hd3 p
    refine br_f (nI_ge (by omega) (by omega)) ⟨vp, ?_⟩
    by_cases c1 : d p = 1
    · obtain ⟨j, j1, j2, j3, j4, j5, j6⟩ := rf_Fo_pr Fo hpn c1
      refine br_t (by rw [ed, c1]; rfl) ⟨vp, ?_⟩
      rw [ec, hpar p hpn, j4]
      refine rx_p hA Fo hn j2 j6 j5 c1 hd hd3 hpar (nm_r (rf_sm1 c1 j4 (by omega)).symm (nm_r (nI_1 p) (ih (p + 1) (by omega))))
    · refine br_f (by rw [ed]; intro z; exact c1 ((nI_eq (b := 1) (by omega) (by omega)).mp z)) (nm_r (nI_1 p) ?_)
      rw [← rf_sm0 c1]
      exact ih (p + 1) (by omega)
theorem rx_s {post : Int32 → Prop} {d : Nat → Nat} (hA : rf_Ba A) (Fo : rf_Fo (rf_ft A g) d n) (hn : n ≤ 11) (hd : ∀ q, q < n → dig q = nI (d q)) (hd3 : ∀ q, d q < 3) (hpar : ∀ q, q < n → par q = rf_mt d n q)
    (hpost : post (rf_sm A nu d n n)) : wpX_foldScore post (nI g, nI n, F, B, M, C, A, hl, nu, dig, par, opn) :=
  ⟨n + 1, rx_sl hA Fo hn hd hd3 hpar hpost n 0 (by omega)⟩
end
end
section
/-! the component's survey of all codes -/
def rf_Q (ft H : Nat → Nat → Prop) (n : Nat) (pi pj : Int32) (c : Nat) : Prop := rf_ok ft H n c ∧ (pi = -1 ∨ (¬ pj ≤ pi ∧ rf_mt (rf_dg n c) n pi.toNatClampNeg = pj))
section
variable {g n : Nat} {F B M C : Int32} {A hl nu dig par opn : Nat → Int32}
theorem rx_h {post : Int32 → Prop} {pi pj : Int32} {c : Nat} (hn : n ≤ 11) (hq : pi = -1 ∨ ∃ i, i < n ∧ pi = nI i) (hpar : ∀ q, q < n → par q = rf_mt (rf_dg n c) n q)
    (h1 : (pi = -1 ∨ (¬ pj ≤ pi ∧ rf_mt (rf_dg n c) n pi.toNatClampNeg = pj)) → post 1) (h0 : ¬ (pi = -1 ∨ (¬ pj ≤ pi ∧ rf_mt (rf_dg n c) n pi.toNatClampNeg = pj)) → post 0) :
    wpX_hasPair post (nI g, nI n, F, B, M, C, A, hl, nu, dig, par, opn) pi pj := by
  by_cases c1 : pi = -1
  · exact br_t c1 (h1 (Or.inl c1))
  · refine br_f c1 ?_
    obtain ⟨i, hi, e⟩ : ∃ i, i < n ∧ pi = nI i := hq.resolve_left c1
    by_cases c2 : pj ≤ pi
    · refine br_t c2 (h0 (fun z => ?_))
      rcases z with z | z
      · exact c1 z
      · exact z.1 c2
    · have ep : par pi.toNatClampNeg = rf_mt (rf_dg n c) n pi.toNatClampNeg := by
        rw [e, nI_clamp (by omega)]; exact hpar i hi
      refine br_f c2 ⟨by rw [e]; exact vp_in_nI (by omega) (by omega), ?_⟩
      rw [ep]
      by_cases c3 : rf_mt (rf_dg n c) n pi.toNatClampNeg = pj
      · exact br_t c3 (h1 (Or.inr ⟨c2, c3⟩))
      · refine br_f c3 (h0 (fun z => ?_))
        rcases z with z | z
        · exact c1 z
        · exact c3 z.2
theorem rx_n {post : SX → Prop} {a : Nat × Int32 × Int32 × Int32} {v k : Int32} (hp : post (nI g, nI n, nI (rf_st a v k).1, (rf_st a v k).2.1, (rf_st a v k).2.2.1, (rf_st a v k).2.2.2, A, hl, nu, dig, par, opn)) :
    wpX_count post (nI g, nI n, nI a.1, a.2.1, a.2.2.1, a.2.2.2, A, hl, nu, dig, par, opn) k v := by
  refine nm_r (nI_1 a.1) ?_
  by_cases c1 : v ≤ a.2.1
  · have c1' : ¬ a.2.1 < v := Int32.not_lt.mpr c1
    refine br_t c1 ?_
    by_cases c2 : v = a.2.1
    · rw [rf_st_e c1' c2] at hp
      exact br_t c2 (nm_e hp)
    · rw [rf_st_n c1' c2] at hp
      exact br_f c2 hp
  · have c1' : a.2.1 < v := Int32.not_le.mp c1
    rw [rf_st_t c1'] at hp
    exact br_f c1 (br_t rfl (nm_e hp))
theorem rx_vl {post : SX → Prop} {pi pj : Int32} (hA : rf_Ba A) (hg : g ≤ 4) (hn : n ≤ 11) (hq : pi = -1 ∨ ∃ i, i < n ∧ pi = nI i)
    (hp : ∀ dig par opn, post (nI g, nI n, nI (rf_ac (rf_Q (rf_ft A g) (rf_H hl) n pi pj) (rf_sc A nu n) (3 ^ n)).1, (rf_ac (rf_Q (rf_ft A g) (rf_H hl) n pi pj) (rf_sc A nu n) (3 ^ n)).2.1, (rf_ac (rf_Q (rf_ft A g) (rf_H hl) n pi pj) (rf_sc A nu n) (3 ^ n)).2.2.1, (rf_ac (rf_Q (rf_ft A g) (rf_H hl) n pi pj) (rf_sc A nu n) (3 ^ n)).2.2.2, A, hl, nu, dig, par, opn)) :
    ∀ t c nx dig par opn, c + t = 3 ^ n → nx ≤ 400000 → (nx ≤ c → rf_BB (rf_ft A g) (rf_H hl) n c) → (c < nx → rf_BB (rf_ft A g) (rf_H hl) n nx ∧ ∀ c', c ≤ c' → c' < nx → ¬ rf_ok (rf_ft A g) (rf_H hl) n c') →
      wX_survey_36 post pi pj (nI (3 ^ n)) (t + 1) (nI nx) (nI c) (nI g) (nI n) (nI (rf_ac (rf_Q (rf_ft A g) (rf_H hl) n pi pj) (rf_sc A nu n) c).1) (rf_ac (rf_Q (rf_ft A g) (rf_H hl) n pi pj) (rf_sc A nu n) c).2.1 (rf_ac (rf_Q (rf_ft A g) (rf_H hl) n pi pj) (rf_sc A nu n) c).2.2.1 (rf_ac (rf_Q (rf_ft A g) (rf_H hl) n pi pj) (rf_sc A nu n) c).2.2.2 A hl nu dig par opn := by
  have h31 := rf_p31 hn
  intro t
  induction t with
  | zero =>
    intro c nx dig par opn hc hnx hB hN
    have e : c = 3 ^ n := by omega
    rw [e]
    exact br_t (nI_le (Nat.le_refl _) (by omega)) (hp dig par opn)
  | succ t ih =>
    intro c nx dig par opn hc hnx hB hN
    refine br_f (nI_ge (by omega) (by omega)) ?_
    by_cases c1 : nx ≤ c
    · refine br_t (nI_le c1 (by omega)) ?_
      refine rx_f (H := rf_H hl) hA hg hn (by omega) (Or.inr ⟨by decide, rfl⟩) (fun dig par opn hd hok hpar => ?_) (fun s dig par opn hfs => ?_)
      · refine br_t (nI_le (Nat.le_refl _) (by omega)) ?_
        have hB1 : rf_BB (rf_ft A g) (rf_H hl) n (c + 1) := rf_BB_s hok
        refine rx_h hn hq hpar (fun z => ?_) (fun z => ?_)
        · refine br_f (by decide) ?_
          refine rx_s hA (rf_Fo_of hok.1 hok.2) hn hd (rf_dg3 n c) hpar ?_
          refine rx_n (nm_r (nI_1 c) ?_)
          have hac := rf_ac_t (Q := rf_Q (rf_ft A g) (rf_H hl) n pi pj) (sc := rf_sc A nu n) (c := c) ⟨hok, z⟩
          have h9 := ih (c + 1) nx dig par opn (by omega) hnx (fun _ => hB1) (fun z => by omega)
          rw [hac] at h9
          exact h9
        · refine br_t rfl (nm_r (nI_1 c) ?_)
          have hac := rf_ac_f (Q := rf_Q (rf_ft A g) (rf_H hl) n pi pj) (sc := rf_sc A nu n) (c := c) (fun y => z y.2)
          have h9 := ih (c + 1) nx dig par opn (by omega) hnx (fun _ => hB1) (fun z => by omega)
          rw [hac] at h9
          exact h9
      · have hs := hfs.1
        have es : nI n - 1 - nI s = nI (n - 1 - s) := by
          show nI n - nI 1 - nI s = _
          rw [pk_sub (by omega), pk_sub (by omega)]
        obtain ⟨b1, b2⟩ := rf_BB_n (hB c1) hfs
        have hM := rf_p31 (k := n - 1 - s) (by omega)
        have hM0 : 0 < 3 ^ (n - 1 - s) := Nat.pow_pos (by decide)
        refine br_f (nI_ge hs (by omega)) ?_
        rw [es]
        refine rx_t (by omega) (nm_r (nI_add c (3 ^ (n - 1 - s))) (nm_r (nI_1 c) ?_))
        have hac := rf_ac_f (Q := rf_Q (rf_ft A g) (rf_H hl) n pi pj) (sc := rf_sc A nu n) (c := c) (fun y => rf_fs_nok hfs y.1)
        have h9 := ih (c + 1) (c + 3 ^ (n - 1 - s)) dig par opn (by omega) (by omega) (fun z => by
          have e : c + 1 = c + 3 ^ (n - 1 - s) := by omega
          rw [e]; exact b1) (fun z => ⟨b1, fun c' h1 h2 => b2 c' (by omega) h2⟩)
        rw [hac] at h9
        exact h9
    · obtain ⟨b1, b2⟩ := hN (by omega)
      refine br_f (nI_ge (by omega) (by omega)) (nm_r (nI_1 c) ?_)
      have hac := rf_ac_f (Q := rf_Q (rf_ft A g) (rf_H hl) n pi pj) (sc := rf_sc A nu n) (c := c) (fun y => b2 c (Nat.le_refl _) (by omega) y.1)
      have h9 := ih (c + 1) nx dig par opn (by omega) hnx (fun z => by
        have e : c + 1 = nx := by omega
        rw [e]; exact b1) (fun z => ⟨b1, fun c' h1 h2 => b2 c' (by omega) h2⟩)
      rw [hac] at h9
      exact h9
theorem rx_v {post : SX → Prop} {pi pj : Int32} (hA : rf_Ba A) (hg : g ≤ 4) (hn : n ≤ 11) (hq : pi = -1 ∨ ∃ i, i < n ∧ pi = nI i)
    (hp : ∀ dig par opn, post (nI g, nI n, nI (rf_ac (rf_Q (rf_ft A g) (rf_H hl) n pi pj) (rf_sc A nu n) (3 ^ n)).1, (rf_ac (rf_Q (rf_ft A g) (rf_H hl) n pi pj) (rf_sc A nu n) (3 ^ n)).2.1, (rf_ac (rf_Q (rf_ft A g) (rf_H hl) n pi pj) (rf_sc A nu n) (3 ^ n)).2.2.1, (rf_ac (rf_Q (rf_ft A g) (rf_H hl) n pi pj) (rf_sc A nu n) (3 ^ n)).2.2.2, A, hl, nu, dig, par, opn)) :
    wpX_survey post (nI g, nI n, F, B, M, C, A, hl, nu, dig, par, opn) pi pj := by
  unfold wpX_survey
  refine rx_t hn ⟨3 ^ n + 1, ?_⟩
  exact rx_vl hA hg hn hq hp (3 ^ n) 0 0 dig par opn (by omega) (by omega) (fun _ => Or.inl rfl) (fun z => absurd z (Nat.lt_irrefl 0))
end
end
section
/-! the reference: kinds, fitting places, the score -/
section
variable {g n : Nat} {tp my be bm bc wm wb : Int32} {A hl nu sg op ma bM : Nat → Int32}
theorem ry_k {post : Int32 → Prop} {u : SY} {x y : Nat} (hx : x < 4) (hy : y < 4) (hp : post (rf_kI (rf_kd x y))) : wpY_kind post u (nI x) (nI y) := by
  have hx' : x = 0 ∨ x = 1 ∨ x = 2 ∨ x = 3 := by omega
  have hy' : y = 0 ∨ y = 1 ∨ y = 2 ∨ y = 3 := by omega
  rcases hx' with rfl | rfl | rfl | rfl <;> rcases hy' with rfl | rfl | rfl | rfl <;>
    simpa [wpY_kind, rf_kI, rf_kd, nI] using hp
theorem ry_c {post : Int32 → Prop} {i j : Nat} (hA : rf_Ba A) (hg : g ≤ 4) (hi : i < 11) (hj : j < 11) (h1 : rf_ft A g i j → post 1) (h0 : ¬ rf_ft A g i j → post 0) : wpY_suits post (nI g, nI n, tp, my, be, bm, bc, wm, wb, A, hl, nu, sg, op, ma, bM) (nI i) (nI j) := by
  have hc := rf_gapc (g := g) (i := i) (j := j) (by omega) (by omega) (by omega)
  by_cases hgap : g + i < j
  · refine br_f (fun z => hc.mp z hgap) ⟨vp_in_nI hi (by omega), vp_in_nI hj (by omega), ?_⟩
    obtain ⟨x, hx, ex⟩ := hA i
    obtain ⟨y, hy, ey⟩ := hA j
    have e1 : (A i).toNatClampNeg = x := by rw [ex]; exact nI_clamp (by omega)
    have e2 : (A j).toNatClampNeg = y := by rw [ey]; exact nI_clamp (by omega)
    rw [nI_clamp (n := i) (by omega), nI_clamp (n := j) (by omega), ex, ey]
    refine ry_k hx hy ?_
    by_cases hk : rf_kd x y = 3
    · refine br_t (by rw [rf_kI3 hk]; decide) (h0 (fun z => z.2 ?_))
      rw [e1, e2]; exact hk
    · have h9 := rf_kd3 x y
      refine br_f (by rw [rf_kIn hk]; exact nI_pos (by omega)) (h1 ⟨hgap, ?_⟩)
      rw [e1, e2]; exact hk
  · exact br_t (hc.mpr hgap) (h0 (fun z => hgap z.1))
theorem ry_wl {post : Int32 → Prop} {ft : Nat → Nat → Prop} {d : Nat → Nat} {i j : Nat} (Fo : rf_Fo ft d n) (hn : n ≤ 11) (hj : j < n) (hp : rf_pr d i j) (hm : rf_mt d n i = nI j) (hma : ∀ q, q < n → ma q = rf_mt d n q) (hpost : post (nI (rf_wn d i j))) :
    ∀ t k w, j - k ≤ t → i < k → k ≤ j → (rf_sk d k).length = (rf_sk d i).length + 1 → w + rf_cn (rf_Pk d i) k (j - k) = rf_wn d i j → wY_within_6 post (nI i) (nI g) (nI n) tp my be bm bc wm wb A hl nu sg op ma bM (t + 1) (nI w) (nI k) := by
  have hij := hp.1
  have ei : ma (nI i).toNatClampNeg = nI j := by rw [nI_clamp (by omega), hma i (by omega)]; exact hm
  have vi : vp_in (nI i) 12 := vp_in_nI (by omega) (by omega)
  have hend : ∀ t k w, k = j → w + rf_cn (rf_Pk d i) k (j - k) = rf_wn d i j → wY_within_6 post (nI i) (nI g) (nI n) tp my be bm bc wm wb A hl nu sg op ma bM (t + 1) (nI w) (nI k) := by
    intro t k w e hw
    rw [e, Nat.sub_self] at hw
    have hw2 : w = rf_wn d i j := hw
    refine ⟨vi, br_t ?_ ?_⟩
    · rw [ei, e]; exact nI_le (Nat.le_refl _) (by omega)
    · rw [hw2]; exact hpost
  intro t
  induction t with
  | zero =>
    intro k w hk hik hkj hL hw
    exact hend 0 k w (by omega) hw
  | succ t ih =>
    intro k w hk hik hkj hL hw
    by_cases e : k = j
    · exact hend (t + 1) k w e hw
    · have hkl : k < j := by omega
      have ec : (nI k).toNatClampNeg = k := nI_clamp (by omega)
      have vk : vp_in (nI k) 12 := vp_in_nI (by omega) (by omega)
      have em : ma (nI k).toNatClampNeg = rf_mt d n k := by rw [ec]; exact hma k (by omega)
      refine ⟨vi, br_f (by rw [ei]; exact nI_ge hkl (by omega)) (br_f (nI_ge (b := 12) (by omega) (by omega)) ⟨vk, ?_⟩)⟩
      rw [em]
      by_cases c1 : d k = 1
      · obtain ⟨m, m1, m2, m3, m4, m5, m6⟩ := rf_Fo_pr Fo (show k < n by omega) c1
        obtain ⟨w1, w2, w3⟩ := rf_w1 hp m6 hik hkl hL c1
        rw [m4]
        refine br_f (nI_ge m1 (by omega)) (nm_r (nI_1 w) ⟨vk, nm_e (nm_r (nI_1 m) (ih (m + 1) (w + 1) (by omega) (by omega) (by omega) w2 (by omega)))⟩)
      · obtain ⟨w1, w2⟩ := rf_w0 hp hik hkl hL c1
        refine br_t ?_ (nm_r (nI_1 k) (ih (k + 1) w (by omega) (by omega) (by omega) w1 (by omega)))
        by_cases c2 : d k = 2
        · obtain ⟨i', hi', e'⟩ := (Fo k (by omega)).2.1 c2
          rw [e']; exact nI_le (by omega) (by omega)
        · rw [(Fo k (by omega)).2.2 c1 c2]
          exact Int32.le_trans (by decide) (nI_pos' (by omega))
theorem ry_w {post : Int32 → Prop} {ft : Nat → Nat → Prop} {d : Nat → Nat} {i j : Nat} (Fo : rf_Fo ft d n) (hn : n ≤ 11) (hj : j < n) (hd : d i = 1) (hp : rf_pr d i j) (hm : rf_mt d n i = nI j) (hma : ∀ q, q < n → ma q = rf_mt d n q) (hpost : post (nI (rf_wn d i j))) :
    wpY_within post (nI g, nI n, tp, my, be, bm, bc, wm, wb, A, hl, nu, sg, op, ma, bM) (nI i) := by
  have hij := hp.1
  refine nm_r (nI_1 i) ⟨j - (i + 1) + 1, ?_⟩
  exact ry_wl Fo hn hj hp hm hma hpost (j - (i + 1)) (i + 1) 0 (Nat.le_refl _) (by omega) (by omega) (rf_L1 hd) (by rw [Nat.zero_add]; rfl)
theorem rf_asub (a b c : Int32) : a + b - c = a + (b - c) := by
  rw [Int32.sub_eq_add_neg, Int32.sub_eq_add_neg, Int32.add_assoc]
theorem rf_cn_le (P : Nat → Bool) : ∀ t k, rf_cn P k t ≤ t := by
  intro t
  induction t with
  | zero => intro k; exact Nat.le_refl _
  | succ t ih =>
    intro k
    have h9 := ih (k + 1)
    by_cases h : P k = true
    · rw [rf_cn_t h]; omega
    · rw [rf_cn_f (by simpa using h)]; omega
theorem ry_sl {post : Int32 → Prop} {d : Nat → Nat} (hA : rf_Ba A) (Fo : rf_Fo (rf_ft A g) d n) (hn : n ≤ 11) (hma : ∀ q, q < n → ma q = rf_mt d n q)
    (hpost : post (rf_sm A nu d n n)) : ∀ t p, p + t = n → wY_score_4 post (nI g) (nI n) tp my be bm bc wm wb A hl nu sg op ma bM (t + 1) (rf_sm A nu d n p) (nI p) := by
  intro t
  induction t with
  | zero =>
    intro p hp
    have e : p = n := by omega
    subst e
    exact br_t (nI_le (Nat.le_refl _) (by omega)) hpost
  | succ t ih =>
    intro p hp
    have hpn : p < n := by omega
    have ec : (nI p).toNatClampNeg = p := nI_clamp (by omega)
    have em : ma (nI p).toNatClampNeg = rf_mt d n p := by rw [ec]; exact hma p hpn
    refine br_f (nI_ge (by omega) (by omega)) (br_f (nI_ge (b := 11) (by omega) (by omega)) ⟨vp_in_nI (by omega) (by omega), nm_r em ?_⟩)
    by_cases c1 : d p = 1
    · obtain ⟨j, j1, j2, j3, j4, j5, j6⟩ := rf_Fo_pr Fo hpn c1
      obtain ⟨x, hx, ex⟩ := hA p
      obtain ⟨y, hy, ey⟩ := hA j
      have e1 : (A p).toNatClampNeg = x := by rw [ex]; exact nI_clamp (by omega)
      have e2 : (A j).toNatClampNeg = y := by rw [ey]; exact nI_clamp (by omega)
      have hk : rf_kd x y ≠ 3 := by
        have h9 := j5.2
        rw [e1, e2] at h9
        exact h9
      have h9 := rf_kd3 x y
      have hwl := rf_cn_le (rf_Pk d p) (j - (p + 1)) (p + 1)
      have hwl2 : rf_wn d p j ≤ j - (p + 1) := hwl
      have ej : nI j - 1 = nI (j - 1) := by
        show nI j - nI 1 = _
        rw [pk_sub (by omega)]
      have esm := rf_sm1 (A := A) (nu := nu) (n := n) c1 j4 (by omega)
      have hJ := ih (p + 1) (by omega)
      rw [esm] at hJ
      unfold rf_pv at hJ
      rw [e1, e2] at hJ
      rw [j4]
      refine br_f (nI_ge j1 (by omega)) ⟨vp_in_nI (by omega) (by omega), vp_in_nI (by omega) (by omega), ?_⟩
      rw [ec, nI_clamp (n := j) (by omega), ex, ey]
      refine ry_k hx hy ?_
      rw [rf_kIn hk, nI_clamp (n := rf_kd x y) (by omega)]
      refine ⟨vp_in_nI (by omega) (by omega), nm_e ?_⟩
      refine ry_w Fo hn j2 c1 j6 j4 hma ?_
      by_cases w1 : rf_wn d p j = 1
      · rw [if_neg (by omega), if_neg (by omega)] at hJ
        rw [w1]
        refine br_t rfl ⟨by rw [nI_1]; exact vp_in_nI (by omega) (by omega), ?_⟩
        rw [nI_1, nI_clamp (n := p + 1) (by omega), hma (p + 1) (by omega), ej]
        by_cases hm : rf_mt d n (p + 1) = nI (j - 1)
        · rw [if_pos hm, ← Int32.add_assoc] at hJ
          exact br_t hm (nm_e (br_t (by decide) (nm_r (nI_1 p) hJ)))
        · rw [if_neg hm, ← rf_asub, Int32.sub_eq_add_neg] at hJ
          exact br_f hm (nm_e (br_t (by decide) (nm_r (nI_1 p) hJ)))
      · refine br_f (fun z => w1 ((nI_eq (b := 1) (by omega) (by omega)).mp z)) ?_
        by_cases w0 : rf_wn d p j = 0
        · rw [if_pos w0] at hJ
          exact br_t (nI_le (b := 1) (by omega) (by omega)) (nm_r (nI_1 p) hJ)
        · rw [if_neg w0, if_pos (by omega), ← rf_asub] at hJ
          exact br_f (nI_ge (a := 1) (by omega) (by omega)) (nm_e (nm_r (nI_1 p) hJ))
    · refine br_t ?_ (nm_r (nI_1 p) ?_)
      · by_cases c2 : d p = 2
        · obtain ⟨i', hi', e'⟩ := (Fo p hpn).2.1 c2
          rw [e']; exact nI_le (by omega) (by omega)
        · rw [(Fo p hpn).2.2 c1 c2]
          exact Int32.le_trans (by decide) (nI_pos' (by omega))
      · rw [← rf_sm0 c1]
        exact ih (p + 1) (by omega)
theorem ry_s {post : Int32 → Prop} {d : Nat → Nat} (hA : rf_Ba A) (Fo : rf_Fo (rf_ft A g) d n) (hn : n ≤ 11) (hma : ∀ q, q < n → ma q = rf_mt d n q)
    (hpost : post (rf_sm A nu d n n)) : wpY_score post (nI g, nI n, tp, my, be, bm, bc, wm, wb, A, hl, nu, sg, op, ma, bM) :=
  ⟨n + 1, ry_sl hA Fo hn hma hpost n 0 (by omega)⟩
end
end
section
/-! the reference puts a digit, takes one back, looks for the next -/
section
variable {g n : Nat} {tp my be bm bc wm wb : Int32} {A hl nu sg op ma bM : Nat → Int32}
/-- the arrays of the reference as the first p digits d left them -/
def ry_St (d : Nat → Nat) (p : Nat) (tp : Int32) (sg op ma : Nat → Int32) : Prop :=
  tp = nI (rf_sk d p).length ∧ rf_ly op (rf_sk d p) ∧ (∀ q, q < p → sg q = nI (d q)) ∧ (∀ q, q < p → ma q = rf_mt d p q)
theorem ry_St_cg {d e : Nat → Nat} {p : Nat} (h : ∀ q, q < p → d q = e q) (hs : ry_St d p tp sg op ma) : ry_St e p tp sg op ma := by
  obtain ⟨a, b⟩ := rf_cg p h
  obtain ⟨h1, h2, h3, h4⟩ := hs
  refine ⟨by rw [← a]; exact h1, by rw [← a]; exact h2, fun q hq => by rw [← h q hq]; exact h3 q hq, fun q hq => by rw [← b]; exact h4 q hq⟩
theorem ry_put {post : Int32 → SY → Prop} {d : Nat → Nat} {p s : Nat} (hA : rf_Ba A) (hg : g ≤ 4) (hn : n ≤ 11) (hp : p < n) (hs : s < 3) (hS : ry_St d p tp sg op ma)
    (kY : ∀ tp' sg' op' ma', rf_vd (rf_ft A g) (rf_up d p s) p → ry_St (rf_up d p s) (p + 1) tp' sg' op' ma' → post 1 (nI g, nI n, tp', my, be, bm, bc, wm, wb, A, hl, nu, sg', op', ma', bM))
    (kN : ¬ rf_vd (rf_ft A g) (rf_up d p s) p → post 0 (nI g, nI n, tp, my, be, bm, bc, wm, wb, A, hl, nu, sg, op, ma, bM)) :
    wpY_put post (nI g, nI n, tp, my, be, bm, bc, wm, wb, A, hl, nu, sg, op, ma, bM) (nI p) (nI s) := by
  have hS' := ry_St_cg (fun q hq => (rf_up_b (d := d) (s := s) q hq).symm) hS
  have es : rf_up d p s p = s := rf_up_s
  revert kY kN hS' es
  generalize rf_up d p s = e
  intro kY kN hS' es
  obtain ⟨h1, h2, h3, h4⟩ := hS'
  have hlen := rf_lenp e p
  have ec : (nI p).toNatClampNeg = p := nI_clamp (by omega)
  have vp : vp_in (nI p) 12 := vp_in_nI (by omega) (by omega)
  have hsg : ∀ sg', sg' = upd sg (nI p).toNatClampNeg (nI s) → ∀ q, q < p + 1 → sg' q = nI (e q) := by
    intro sg' e9 q hq
    rw [e9, ec]
    by_cases hqp : q = p
    · rw [hqp, pk_us, es]
    · rw [pk_un hqp]; exact h3 q (by omega)
  by_cases c2 : s = 2
  · have c2' : e p = 2 := es.trans c2
    refine br_t (by rw [c2]; rfl) ?_
    cases hs : rf_sk e p with
    | nil =>
      rw [hs] at h1
      refine br_t (by rw [h1]; rfl) (kN (fun z => ?_))
      obtain ⟨i, st, e3, _⟩ := z c2'
      rw [hs] at e3
      exact absurd e3 (by simp)
    | cons i st =>
      have hi := (rf_A e p i st (by rw [hs]; exact List.suffix_refl _)).1
      rw [hs] at h1 h2 hlen
      have hl1 : st.length + 1 ≤ p := hlen
      have h1' : tp = nI (st.length + 1) := h1
      have ep : tp - 1 = nI st.length := by rw [h1']; exact nI_pred st.length
      have ecs : (nI st.length).toNatClampNeg = st.length := nI_clamp (by omega)
      refine br_f (by rw [h1']; exact nI_ne0 (by omega) (by omega)) ⟨by rw [ep]; exact vp_in_nI (by omega) (by omega), nm_r (e' := nI i) (by rw [ep, ecs]; exact h2.1) ?_⟩
      refine ry_c hA hg (by omega) (by omega) (fun hf => ?_) (fun hf => br_t rfl (kN (fun z => ?_)))
      · refine br_f (by decide) (nm_r ep ⟨vp_in_nI (by omega) (by omega), fun ma1 e1 => ⟨vp, fun ma2 e2 => ⟨vp, fun sg' e3 => kY _ _ _ _ (fun _ => ⟨i, st, hs, hf⟩) ?_⟩⟩⟩)
        have es' : rf_sk e (p + 1) = st := by rw [rf_sk2 c2', hs]; rfl
        refine ⟨by rw [es'], by rw [es']; exact h2.2, hsg sg' e3, fun q hq => ?_⟩
        rw [nI_clamp (by omega)] at e1
        rw [ec] at e2
        rw [e2, e1, rf_mt2 c2' hs]
        by_cases hqp : q = p
        · rw [hqp, pk_us, pk_us]
        · rw [pk_un hqp, pk_un hqp]
          by_cases hqi : q = i
          · rw [hqi, pk_us, pk_us]
          · rw [pk_un hqi, pk_un hqi]; exact h4 q (by omega)
      · obtain ⟨i', st', e3, hf'⟩ := z c2'
        rw [hs] at e3
        injection e3 with e4 _
        rw [← e4] at hf'
        exact hf hf'
  · have c2' : e p ≠ 2 := by rw [es]; exact c2
    refine br_f (fun z => c2 ((nI_eq (b := 2) (by omega) (by omega)).mp z)) ⟨vp, fun ma1 e1 => ?_⟩
    rw [ec] at e1
    have hm : ∀ q, q < p + 1 → ma1 q = rf_mt e (p + 1) q := by
      intro q hq
      rw [e1, rf_mt0 c2']
      by_cases hqp : q = p
      · rw [hqp, pk_us, pk_us]
      · rw [pk_un hqp, pk_un hqp]; exact h4 q (by omega)
    by_cases c1 : s = 1
    · have c1' : e p = 1 := es.trans c1
      refine br_t (by rw [c1]; rfl) ⟨by rw [h1]; exact vp_in_nI (by omega) (by omega), fun op1 e2 => nm_r (e' := nI ((rf_sk e p).length + 1)) (by rw [h1, nI_1]) ⟨vp, fun sg' e3 => kY _ _ _ _ (fun z => absurd z c2') ?_⟩⟩
      rw [h1, nI_clamp (by omega)] at e2
      refine ⟨by rw [rf_sk1 c1']; rfl, by rw [rf_sk1 c1', e2]; exact rf_ly_p h2, hsg sg' e3, hm⟩
    · have c1' : e p ≠ 1 := by rw [es]; exact c1
      refine br_f (fun z => c1 ((nI_eq (b := 1) (by omega) (by omega)).mp z)) ⟨vp, fun sg' e3 => kY _ _ _ _ (fun z => absurd z c2') ?_⟩
      refine ⟨by rw [rf_sk0 c1' c2']; exact h1, by rw [rf_sk0 c1' c2']; exact h2, hsg sg' e3, hm⟩
theorem ry_take {post : SY → Prop} {d : Nat → Nat} {p : Nat} (hn : n ≤ 11) (hp : p < n) (hd3 : ∀ q, q < p + 1 → d q < 3) (hv : ∀ q, q < p + 1 → d q = 2 → ∃ i st, rf_sk d q = i :: st) (hS : ry_St d (p + 1) tp sg op ma)
    (kY : ∀ tp' op' ma', ry_St d p tp' sg op' ma' → post (nI g, nI n, tp', my, be, bm, bc, wm, wb, A, hl, nu, sg, op', ma', bM)) :
    wpY_take post (nI g, nI n, tp, my, be, bm, bc, wm, wb, A, hl, nu, sg, op, ma, bM) (nI p) := by
  obtain ⟨h1, h2, h3, h4⟩ := hS
  have ec : (nI p).toNatClampNeg = p := nI_clamp (by omega)
  have vp : vp_in (nI p) 12 := vp_in_nI (by omega) (by omega)
  have esg : sg (nI p).toNatClampNeg = nI (d p) := by rw [ec]; exact h3 p (by omega)
  have hlen := rf_lenp d (p + 1)
  have h33 := hd3 p (by omega)
  have n1 : d p ≠ 1 → ¬ sg (nI p).toNatClampNeg = 1 := fun z y => z ((nI_eq (b := 1) (by omega) (by omega)).mp (esg.symm.trans y))
  have n2 : d p ≠ 2 → ¬ sg (nI p).toNatClampNeg = 2 := fun z y => z ((nI_eq (b := 2) (by omega) (by omega)).mp (esg.symm.trans y))
  have hm0 : d p ≠ 2 → ∀ q, q < p → ma q = rf_mt d p q := by
    intro z q hq
    rw [h4 q (by omega), rf_mt0 z, pk_un (by omega)]
  refine ⟨vp, ?_⟩
  by_cases c1 : d p = 1
  · have es := rf_sk1 c1
    rw [es] at h1 h2
    have c2 : d p ≠ 2 := by omega
    refine br_t (by rw [esg, c1]; rfl) (nm_r (e' := nI (rf_sk d p).length) (by rw [h1]; exact nI_pred _) ⟨vp, br_f (n2 c2) (kY _ _ _ ?_)⟩)
    exact ⟨rfl, h2.2, fun q hq => h3 q (by omega), hm0 c2⟩
  · refine br_f (n1 c1) ⟨vp, ?_⟩
    by_cases c2 : d p = 2
    · obtain ⟨i, st, hs⟩ := hv p (by omega) c2
      obtain ⟨o1, o2, o3, o4⟩ := rf_op (fun q hq => hv q (by omega)) hs
      have es : rf_sk d (p + 1) = st := by rw [rf_sk2 c2, hs]; rfl
      rw [es] at h1 h2 hlen
      have em : ma (nI p).toNatClampNeg = nI i := by rw [ec, h4 p (by omega), rf_mt2 c2 hs, pk_us]
      refine br_t (by rw [esg, c2]; rfl) ⟨vp, by rw [h1]; exact vp_in_nI (by omega) (by omega), fun op1 e1 => nm_r (e' := nI (st.length + 1)) (by rw [h1, nI_1]) ⟨vp, by rw [em]; exact vp_in_nI (by omega) (by omega), fun ma1 e2 => kY _ _ _ ?_⟩⟩
      rw [em, h1, nI_clamp (by omega)] at e1
      rw [em, nI_clamp (by omega)] at e2
      refine ⟨by rw [hs]; rfl, by rw [hs, e1]; exact rf_ly_p h2, fun q hq => h3 q (by omega), fun q hq => ?_⟩
      rw [e2]
      by_cases hqi : q = i
      · rw [hqi, pk_us]; exact o4.symm
      · rw [pk_un hqi, h4 q (by omega), rf_mt2 c2 hs, pk_un (by omega), pk_un hqi]
    · have es := rf_sk0 c1 c2
      rw [es] at h1 h2
      exact br_f (n2 c2) (kY _ _ _ ⟨h1, h2, fun q hq => h3 q (by omega), hm0 c2⟩)
theorem ry_nl {post : Int32 → SY → Prop} {d : Nat → Nat} {p fr : Nat} (hA : rf_Ba A) (hg : g ≤ 4) (hn : n ≤ 11) (hp : p < n) (hS : ry_St d p tp sg op ma)
    (kY : ∀ s tp' sg' op' ma', fr ≤ s → s < 3 → (∀ s', fr ≤ s' → s' < s → ¬ (rf_H hl p s' ∧ rf_vd (rf_ft A g) (rf_up d p s') p)) → rf_H hl p s → rf_vd (rf_ft A g) (rf_up d p s) p → ry_St (rf_up d p s) (p + 1) tp' sg' op' ma' → post (nI s) (nI g, nI n, tp', my, be, bm, bc, wm, wb, A, hl, nu, sg', op', ma', bM))
    (kN : (∀ s', fr ≤ s' → s' < 3 → ¬ (rf_H hl p s' ∧ rf_vd (rf_ft A g) (rf_up d p s') p)) → post 3 (nI g, nI n, tp, my, be, bm, bc, wm, wb, A, hl, nu, sg, op, ma, bM)) :
    ∀ t s, s + t = 3 → fr ≤ s → (∀ s', fr ≤ s' → s' < s → ¬ (rf_H hl p s' ∧ rf_vd (rf_ft A g) (rf_up d p s') p)) → wY_next_2 post (nI p) (t + 1) (nI s) (nI g) (nI n) tp my be bm bc wm wb A hl nu sg op ma bM := by
  have ec : (nI p).toNatClampNeg = p := nI_clamp (by omega)
  have vp : vp_in (nI p) 11 := vp_in_nI (by omega) (by omega)
  intro t
  induction t with
  | zero =>
    intro s hs hfr hno
    have e : s = 3 := by omega
    rw [e] at hno ⊢
    exact br_t (by decide) (kN hno)
  | succ t ih =>
    intro s hs hfr hno
    have hnext : ¬ (rf_H hl p s ∧ rf_vd (rf_ft A g) (rf_up d p s) p) → wY_next_2 post (nI p) (t + 1) (nI (s + 1)) (nI g) (nI n) tp my be bm bc wm wb A hl nu sg op ma bM := by
      intro z
      refine ih (s + 1) (by omega) (by omega) (fun s' h1 h2 => ?_)
      by_cases e : s' = s
      · rw [e]; exact z
      · exact hno s' h1 (by omega)
    have W28 : rf_H hl p s → wY_next_28 post (wY_next_2 post (nI p) (t + 1)) (nI p) (nI s) (nI g) (nI n) tp my be bm bc wm wb A hl nu sg op ma bM := by
      intro hH
      refine br_f (by decide) ?_
      refine ry_put hA hg hn hp (by omega) hS (fun tp' sg' op' ma' hv hS' => ?_) (fun hv => ?_)
      · exact br_f (by decide) (kY s tp' sg' op' ma' hfr (by omega) hno hH hv hS')
      · exact br_t rfl (nm_r (nI_1 s) (hnext (fun z => hv z.2)))
    refine br_f (nI_ge (b := 3) (by omega) (by omega)) ⟨vp, ?_⟩
    rw [ec, nI_1]
    by_cases z1 : hl p = 0
    · exact br_t z1 (W28 (Or.inl z1))
    · refine br_f z1 ⟨vp, ?_⟩
      by_cases z2 : hl p = nI (s + 1)
      · exact br_t z2 (W28 (Or.inr z2))
      · refine br_f z2 (br_t rfl (nm_r (nI_1 s) (hnext (fun z => ?_))))
        rcases z.1 with y | y
        · exact z1 y
        · exact z2 y
theorem ry_n {post : Int32 → SY → Prop} {d : Nat → Nat} {p fr : Nat} (hA : rf_Ba A) (hg : g ≤ 4) (hn : n ≤ 11) (hp : p < n) (hfr : fr ≤ 3) (hS : ry_St d p tp sg op ma)
    (kY : ∀ s tp' sg' op' ma', fr ≤ s → s < 3 → (∀ s', fr ≤ s' → s' < s → ¬ (rf_H hl p s' ∧ rf_vd (rf_ft A g) (rf_up d p s') p)) → rf_H hl p s → rf_vd (rf_ft A g) (rf_up d p s) p → ry_St (rf_up d p s) (p + 1) tp' sg' op' ma' → post (nI s) (nI g, nI n, tp', my, be, bm, bc, wm, wb, A, hl, nu, sg', op', ma', bM))
    (kN : (∀ s', fr ≤ s' → s' < 3 → ¬ (rf_H hl p s' ∧ rf_vd (rf_ft A g) (rf_up d p s') p)) → post 3 (nI g, nI n, tp, my, be, bm, bc, wm, wb, A, hl, nu, sg, op, ma, bM)) :
    wpY_next post (nI g, nI n, tp, my, be, bm, bc, wm, wb, A, hl, nu, sg, op, ma, bM) (nI p) (nI fr) :=
  ⟨3 - fr + 1, ry_nl hA hg hn hp hS kY kN (3 - fr) fr (by omega) (Nat.le_refl _) (fun s' h1 h2 => by omega)⟩
end
end
section
/-! the reference notices a fold -/
def rf_QW (ft H : Nat → Nat → Prop) (n : Nat) (pi pj : Int32) (c : Nat) : Prop := rf_ok ft H n c ∧ (¬ pj ≤ pi ∧ rf_mt (rf_dg n c) n pi.toNatClampNeg = pj)
section
variable {g n : Nat} {tp my be bm bc wm wb : Int32} {A hl nu sg op ma bM : Nat → Int32}
theorem ry_137 {post : SY → Prop} {pi pj : Int32} {v : Nat} (hN : rf_Nu nu) (hn : n ≤ 11) (hq : pj ≤ pi ∨ ∃ i, i < n ∧ pi = nI i) (hv : v < 3 ^ n) (hok : rf_ok (rf_ft A g) (rf_H hl) n v) (hma : ∀ q, q < n → ma q = rf_mt (rf_dg n v) n q)
    (hW : rf_YW (rf_QW (rf_ft A g) (rf_H hl) n pi pj) (rf_sc A nu n) v wm wb)
    (kY : ∀ wm' wb', rf_YW (rf_QW (rf_ft A g) (rf_H hl) n pi pj) (rf_sc A nu n) (v + 1) wm' wb' → post (nI g, nI n, tp, my, be, bm, bc, wm', wb', A, hl, nu, sg, op, ma, bM)) :
    wY_notice_137 post pi pj (rf_sc A nu n v) (nI g) (nI n) tp my be bm bc wm wb A hl nu sg op ma bM := by
  have h31 := rf_p31 hn
  have hsk : ¬ rf_QW (rf_ft A g) (rf_H hl) n pi pj v → rf_YW (rf_QW (rf_ft A g) (rf_H hl) n pi pj) (rf_sc A nu n) (v + 1) wm wb := by
    intro z
    refine rf_YW_s hW (by omega) (fun c h1 h2 => ?_)
    have e : c = v := by omega
    rw [e]; exact z
  by_cases c1 : pj ≤ pi
  · exact br_t c1 (kY _ _ (hsk (fun z => z.2.1 c1)))
  · obtain ⟨i, hi, e⟩ := hq.resolve_left c1
    have em : ma pi.toNatClampNeg = rf_mt (rf_dg n v) n pi.toNatClampNeg := by
      rw [e, nI_clamp (by omega)]; exact hma i hi
    refine br_f c1 ⟨by rw [e]; exact vp_in_nI (by omega) (by omega), ?_⟩
    rw [em]
    by_cases c2 : rf_mt (rf_dg n v) n pi.toNatClampNeg = pj
    · refine br_t c2 ?_
      have hQ : rf_QW (rf_ft A g) (rf_H hl) n pi pj v := ⟨hok, c1, c2⟩
      have hle := rf_ac_le (rf_QW (rf_ft A g) (rf_H hl) n pi pj) (rf_sc A nu n) v
      by_cases m0 : (rf_ac (rf_QW (rf_ft A g) (rf_H hl) n pi pj) (rf_sc A nu n) v).1 = 0
      · refine br_t (by rw [hW.1, m0]; rfl) (nm_e (kY _ _ (rf_YW_t hW hQ ?_)))
        rw [(rf_ac_m m0).1]
        exact rf_sc_b hN hn
      · refine br_f (by rw [hW.1]; exact nI_ne0 (by omega) (by omega)) ?_
        by_cases c3 : rf_sc A nu n v ≤ wb
        · exact br_t c3 (nm_e (kY _ _ (rf_YW_n hW hQ (by omega) (Int32.not_lt.mpr c3))))
        · refine br_f c3 (nm_e (kY _ _ (rf_YW_t hW hQ ?_)))
          rw [← hW.2 (by omega)]
          exact Int32.not_le.mp c3
    · exact br_f c2 (kY _ _ (hsk (fun z => c2 z.2.2)))
theorem ry_92 {post : SY → Prop} {pi pj x3 : Int32} (kY : ∀ bM', (∀ q, q < 12 → bM' q = ma q) → wY_notice_119 post pi pj x3 (nI g) (nI n) tp my be bm bc wm wb A hl nu sg op ma bM') :
    ∀ t k bM, k + t = 12 → (∀ q, q < k → bM q = ma q) → wY_notice_92 post pi pj x3 (nI g) (nI n) tp my be bm bc wm wb (t + 1) (nI k) A hl nu sg op ma bM := by
  intro t
  induction t with
  | zero =>
    intro k bM hk h
    have e : k = 12 := by omega
    rw [e] at h ⊢
    exact br_t (by decide) (kY bM h)
  | succ t ih =>
    intro k bM hk h
    refine br_f (nI_ge (b := 12) (by omega) (by omega)) ⟨vp_in_nI (by omega) (by omega), vp_in_nI (by omega) (by omega), fun bM' e => nm_r (nI_1 k) (ih (k + 1) bM' (by omega) (fun q hq => ?_))⟩
    rw [nI_clamp (by omega)] at e
    rw [e]
    by_cases hqk : q = k
    · rw [hqk, pk_us]
    · rw [pk_un hqk]; exact h q (by omega)
theorem ry_47 {post : SY → Prop} {pi pj : Int32} {v : Nat} (hN : rf_Nu nu) (hn : n ≤ 11) (hq : pj ≤ pi ∨ ∃ i, i < n ∧ pi = nI i) (hv : v < 3 ^ n) (hok : rf_ok (rf_ft A g) (rf_H hl) n v) (hma : ∀ q, q < n → ma q = rf_mt (rf_dg n v) n q)
    (hB : rf_YB (rf_ft A g) (rf_H hl) n (rf_sc A nu n) v my be bm bc bM) (hW : rf_YW (rf_QW (rf_ft A g) (rf_H hl) n pi pj) (rf_sc A nu n) v wm wb)
    (kY : ∀ my' be' bm' bc' wm' wb' bM', rf_YB (rf_ft A g) (rf_H hl) n (rf_sc A nu n) (v + 1) my' be' bm' bc' bM' → rf_YW (rf_QW (rf_ft A g) (rf_H hl) n pi pj) (rf_sc A nu n) (v + 1) wm' wb' → post (nI g, nI n, tp, my', be', bm', bc', wm', wb', A, hl, nu, sg, op, ma, bM')) :
    wY_notice_47 post pi pj (rf_sc A nu n v) (nI v) (nI g) (nI n) tp my be bm bc wm wb A hl nu sg op ma bM := by
  have h31 := rf_p31 hn
  have hle := rf_ac_le (rf_ok (rf_ft A g) (rf_H hl) n) (rf_sc A nu n) v
  have e1 : my + 1 = nI ((rf_ac (rf_ok (rf_ft A g) (rf_H hl) n) (rf_sc A nu n) v).1 + 1) := by rw [hB.1, nI_1]
  have W73 : (rf_ac (rf_ok (rf_ft A g) (rf_H hl) n) (rf_sc A nu n) v).2.1 < rf_sc A nu n v → wY_notice_73 post pi pj (rf_sc A nu n v) (nI v) (nI g) (nI n) tp (my + 1) be bm bc wm wb A hl nu sg op ma bM := by
    intro hlt
    refine ⟨13, ry_92 (fun bM' hb => ?_) 12 0 bM (by omega) (fun q hq => by omega)⟩
    refine br_t rfl (nm_e ?_)
    refine ry_137 hN hn hq hv hok hma hW (fun wm' wb' hW' => kY _ _ _ _ _ _ _ (rf_YB_t hB hv hok hlt (fun q hq => ?_)) hW')
    rw [hb q (by omega)]; exact hma q hq
  refine nm_e ?_
  by_cases m0 : (rf_ac (rf_ok (rf_ft A g) (rf_H hl) n) (rf_sc A nu n) v).1 = 0
  · refine br_t (by rw [e1, m0]; rfl) (W73 ?_)
    rw [(rf_ac_m m0).1]
    exact rf_sc_b hN hn
  · have hp : 0 < (rf_ac (rf_ok (rf_ft A g) (rf_H hl) n) (rf_sc A nu n) v).1 := by omega
    refine br_f (fun z => ?_) ?_
    · rw [e1] at z
      have z2 := (nI_eq (b := 1) (by omega) (by omega)).mp z
      omega
    · by_cases c1 : rf_sc A nu n v ≤ be
      · have c1' : ¬ be < rf_sc A nu n v := Int32.not_lt.mpr c1
        refine br_t c1 ?_
        by_cases c2 : rf_sc A nu n v = be
        · refine br_t c2 (nm_e ?_)
          exact ry_137 hN hn hq hv hok hma hW (fun wm' wb' hW' => kY _ _ _ _ _ _ _ (rf_YB_e hB hok hp c1' c2) hW')
        · refine br_f c2 ?_
          exact ry_137 hN hn hq hv hok hma hW (fun wm' wb' hW' => kY _ _ _ _ _ _ _ (rf_YB_n hB hok hp c1' c2) hW')
      · refine br_f c1 (W73 ?_)
        rw [← (hB.2.2 hp).1]
        exact Int32.not_le.mp c1
theorem ry_11 {post : SY → Prop} {pi pj x3 : Int32} {d : Nat → Nat} (hn : n ≤ 11) (hd : ∀ q, q < n → d q < 3) (hsg : ∀ q, q < n → sg q = nI (d q))
    (kY : wY_notice_47 post pi pj x3 (nI (rf_vl d n)) (nI g) (nI n) tp my be bm bc wm wb A hl nu sg op ma bM) :
    ∀ t p, p + t = n → wY_notice_11 post pi pj x3 (nI g) (nI n) tp my be bm bc wm wb A hl nu sg op ma bM (t + 1) (nI (rf_vl d p)) (nI p) := by
  intro t
  induction t with
  | zero =>
    intro p hp
    have e : p = n := by omega
    subst e
    exact br_t (nI_le (Nat.le_refl _) (by omega)) kY
  | succ t ih =>
    intro p hp
    refine br_f (nI_ge (by omega) (by omega)) (br_f (nI_ge (b := 11) (by omega) (by omega)) ⟨vp_in_nI (by omega) (by omega), nm_r (e' := nI (rf_vl d (p + 1))) ?_ (nm_r (nI_1 p) (ih (p + 1) (by omega)))⟩)
    rw [nI_clamp (by omega), hsg p (by omega)]
    show nI 3 * nI (rf_vl d p) + nI (d p) = nI (3 * rf_vl d p + d p)
    rw [pk_mul, nI_add]
theorem ry_no {post : SY → Prop} {pi pj : Int32} {d : Nat → Nat} (hA : rf_Ba A) (hN : rf_Nu nu) (hn : n ≤ 11) (hq : pj ≤ pi ∨ ∃ i, i < n ∧ pi = nI i) (hd : ∀ q, q < n → d q < 3) (hSy : rf_Sy (rf_ft A g) (rf_H hl) d n) (he : rf_sk d n = []) (hS : ry_St d n tp sg op ma)
    (hB : rf_YB (rf_ft A g) (rf_H hl) n (rf_sc A nu n) (rf_vl d n) my be bm bc bM) (hW : rf_YW (rf_QW (rf_ft A g) (rf_H hl) n pi pj) (rf_sc A nu n) (rf_vl d n) wm wb)
    (kY : ∀ my' be' bm' bc' wm' wb' bM', rf_YB (rf_ft A g) (rf_H hl) n (rf_sc A nu n) (rf_vl d n + 1) my' be' bm' bc' bM' → rf_YW (rf_QW (rf_ft A g) (rf_H hl) n pi pj) (rf_sc A nu n) (rf_vl d n + 1) wm' wb' → post (nI g, nI n, tp, my', be', bm', bc', wm', wb', A, hl, nu, sg, op, ma, bM')) :
    wpY_notice post (nI g, nI n, tp, my, be, bm, bc, wm, wb, A, hl, nu, sg, op, ma, bM) pi pj := by
  have hv := rf_vl_lt n hd
  have hok := (rf_ok_vl (ft := rf_ft A g) (H := rf_H hl) hd).mpr ⟨hSy, he⟩
  have hma : ∀ q, q < n → ma q = rf_mt (rf_dg n (rf_vl d n)) n q := by
    intro q hq
    rw [(rf_cg n (rf_dg_vl hd)).2]
    exact hS.2.2.2 q hq
  unfold wpY_notice
  refine ry_s hA (rf_Fo_of hok.1 hok.2) hn hma ⟨n + 1, ?_⟩
  exact ry_11 hn hd hS.2.2.1 (ry_47 hN hn hq hv hok hma hB hW kY) n 0 (by omega)
end
end
section
/-! the reference's search -/
section
variable {g n : Nat} {tp my be bm bc wm wb : Int32} {A hl nu sg op ma bM : Nat → Int32}
theorem ry_Sy1 {ft H : Nat → Nat → Prop} {d : Nat → Nat} {p s : Nat} (h : rf_Sy ft H d p) (hH : H p s) (hv : rf_vd ft (rf_up d p s) p) : rf_Sy ft H (rf_up d p s) (p + 1) := by
  intro q hq
  by_cases hqp : q = p
  · rw [hqp]
    exact ⟨by rw [rf_up_s]; exact hH, hv⟩
  · exact rf_Sy_cg (fun q hq => (rf_up_b q hq).symm) h q (by omega)
theorem ry_e121 {post : SY → Prop} {pi pj x4 : Int32} {t p fr v v0 turn : Nat} {d : Nat → Nat} (hn : n ≤ 11) (hp : p ≤ n) (hfr : fr ≤ 3) (hleaf : p = n → fr = 0) (hd : ∀ q, q < p → d q < 3) (hSy : rf_Sy (rf_ft A g) (rf_H hl) d p) (hS : ry_St d p tp sg op ma)
    (hat : rf_at n p fr v0 d) (hv : v = (rf_vl d p + 1) * 3 ^ (n - p)) (hturn : turn + rf_mu n p fr v0 d ≤ 600000) (ht : rf_mu n p fr v0 d < t + 1)
    (hB : rf_YB (rf_ft A g) (rf_H hl) n (rf_sc A nu n) v my be bm bc bM) (hW : rf_YW (rf_QW (rf_ft A g) (rf_H hl) n pi pj) (rf_sc A nu n) v wm wb)
    (hpost : ∀ tp my be bm bc wm wb sg op ma bM, rf_YB (rf_ft A g) (rf_H hl) n (rf_sc A nu n) (3 ^ n) my be bm bc bM → rf_YW (rf_QW (rf_ft A g) (rf_H hl) n pi pj) (rf_sc A nu n) (3 ^ n) wm wb → post (nI g, nI n, tp, my, be, bm, bc, wm, wb, A, hl, nu, sg, op, ma, bM))
    (ih : ∀ p fr v turn d tp sg op ma, p ≤ n → fr ≤ 3 → (p = n → fr = 0) → (∀ q, q < p → d q < 3) → rf_Sy (rf_ft A g) (rf_H hl) d p → ry_St d p tp sg op ma → rf_at n p fr v d → turn + rf_mu n p fr v d ≤ 600000 → rf_mu n p fr v d < t →
      rf_YB (rf_ft A g) (rf_H hl) n (rf_sc A nu n) v my be bm bc bM → rf_YW (rf_QW (rf_ft A g) (rf_H hl) n pi pj) (rf_sc A nu n) v wm wb → wY_explore_52 post pi pj t (nI p) (nI fr) 1 (nI turn) (nI g) (nI n) tp my be bm bc wm wb A hl nu sg op ma bM) :
    wY_explore_121 post (wY_explore_52 post pi pj t) pi pj (nI p) x4 (nI turn) (nI g) (nI n) tp my be bm bc wm wb A hl nu sg op ma bM := by
  cases p with
  | zero =>
    have e : v = 3 ^ n := by
      rw [hv]
      show (0 + 1) * 3 ^ (n - 0) = 3 ^ n
      rw [Nat.zero_add, Nat.one_mul, Nat.sub_zero]
    rw [e] at hB hW
    have hmu : 11 ≤ rf_mu n 0 fr v0 d := by unfold rf_mu; omega
    obtain ⟨t', rfl⟩ : ∃ t', t = t' + 1 := ⟨t - 1, by omega⟩
    refine br_t (by decide) (br_t rfl (nm_r (nI_1 turn) ?_))
    exact br_f (nI_ge (b := 2000000) (by omega) (by omega)) (br_t rfl (hpost _ _ _ _ _ _ _ _ _ _ _ hB hW))
  | succ p =>
    obtain ⟨b1, b2, b3, b4⟩ := rf_bk hn (by omega) hd hfr hat hleaf hv
    have h3 := hd p (by omega)
    refine br_f (nI_nle (by omega) (by omega)) (br_f (by decide) (nm_r (pk_m1 p) ?_))
    refine ry_take hn (by omega) hd (rf_Sy_v hSy) hS (fun tp' op' ma' hS' => ⟨vp_in_nI (by omega) (by omega), nm_r (e' := nI (d p + 1)) ?_ (nm_r (nI_1 turn) ?_)⟩)
    · rw [nI_clamp (by omega), hS.2.2.1 p (by omega), nI_1]
    · exact ih p (d p + 1) v (turn + 1) d tp' sg op' ma' (by omega) (by omega) (fun z => by omega) (fun q hq => hd q (by omega)) (fun q hq => hSy q (by omega)) hS' b3 (by omega) (by omega) hB hW
theorem ry_el {post : SY → Prop} {pi pj : Int32} (hA : rf_Ba A) (hN : rf_Nu nu) (hg : g ≤ 4) (hn : n ≤ 11) (hq : pj ≤ pi ∨ ∃ i, i < n ∧ pi = nI i)
    (hpost : ∀ tp my be bm bc wm wb sg op ma bM, rf_YB (rf_ft A g) (rf_H hl) n (rf_sc A nu n) (3 ^ n) my be bm bc bM → rf_YW (rf_QW (rf_ft A g) (rf_H hl) n pi pj) (rf_sc A nu n) (3 ^ n) wm wb → post (nI g, nI n, tp, my, be, bm, bc, wm, wb, A, hl, nu, sg, op, ma, bM)) :
    ∀ t p fr v turn d tp my be bm bc wm wb sg op ma bM, p ≤ n → fr ≤ 3 → (p = n → fr = 0) → (∀ q, q < p → d q < 3) → rf_Sy (rf_ft A g) (rf_H hl) d p → ry_St d p tp sg op ma → rf_at n p fr v d → turn + rf_mu n p fr v d ≤ 600000 → rf_mu n p fr v d < t →
      rf_YB (rf_ft A g) (rf_H hl) n (rf_sc A nu n) v my be bm bc bM → rf_YW (rf_QW (rf_ft A g) (rf_H hl) n pi pj) (rf_sc A nu n) v wm wb → wY_explore_52 post pi pj t (nI p) (nI fr) 1 (nI turn) (nI g) (nI n) tp my be bm bc wm wb A hl nu sg op ma bM := by
  intro t
  induction t with
  | zero => intro p fr v turn d tp my be bm bc wm wb sg op ma bM _ _ _ _ _ _ _ _ h; omega
  | succ t ih =>
    intro p fr v turn d tp my be bm bc wm wb sg op ma bM hp hfr hleaf hd hSy hS hat hturn ht hB hW
    refine br_f (nI_ge (b := 2000000) (by omega) (by omega)) (br_f (by decide) ?_)
    by_cases hpn : p = n
    · subst hpn
      have hf0 := hleaf rfl
      have hv := hat.2 rfl
      have hvn : rf_vl d p + 1 = (rf_vl d p + 1) * 3 ^ (p - p) := by rw [Nat.sub_self, Nat.pow_zero, Nat.mul_one]
      rw [hv] at hB hW
      refine br_t (nI_le (Nat.le_refl _) (by omega)) (br_t (by decide) (br_t rfl ?_))
      have hlen := rf_lenp d p
      cases hs : rf_sk d p with
      | nil =>
        refine br_t (by rw [hS.1, hs]; rfl) ?_
        refine ry_no hA hN hn hq hd hSy hs hS hB hW (fun my' be' bm' bc' wm' wb' bM' hB' hW' => ?_)
        exact ry_e121 hn hp hfr hleaf hd hSy hS hat hvn hturn ht hB' hW' hpost (fun p fr v turn d tp sg op ma a1 a2 a3 a4 a5 a6 a7 a8 a9 b1 b2 => ih p fr v turn d tp my' be' bm' bc' wm' wb' sg op ma bM' a1 a2 a3 a4 a5 a6 a7 a8 a9 b1 b2)
      | cons i st =>
        have hno : ¬ rf_ok (rf_ft A g) (rf_H hl) p (rf_vl d p) := by
          intro z
          have z2 := ((rf_ok_vl hd).mp z).2
          rw [hs] at z2
          exact absurd z2 (by simp)
        have hB' := rf_YB_s hB (show rf_vl d p ≤ rf_vl d p + 1 by omega) (fun c h1 h2 => by
          have e : c = rf_vl d p := by omega
          rw [e]; exact hno)
        have hW' := rf_YW_s hW (show rf_vl d p ≤ rf_vl d p + 1 by omega) (fun c h1 h2 => by
          have e : c = rf_vl d p := by omega
          rw [e]; exact fun z => hno z.1)
        rw [hs] at hlen
        have hlen2 : st.length + 1 ≤ p := hlen
        refine br_f (by rw [hS.1, hs]; exact nI_ne0 (by show 0 < st.length + 1; omega) (by show st.length + 1 < 2 ^ 31; omega)) ?_
        exact ry_e121 hn hp hfr hleaf hd hSy hS hat hvn hturn ht hB' hW' hpost (fun p fr v turn d tp sg op ma a1 a2 a3 a4 a5 a6 a7 a8 a9 b1 b2 => ih p fr v turn d tp my be bm bc wm wb sg op ma bM a1 a2 a3 a4 a5 a6 a7 a8 a9 b1 b2)
    · have hpl : p < n := by omega
      have hv := hat.1 hpl
      refine br_f (nI_ge hpl (by omega)) ?_
      refine ry_n hA hg hn hpl hfr hS (fun s tp' sg' op' ma' s1 s2 s3 s4 s5 hS' => ?_) (fun s3 => ?_)
      · obtain ⟨v', e1, e2, e3, e4, e5⟩ := rf_dn hn hpl hd s1 s2 hat
        have hsk : ∀ c, v ≤ c → c < v' → ¬ rf_ok (rf_ft A g) (rf_H hl) n c := by
          intro c h1 h2
          rw [hv] at h1
          rw [e1] at h2
          exact rf_skipY hpl hd (by omega) s3 c h1 h2
        refine br_f (nI_ge (b := 3) s2 (by omega)) (nm_r (nI_1 p) (nm_r (nI_1 turn) ?_))
        exact ih (p + 1) 0 v' (turn + 1) (rf_up d p s) tp' my be bm bc wm wb sg' op' ma' bM (by omega) (by omega) (fun _ => rfl) (rf_up_3 hd s2) (ry_Sy1 hSy s4 s5) hS' e4 (by omega) (by omega) (rf_YB_s hB e2 hsk) (rf_YW_s hW e2 (fun c h1 h2 z => hsk c h1 h2 z.1))
      · have e1 : (rf_vl d p + 1) * 3 ^ (n - p) = (3 * rf_vl d p + 3) * 3 ^ (n - (p + 1)) := by
          rw [rf_pw hpl, ← Nat.mul_assoc]
          exact congrArg (· * 3 ^ (n - (p + 1))) (by omega)
        have e2 : v ≤ (rf_vl d p + 1) * 3 ^ (n - p) := by
          rw [e1, hv]
          exact Nat.mul_le_mul_right _ (by omega)
        have hsk : ∀ c, v ≤ c → c < (rf_vl d p + 1) * 3 ^ (n - p) → ¬ rf_ok (rf_ft A g) (rf_H hl) n c := by
          intro c h1 h2
          rw [hv] at h1
          rw [e1] at h2
          exact rf_skipY hpl hd (Nat.le_refl 3) s3 c h1 h2
        refine br_t (by decide) (br_f (fun z => hpn ((nI_eq (by omega) (by omega)).mp z)) ?_)
        exact ry_e121 hn hp hfr hleaf hd hSy hS hat rfl hturn ht (rf_YB_s hB e2 hsk) (rf_YW_s hW e2 (fun c h1 h2 z => hsk c h1 h2 z.1)) hpost (fun p fr v turn d tp sg op ma a1 a2 a3 a4 a5 a6 a7 a8 a9 b1 b2 => ih p fr v turn d tp my be bm bc wm wb sg op ma bM a1 a2 a3 a4 a5 a6 a7 a8 a9 b1 b2)
theorem ry_22 {post : SY → Prop} {pi pj : Int32} (kY : ∀ ma', ∃ m, wY_explore_52 post pi pj m 0 0 1 0 (nI g) (nI n) tp my be bm bc wm wb A hl nu sg op ma' bM) :
    ∀ t k ma, k + t = 12 → wY_explore_22 post pi pj (nI g) (nI n) tp my be bm bc wm wb (t + 1) (nI k) A hl nu sg op ma bM := by
  intro t
  induction t with
  | zero =>
    intro k ma hk
    have e : k = 12 := by omega
    rw [e]
    exact br_t (by decide) (kY ma)
  | succ t ih =>
    intro k ma hk
    exact br_f (nI_ge (b := 12) (by omega) (by omega)) ⟨vp_in_nI (by omega) (by omega), fun ma' _ => nm_r (nI_1 k) (ih (k + 1) ma' (by omega))⟩
theorem ry_e {post : SY → Prop} {pi pj : Int32} (hA : rf_Ba A) (hN : rf_Nu nu) (hg : g ≤ 4) (hn : n ≤ 11) (hq : pj ≤ pi ∨ ∃ i, i < n ∧ pi = nI i)
    (hpost : ∀ tp my be bm bc wm wb sg op ma bM, rf_YB (rf_ft A g) (rf_H hl) n (rf_sc A nu n) (3 ^ n) my be bm bc bM → rf_YW (rf_QW (rf_ft A g) (rf_H hl) n pi pj) (rf_sc A nu n) (3 ^ n) wm wb → post (nI g, nI n, tp, my, be, bm, bc, wm, wb, A, hl, nu, sg, op, ma, bM)) :
    wpY_explore post (nI g, nI n, tp, my, be, bm, bc, wm, wb, A, hl, nu, sg, op, ma, bM) pi pj := by
  have h31 := rf_p31 hn
  have hmu : rf_mu n 0 0 0 (fun _ => 0) ≤ 600000 := by
    have e : rf_ds (fun _ => 0) 0 = 0 := rfl
    unfold rf_mu
    rw [e]
    omega
  refine ⟨13, ry_22 (fun ma' => ⟨rf_mu n 0 0 0 (fun _ => 0) + 1, ?_⟩) 12 0 ma (by omega)⟩
  exact ry_el hA hN hg hn hq hpost (rf_mu n 0 0 0 (fun _ => 0) + 1) 0 0 0 0 (fun _ => 0) 0 0 be 0 bc 0 wb sg op ma' bM (by omega) (by omega) (fun _ => rfl) (fun q hq => by omega) (fun q hq => by omega) ⟨rfl, trivial, fun q hq => by omega, fun q hq => by omega⟩ ⟨fun _ => by
    show 0 = (3 * 0 + 0) * 3 ^ (n - (0 + 1))
    rw [Nat.mul_zero, Nat.add_zero, Nat.zero_mul], fun _ => rfl⟩ (by omega) (by omega) (rf_YB_0 _ _ _ _ _ _ _) (rf_YW_0 _ _ _)
end
end
section
/-! the reference's scoreOf; small facts for the methods -/
def rf_T (_ _ : Nat) : Prop := True
theorem rf_up_self (d : Nat → Nat) (p : Nat) : rf_up d p (d p) = d := by
  funext q
  by_cases h : q = p
  · rw [h, rf_up_s]
  · rw [rf_up_n h]
section
variable {g n : Nat} {tp my be bm bc wm wb : Int32} {A hl nu sg op ma bM : Nat → Int32}
theorem ry_o107 {post : Int32 → SY → Prop} {c : Nat} (hA : rf_Ba A) (hn : n ≤ 11) (hSy : rf_Sy (rf_ft A g) rf_T (rf_dg n c) n) (hS : ry_St (rf_dg n c) n tp sg op ma)
    (kY : rf_ok (rf_ft A g) rf_T n c → post (rf_sc A nu n c) (nI g, nI n, tp, my, be, bm, bc, wm, wb, A, hl, nu, sg, op, ma, bM))
    (kN : ¬ rf_ok (rf_ft A g) rf_T n c → post (-1000) (nI g, nI n, tp, my, be, bm, bc, wm, wb, A, hl, nu, sg, op, ma, bM)) :
    wY_scoreOf_107 post (nI g) (nI n) tp my be bm bc wm wb A hl nu sg op ma bM := by
  have hlen := rf_lenp (rf_dg n c) n
  cases hs : rf_sk (rf_dg n c) n with
  | nil =>
    refine br_t (by rw [hS.1, hs]; rfl) ?_
    exact ry_s hA (rf_Fo_of hSy hs) hn hS.2.2.2 (kY ⟨hSy, hs⟩)
  | cons i st =>
    rw [hs] at hlen
    have hlen2 : st.length + 1 ≤ n := hlen
    refine br_f (by rw [hS.1, hs]; exact nI_ne0 (by show 0 < st.length + 1; omega) (by show st.length + 1 < 2 ^ 31; omega)) (kN (fun z => ?_))
    have z2 := z.2
    rw [hs] at z2
    exact absurd z2 (by simp)
theorem ry_o45 {post : Int32 → SY → Prop} {c : Nat} (hA : rf_Ba A) (hg : g ≤ 4) (hn : n ≤ 11) (hc : c < 3 ^ n)
    (kY : ∀ tp sg op ma, rf_ok (rf_ft A g) rf_T n c → post (rf_sc A nu n c) (nI g, nI n, tp, my, be, bm, bc, wm, wb, A, hl, nu, sg, op, ma, bM))
    (kN : ∀ tp sg op ma, ¬ rf_ok (rf_ft A g) rf_T n c → post (-1000) (nI g, nI n, tp, my, be, bm, bc, wm, wb, A, hl, nu, sg, op, ma, bM)) :
    ∀ t p tp sg op ma, p + t = n → rf_Sy (rf_ft A g) rf_T (rf_dg n c) p → ry_St (rf_dg n c) p tp sg op ma → wY_scoreOf_45 post (t + 1) (nI (3 ^ (n - p))) (nI (c % 3 ^ (n - p))) (nI p) (nI g) (nI n) tp my be bm bc wm wb A hl nu sg op ma bM := by
  intro t
  induction t with
  | zero =>
    intro p tp sg op ma hp hSy hS
    have e : p = n := by omega
    subst e
    exact br_t (nI_le (Nat.le_refl _) (by omega)) (ry_o107 hA hn hSy hS (kY _ _ _ _) (kN _ _ _ _))
  | succ t ih =>
    intro p tp sg op ma hp hSy hS
    have hpn : p < n := by omega
    have hM31 := rf_p31 (k := n - (p + 1)) (by omega)
    have hM31' := rf_p31 (k := n - p) (by omega)
    have hM0 : 0 < 3 ^ (n - (p + 1)) := Nat.pow_pos (by decide)
    have epw : 3 ^ (n - p) = 3 ^ (n - (p + 1)) * 3 := by rw [rf_pw hpn, Nat.mul_comm]
    have hr : c % 3 ^ (n - p) < 3 ^ (n - p) := Nat.mod_lt _ (by omega)
    have edg : c % 3 ^ (n - p) / 3 ^ (n - (p + 1)) = rf_dg n c p := by
      rw [epw, Nat.mod_mul_right_div_self]
      unfold rf_dg
      rw [show n - 1 - p = n - (p + 1) by omega]
    have h3 := rf_dg3 n c p
    refine br_f (nI_ge (by omega) (by omega)) (br_f (nI_ge (b := 11) (by omega) (by omega)) ⟨by decide, nm_r (e' := nI (3 ^ (n - (p + 1)))) ?_ ?_⟩)
    · show nI (3 ^ (n - p)) / nI 3 = _
      rw [pk_div (by omega) (by decide) (by decide), epw, Nat.mul_div_cancel _ (by decide)]
    · refine br_t (nI_le (a := 1) (by omega) (by omega)) ⟨nI_ne0 hM0 (by omega), ?_⟩
      rw [pk_div (by omega) hM0 (by omega), edg]
      refine ry_put hA hg hn hpn h3 hS (fun tp' sg' op' ma' hv hS' => ?_) (fun hv => ?_)
      · rw [rf_up_self] at hv hS'
        refine br_f (by decide) (nm_r (e' := nI (c % 3 ^ (n - (p + 1)))) ?_ (nm_r (nI_1 p) (ih (p + 1) tp' sg' op' ma' (by omega) (fun q hq => ?_) hS')))
        · have h9 := Nat.div_add_mod' (c % 3 ^ (n - p)) (3 ^ (n - (p + 1)))
          have h8 : c % 3 ^ (n - p) % 3 ^ (n - (p + 1)) = c % 3 ^ (n - (p + 1)) := by rw [epw, Nat.mod_mul_right_mod]
          rw [edg, h8] at h9
          rw [pk_mul, pk_sub (by omega)]
          exact congrArg nI (by omega)
        · by_cases hqp : q = p
          · rw [hqp]; exact ⟨trivial, hv⟩
          · exact hSy q (by omega)
      · rw [rf_up_self] at hv
        exact br_t rfl (kN _ _ _ _ (fun z => hv (z.1 p hpn).2))
theorem ry_o4 {post : Int32 → SY → Prop} {v1 : Int32} (hn : n ≤ 11)
    (kY : ((v1 < 0 → (post (-1000) (nI g, nI n, tp, my, be, bm, bc, wm, wb, A, hl, nu, sg, op, ma, bM))) ∧ (¬ v1 < 0 → (((v1 < nI (3 ^ n) → (∃ m, wY_scoreOf_45 post m (nI (3 ^ n)) v1 0 (nI g) (nI n) 0 my be bm bc wm wb A hl nu sg op ma bM)) ∧ (¬ v1 < nI (3 ^ n) → (post (-1000) (nI g, nI n, tp, my, be, bm, bc, wm, wb, A, hl, nu, sg, op, ma, bM)))))))) :
    ∀ t p, p + t = n → wY_scoreOf_4 post v1 (nI g) (nI n) tp my be bm bc wm wb A hl nu sg op ma bM (t + 1) (nI (3 ^ p)) (nI p) := by
  intro t
  induction t with
  | zero =>
    intro p hp
    have e : p = n := by omega
    subst e
    exact br_t (nI_le (Nat.le_refl _) (by omega)) kY
  | succ t ih =>
    intro p hp
    refine br_f (nI_ge (by omega) (by omega)) (nm_r (e' := nI (3 ^ (p + 1))) ?_ (nm_r (nI_1 p) (ih (p + 1) (by omega))))
    show nI 3 * nI (3 ^ p) = _
    rw [pk_mul, Nat.mul_comm, ← Nat.pow_succ]
theorem ry_o {post : Int32 → SY → Prop} {v1 : Int32} (hA : rf_Ba A) (hg : g ≤ 4) (hn : n ≤ 11)
    (kB : (v1 < 0 ∨ nI (3 ^ n) ≤ v1) → post (-1000) (nI g, nI n, tp, my, be, bm, bc, wm, wb, A, hl, nu, sg, op, ma, bM))
    (kY : ∀ c tp sg op ma, c < 3 ^ n → v1 = nI c → rf_ok (rf_ft A g) rf_T n c → post (rf_sc A nu n c) (nI g, nI n, tp, my, be, bm, bc, wm, wb, A, hl, nu, sg, op, ma, bM))
    (kN : ∀ c tp sg op ma, c < 3 ^ n → v1 = nI c → ¬ rf_ok (rf_ft A g) rf_T n c → post (-1000) (nI g, nI n, tp, my, be, bm, bc, wm, wb, A, hl, nu, sg, op, ma, bM)) :
    wpY_scoreOf post (nI g, nI n, tp, my, be, bm, bc, wm, wb, A, hl, nu, sg, op, ma, bM) v1 := by
  have h31 := rf_p31 hn
  refine ⟨n + 1, ry_o4 hn ?_ n 0 (by omega)⟩
  rcases pk_ix v1 (n := 3 ^ n) (by omega) with h | h | ⟨c, hc, e⟩
  · exact br_t h (kB (Or.inl h))
  · by_cases h0 : v1 < 0
    · exact br_t h0 (kB (Or.inl h0))
    · exact br_f h0 (br_f (Int32.not_lt.mpr h) (kB (Or.inr h)))
  · subst e
    refine br_f (nI_pos (by omega)) (br_t (nI_lt hc (by omega)) ⟨n + 1, ?_⟩)
    have h9 := ry_o45 (my := my) (be := be) (bm := bm) (bc := bc) (wm := wm) (wb := wb) (hl := hl) (nu := nu) (bM := bM) (post := post) hA hg hn hc (fun tp sg op ma a => kY c tp sg op ma hc rfl a) (fun tp sg op ma a => kN c tp sg op ma hc rfl a) n 0 0 sg op ma (by omega) (fun q hq => by omega) ⟨rfl, trivial, fun q hq => by omega, fun q hq => by omega⟩
    rw [Nat.sub_zero, Nat.mod_eq_of_lt hc] at h9
    exact h9
end
/-- the least code of a best fold is a fold's -/
theorem rf_ac_b {Q : Nat → Prop} {sc : Nat → Int32} (hs : ∀ c, (-1000 : Int32) < sc c) : ∀ v, 0 < (rf_ac Q sc v).1 → ∃ c0, c0 < v ∧ Q c0 ∧ (rf_ac Q sc v).2.2.2 = nI c0 := by
  intro v
  induction v with
  | zero => intro h; exact absurd h (Nat.lt_irrefl 0)
  | succ v ih =>
    by_cases hq : Q v
    · rw [rf_ac_t hq]
      intro _
      by_cases c1 : (rf_ac Q sc v).2.1 < sc v
      · rw [rf_st_t c1]
        exact ⟨v, by omega, hq, rfl⟩
      · have hp : 0 < (rf_ac Q sc v).1 := by
          by_cases m0 : (rf_ac Q sc v).1 = 0
          · rw [(rf_ac_m m0).1] at c1
            exact absurd (hs v) c1
          · omega
        obtain ⟨c0, h1, h2, h3⟩ := ih hp
        by_cases c2 : sc v = (rf_ac Q sc v).2.1
        · rw [rf_st_e c1 c2]
          exact ⟨c0, by omega, h2, h3⟩
        · rw [rf_st_n c1 c2]
          exact ⟨c0, by omega, h2, h3⟩
    · rw [rf_ac_f hq]
      intro h
      obtain ⟨c0, h1, h2, h3⟩ := ih h
      exact ⟨c0, by omega, h2, h3⟩
theorem rf_Qm1 (ft H : Nat → Nat → Prop) (n : Nat) (pj : Int32) : rf_Q ft H n (-1) pj = rf_ok ft H n :=
  funext fun _ => propext ⟨And.left, fun h => ⟨h, Or.inl rfl⟩⟩
theorem rf_Qn (ft H : Nat → Nat → Prop) (n : Nat) {i : Nat} (hi : i < 2 ^ 31) (pj : Int32) : rf_Q ft H n (nI i) pj = rf_QW ft H n (nI i) pj :=
  funext fun _ => propext ⟨fun h => ⟨h.1, h.2.resolve_left (rf_ne1 hi)⟩, fun h => ⟨h.1, Or.inr h.2⟩⟩
theorem rf_okT {ft H : Nat → Nat → Prop} {n c : Nat} (h : rf_ok ft H n c) : rf_ok ft rf_T n c :=
  ⟨fun q hq => ⟨trivial, (h.1 q hq).2⟩, h.2⟩
theorem rf_mtv {ft : Nat → Nat → Prop} {d : Nat → Nat} {n p : Nat} (F : rf_Fo ft d n) (hp : p < n) : rf_mt d n p = -1 ∨ ∃ j, j < n ∧ rf_mt d n p = nI j := by
  by_cases c1 : d p = 1
  · obtain ⟨j, _, j2, _, j4, _⟩ := rf_Fo_pr F hp c1
    exact Or.inr ⟨j, j2, j4⟩
  · by_cases c2 : d p = 2
    · obtain ⟨i, hi, e⟩ := (F p hp).2.1 c2
      exact Or.inr ⟨i, by omega, e⟩
    · exact Or.inl ((F p hp).2.2 c1 c2)
end
section
/-! the relation, and what every method owes -/
/-- gap, length, bases, holds and numbers are the same; all else is free -/
def i_Rel (_ : Nat) (u : SX) (v : SY) : Prop := ∃ (g n : Nat) (F B M C : Int32) (A hl nu dig par opn : Nat → Int32) (tp my be bm bc wm wb : Int32) (sg op ma bM : Nat → Int32),
  u = (nI g, nI n, F, B, M, C, A, hl, nu, dig, par, opn) ∧ v = (nI g, nI n, tp, my, be, bm, bc, wm, wb, A, hl, nu, sg, op, ma, bM) ∧ g ≤ 4 ∧ n ≤ 11 ∧ rf_Ba A ∧ rf_Nu nu
theorem i_up {k : Nat} {u : SX} {v : SY} (h : i_Rel k u v) : i_Rel (k + 3) u v := h
section
variable {g n : Nat} {F B M C : Int32} {dig par opn : Nat → Int32} {tp my be bm bc wm wb : Int32} {A hl nu sg op ma bM : Nat → Int32}
theorem ri_mk {k : Nat} (hg : g ≤ 4) (hn : n ≤ 11) (hA : rf_Ba A) (hN : rf_Nu nu) : i_Rel k (nI g, nI n, F, B, M, C, A, hl, nu, dig, par, opn) (nI g, nI n, tp, my, be, bm, bc, wm, wb, A, hl, nu, sg, op, ma, bM) :=
  ⟨g, n, F, B, M, C, A, hl, nu, dig, par, opn, tp, my, be, bm, bc, wm, wb, sg, op, ma, bM, rfl, rfl, hg, hn, hA, hN⟩
theorem rf_Ba_u {j x : Nat} (h : rf_Ba A) (hx : x < 4) : rf_Ba (upd A j (nI x)) := by
  intro q
  by_cases hq : q = j
  · exact ⟨x, hx, by rw [hq, pk_us]⟩
  · rw [pk_un hq]; exact h q
theorem rf_Nu_u {j x : Nat} (h : rf_Nu nu) (hx : x ≤ 20) : rf_Nu (upd nu j (nI x)) := by
  intro q
  by_cases hq : q = j
  · exact ⟨x, hx, by rw [hq, pk_us]⟩
  · rw [pk_un hq]; exact h q
theorem rf_Nu_0 : rf_Nu (upd (upd (upd (upd (upd (upd (fun _ => 0) 0 3) 1 5) 2 1) 3 2) 4 2) 5 3) :=
  rf_Nu_u (x := 3) (rf_Nu_u (x := 2) (rf_Nu_u (x := 2) (rf_Nu_u (x := 1) (rf_Nu_u (x := 5) (rf_Nu_u (x := 3) (fun _ => ⟨0, by omega, rfl⟩) (by omega)) (by omega)) (by omega)) (by omega)) (by omega)) (by omega)
theorem rx_ip0 {post : Int32 → Prop} {v : Int32} (h : v < 0 ∨ nI n ≤ v) (hp : post 0) : wpX_isPlace post (nI g, nI n, F, B, M, C, A, hl, nu, dig, par, opn) v := by
  by_cases h0 : v < 0
  · exact br_t h0 hp
  · exact br_f h0 (br_t (h.resolve_left h0) hp)
theorem rx_ip1 {post : Int32 → Prop} {i : Nat} (hn : n ≤ 11) (hi : i < n) (hp : post 1) : wpX_isPlace post (nI g, nI n, F, B, M, C, A, hl, nu, dig, par, opn) (nI i) :=
  br_f (nI_pos (by omega)) (br_f (nI_ge hi (by omega)) hp)
theorem ry_b1 {post : Int32 → Prop} {v : Int32} (h : v < 0 ∨ nI n ≤ v) (hp : post 1) : wpY_bad post (nI g, nI n, tp, my, be, bm, bc, wm, wb, A, hl, nu, sg, op, ma, bM) v := by
  by_cases h0 : v < 0
  · exact br_t h0 hp
  · exact br_f h0 (br_t (h.resolve_left h0) hp)
theorem ry_b0 {post : Int32 → Prop} {i : Nat} (hn : n ≤ 11) (hi : i < n) (hp : post 0) : wpY_bad post (nI g, nI n, tp, my, be, bm, bc, wm, wb, A, hl, nu, sg, op, ma, bM) (nI i) :=
  br_f (nI_pos (by omega)) (br_f (nI_ge hi (by omega)) (br_t (nI_le (b := 10) (by omega) (by omega)) hp))
theorem rf_ix (v : Int32) (n : Nat) (hn : n < 2 ^ 31) : (v < 0 ∨ nI n ≤ v) ∨ ∃ j, j < n ∧ v = nI j := by
  rcases pk_ix v hn with h | h | h
  · exact Or.inl (Or.inl h)
  · exact Or.inl (Or.inr h)
  · exact Or.inr h
/-- a number is below 0, above b, or 0 .. b -/
theorem rf_rg (v : Int32) (b : Nat) (hb : b < 2 ^ 30) : v < 0 ∨ (¬ v < 0 ∧ ¬ v ≤ nI b) ∨ ∃ x, x ≤ b ∧ v = nI x := by
  by_cases h0 : v < 0
  · exact Or.inl h0
  · obtain ⟨j, hj, rfl⟩ := nI_of h0
    by_cases h1 : j ≤ b
    · exact Or.inr (Or.inr ⟨j, h1, rfl⟩)
    · exact Or.inr (Or.inl ⟨h0, nI_ge (by omega) hj⟩)
theorem rx_ib1 {post : Int32 → Prop} {x : Nat} (hx : x ≤ 3) (hp : post 1) : wpX_isBase post (nI x) :=
  br_f (nI_pos (by omega)) (br_f (nI_nlt (a := 3) (by omega) (by omega)) hp)
theorem rx_ib0 {post : Int32 → Prop} {v : Int32} (h0 : ¬ v < 0) (h : ¬ v ≤ nI 3) (hp : post 0) : wpX_isBase post v :=
  br_f h0 (br_t (Int32.not_le.mp h) hp)
end
theorem i_vc0 (k0 : Int32) : wpX_init (fun u => wpY_init (fun v => i_Rel 1 u v) k0) k0 := by
  rcases rf_rg k0 4 (by omega) with h | ⟨h0, h4⟩ | ⟨x, hx, rfl⟩
  · have h0 : ¬ 0 ≤ k0 := Int32.not_le.mpr h
    refine br_f h0 (nm_e (nm_e (nm_e (nm_e (nm_e (nm_e ?_))))))
    refine br_f h0 (nm_e (nm_e (nm_e (nm_e (nm_e (nm_e ?_))))))
    exact ri_mk (g := 0) (n := 0) (by omega) (by omega) (fun _ => ⟨0, by omega, rfl⟩) rf_Nu_0
  · have h0' : 0 ≤ k0 := Int32.not_lt.mp h0
    have h4' : ¬ k0 ≤ 4 := h4
    refine br_t h0' (br_f h4' (nm_e (nm_e (nm_e (nm_e (nm_e (nm_e ?_)))))))
    refine br_t h0' (br_f h4' (nm_e (nm_e (nm_e (nm_e (nm_e (nm_e ?_)))))))
    exact ri_mk (g := 4) (n := 0) (by omega) (by omega) (fun _ => ⟨0, by omega, rfl⟩) rf_Nu_0
  · have h0' : 0 ≤ nI x := nI_pos' (by omega)
    have h4' : nI x ≤ 4 := nI_le (b := 4) hx (by omega)
    refine br_t h0' (br_t h4' (nm_e (nm_e (nm_e (nm_e (nm_e (nm_e ?_)))))))
    refine br_t h0' (br_t h4' (nm_e (nm_e (nm_e (nm_e (nm_e (nm_e ?_)))))))
    exact ri_mk (g := x) (n := 0) (by omega) (by omega) (fun _ => ⟨0, by omega, rfl⟩) rf_Nu_0
end
section
/-! push, pop, set, hold, tune, length, fits -/
theorem i_vc_push {k : Nat} {u : SX} {v : SY} (I : i_Rel k u v) (hk : k + 3 ≤ 1537) (v1 : Int32) : wpX_push (fun r u' => wpY_push (fun r' v' => r' = r ∧ i_Rel (k + 3) u' v') v v1) u v1 := by
  have J := I
  obtain ⟨g, n, F, B, M, C, A, hl, nu, dig, par, opn, tp, my, be, bm, bc, wm, wb, sg, op, ma, bM, rfl, rfl, hg, hn, hA, hN⟩ := I
  unfold wpX_push
  rcases rf_rg v1 3 (by omega) with h | ⟨h0, h3⟩ | ⟨x, hx, rfl⟩
  · refine br_t h (br_t rfl ?_)
    exact br_t h ⟨rfl, J⟩
  · refine rx_ib0 h0 h3 (br_t rfl ?_)
    exact br_f h0 (br_f h3 ⟨rfl, J⟩)
  · refine rx_ib1 hx (br_f (by decide) ?_)
    have y0 : ¬ nI x < 0 := nI_pos (by omega)
    have y3 : nI x ≤ 3 := nI_le (b := 3) hx (by omega)
    by_cases hs : n < 11
    · have ec : (nI n).toNatClampNeg = n := nI_clamp (by omega)
      have vp : vp_in (nI n) 11 := vp_in_nI hs (by omega)
      refine br_t (nI_lt (b := 11) hs (by omega)) ⟨vp, nm_e ⟨vp, nm_e (nm_r (nI_1 n) ?_)⟩⟩
      refine br_f y0 (br_t y3 (br_t (nI_le (b := 10) (by omega) (by omega)) ⟨vp, nm_e ⟨vp, nm_e (nm_r (nI_1 n) ⟨rfl, ?_⟩)⟩⟩))
      exact ri_mk hg (by omega) (rf_Ba_u hA (by omega)) hN
    · have e : n = 11 := by omega
      subst e
      exact br_f (by decide) (br_f y0 (br_t y3 (br_f (by decide) ⟨rfl, J⟩)))
theorem i_vc_pop {k : Nat} {u : SX} {v : SY} (I : i_Rel k u v) (hk : k + 3 ≤ 1537) : wpX_pop (fun r u' => wpY_pop (fun r' v' => r' = r ∧ i_Rel (k + 3) u' v') v) u := by
  have J := I
  obtain ⟨g, n, F, B, M, C, A, hl, nu, dig, par, opn, tp, my, be, bm, bc, wm, wb, sg, op, ma, bM, rfl, rfl, hg, hn, hA, hN⟩ := I
  cases n with
  | zero => exact br_f (by decide) (br_t rfl ⟨rfl, J⟩)
  | succ n =>
    have vp : vp_in (nI n) 11 := vp_in_nI (by omega) (by omega)
    refine br_t (nI_lt (a := 0) (by omega) (by omega)) (nm_r (nI_pred n) ⟨vp, ?_⟩)
    exact br_f (nI_ne0 (by omega) (by omega)) (nm_r (nI_pred n) ⟨vp, rfl, ri_mk hg (by omega) hA hN⟩)
theorem i_vc_set {k : Nat} {u : SX} {v : SY} (I : i_Rel k u v) (hk : k + 3 ≤ 1537) (v1 : Int32) (v2 : Int32) : wpX_set (fun r u' => wpY_set (fun r' v' => r' = r ∧ i_Rel (k + 3) u' v') v v1 v2) u v1 v2 := by
  have J := I
  obtain ⟨g, n, F, B, M, C, A, hl, nu, dig, par, opn, tp, my, be, bm, bc, wm, wb, sg, op, ma, bM, rfl, rfl, hg, hn, hA, hN⟩ := I
  unfold wpX_set
  rcases rf_ix v1 n (by omega) with h | ⟨i, hi, rfl⟩
  · refine rx_ip0 h (br_t rfl ?_)
    unfold wpY_set
    exact ry_b1 h (br_f (by decide) ⟨rfl, J⟩)
  · refine rx_ip1 hn hi (br_f (by decide) ?_)
    have vp : vp_in (nI i) 11 := vp_in_nI (by omega) (by omega)
    rcases rf_rg v2 3 (by omega) with h | ⟨h0, h3⟩ | ⟨x, hx, rfl⟩
    · refine br_t h (br_t rfl ?_)
      unfold wpY_set
      exact ry_b0 hn hi (br_t rfl (br_t h ⟨rfl, J⟩))
    · refine rx_ib0 h0 h3 (br_t rfl ?_)
      unfold wpY_set
      exact ry_b0 hn hi (br_t rfl (br_f h0 (br_f h3 ⟨rfl, J⟩)))
    · refine rx_ib1 hx (br_f (by decide) ⟨vp, nm_e ⟨vp, nm_e ?_⟩⟩)
      unfold wpY_set
      refine ry_b0 hn hi (br_t rfl (br_f (nI_pos (by omega)) (br_t (nI_le (b := 3) hx (by omega)) ⟨vp, nm_e ⟨vp, nm_e ⟨rfl, ?_⟩⟩⟩)))
      exact ri_mk hg hn (rf_Ba_u hA (by omega)) hN
theorem i_vc_hold {k : Nat} {u : SX} {v : SY} (I : i_Rel k u v) (hk : k + 3 ≤ 1537) (v1 : Int32) (v2 : Int32) : wpX_hold (fun r u' => wpY_hold (fun r' v' => r' = r ∧ i_Rel (k + 3) u' v') v v1 v2) u v1 v2 := by
  have J := I
  obtain ⟨g, n, F, B, M, C, A, hl, nu, dig, par, opn, tp, my, be, bm, bc, wm, wb, sg, op, ma, bM, rfl, rfl, hg, hn, hA, hN⟩ := I
  unfold wpX_hold
  rcases rf_ix v1 n (by omega) with h | ⟨i, hi, rfl⟩
  · refine rx_ip0 h (br_t rfl ?_)
    unfold wpY_hold
    exact ry_b1 h (br_f (by decide) ⟨rfl, J⟩)
  · refine rx_ip1 hn hi (br_f (by decide) ?_)
    have vp : vp_in (nI i) 11 := vp_in_nI (by omega) (by omega)
    by_cases h0 : v2 < 0
    · refine br_t h0 ?_
      unfold wpY_hold
      exact ry_b0 hn hi (br_t rfl (br_t h0 ⟨rfl, J⟩))
    · refine br_f h0 ?_
      by_cases h3 : v2 ≤ 3
      · refine br_t h3 ⟨vp, nm_e ⟨vp, nm_e ?_⟩⟩
        unfold wpY_hold
        exact ry_b0 hn hi (br_t rfl (br_f h0 (br_t h3 ⟨vp, nm_e ⟨vp, nm_e ⟨rfl, ri_mk hg hn hA hN⟩⟩⟩)))
      · refine br_f h3 ?_
        unfold wpY_hold
        exact ry_b0 hn hi (br_t rfl (br_f h0 (br_f h3 ⟨rfl, J⟩)))
theorem i_vc_tune {k : Nat} {u : SX} {v : SY} (I : i_Rel k u v) (hk : k + 3 ≤ 1537) (v1 : Int32) (v2 : Int32) : wpX_tune (fun r u' => wpY_tune (fun r' v' => r' = r ∧ i_Rel (k + 3) u' v') v v1 v2) u v1 v2 := by
  have J := I
  obtain ⟨g, n, F, B, M, C, A, hl, nu, dig, par, opn, tp, my, be, bm, bc, wm, wb, sg, op, ma, bM, rfl, rfl, hg, hn, hA, hN⟩ := I
  rcases rf_rg v1 5 (by omega) with h | ⟨h0, h5⟩ | ⟨i, hi, rfl⟩
  · exact br_t h (br_t h ⟨rfl, J⟩)
  · have h6 : ¬ v1 < 6 := by
      intro z
      obtain ⟨j, hj, rfl⟩ := nI_of h0
      have z2 := (nI_ltI (b := 6) hj (by omega)).mp z
      exact h5 (nI_le (by omega) (by omega))
    exact br_f h0 (br_f h6 (br_f h0 (br_f h5 ⟨rfl, J⟩)))
  · have y0 : ¬ nI i < 0 := nI_pos (by omega)
    have y6 : nI i < 6 := nI_lt (b := 6) (by omega) (by omega)
    have y5 : nI i ≤ 5 := nI_le (b := 5) hi (by omega)
    have vp : vp_in (nI i) 6 := vp_in_nI (by omega) (by omega)
    rcases rf_rg v2 20 (by omega) with h | ⟨h0, h3⟩ | ⟨x, hx, rfl⟩
    · exact br_f y0 (br_t y6 (br_t h (br_f y0 (br_t y5 (br_t h ⟨rfl, J⟩)))))
    · exact br_f y0 (br_t y6 (br_f h0 (br_f h3 (br_f y0 (br_t y5 (br_f h0 (br_f h3 ⟨rfl, J⟩)))))))
    · have x0 : ¬ nI x < 0 := nI_pos (by omega)
      have x3 : nI x ≤ 20 := nI_le (b := 20) hx (by omega)
      refine br_f y0 (br_t y6 (br_f x0 (br_t x3 ⟨vp, nm_e ⟨vp, nm_e ?_⟩⟩)))
      exact br_f y0 (br_t y5 (br_f x0 (br_t x3 ⟨vp, nm_e ⟨vp, nm_e ⟨rfl, ri_mk hg hn hA (rf_Nu_u hN hx)⟩⟩⟩)))
theorem i_vc_length {k : Nat} {u : SX} {v : SY} (I : i_Rel k u v) (hk : k + 3 ≤ 1537) : wpX_length (fun r => wpY_length (fun r' => r' = r ∧ i_Rel (k + 3) u v) v) u := by
  have J := I
  obtain ⟨g, n, F, B, M, C, A, hl, nu, dig, par, opn, tp, my, be, bm, bc, wm, wb, sg, op, ma, bM, rfl, rfl, hg, hn, hA, hN⟩ := I
  exact ⟨rfl, J⟩
theorem i_vc_fits {k : Nat} {u : SX} {v : SY} (I : i_Rel k u v) (hk : k + 3 ≤ 1537) (v1 : Int32) (v2 : Int32) : wpX_fits (fun r => wpY_fits (fun r' => r' = r ∧ i_Rel (k + 3) u v) v v1 v2) u v1 v2 := by
  have J := I
  obtain ⟨g, n, F, B, M, C, A, hl, nu, dig, par, opn, tp, my, be, bm, bc, wm, wb, sg, op, ma, bM, rfl, rfl, hg, hn, hA, hN⟩ := I
  unfold wpX_fits
  rcases rf_ix v1 n (by omega) with h | ⟨i, hi, rfl⟩
  · refine rx_ip0 h (br_t rfl ?_)
    unfold wpY_fits
    exact ry_b1 h (br_f (by decide) ⟨rfl, J⟩)
  · refine rx_ip1 hn hi (br_f (by decide) ?_)
    rcases rf_ix v2 n (by omega) with h | ⟨j, hj, rfl⟩
    · refine rx_ip0 h (br_t rfl ?_)
      unfold wpY_fits
      exact ry_b0 hn hi (br_t rfl (ry_b1 h (br_f (by decide) ⟨rfl, J⟩)))
    · refine rx_ip1 hn hj (br_f (by decide) ?_)
      refine rx_c hA hg (by omega) (by omega) (fun hf => br_f (by decide) ?_) (fun hf => br_t rfl ?_)
      · unfold wpY_fits
        refine ry_b0 hn hi (br_t rfl (ry_b0 hn hj (br_t rfl ?_)))
        exact ry_c hA hg (by omega) (by omega) (fun _ => br_f (by decide) ⟨rfl, J⟩) (fun z => absurd hf z)
      · unfold wpY_fits
        refine ry_b0 hn hi (br_t rfl (ry_b0 hn hj (br_t rfl ?_)))
        exact ry_c hA hg (by omega) (by omega) (fun z => absurd z hf) (fun _ => br_t rfl ⟨rfl, J⟩)
end
section
/-! the questions -/
theorem i_vc_folds {k : Nat} {u : SX} {v : SY} (I : i_Rel k u v) (hk : k + 3 ≤ 1537) : wpX_folds (fun r u' => wpY_folds (fun r' v' => r' = r ∧ i_Rel (k + 3) u' v') v) u := by
  obtain ⟨g, n, F, B, M, C, A, hl, nu, dig, par, opn, tp, my, be, bm, bc, wm, wb, sg, op, ma, bM, rfl, rfl, hg, hn, hA, hN⟩ := I
  unfold wpX_folds
  refine rx_v hA hg hn (Or.inl rfl) (fun dig par opn => ?_)
  rw [rf_Qm1]
  unfold wpY_folds
  refine ry_e hA hN hg hn (Or.inl (by decide)) (fun tp my be bm bc wm wb sg op ma bM hB hW => ?_)
  exact ⟨hB.1, ri_mk hg hn hA hN⟩
theorem i_vc_best {k : Nat} {u : SX} {v : SY} (I : i_Rel k u v) (hk : k + 3 ≤ 1537) : wpX_best (fun r u' => wpY_best (fun r' v' => r' = r ∧ i_Rel (k + 3) u' v') v) u := by
  obtain ⟨g, n, F, B, M, C, A, hl, nu, dig, par, opn, tp, my, be, bm, bc, wm, wb, sg, op, ma, bM, rfl, rfl, hg, hn, hA, hN⟩ := I
  have h31 := rf_p31 hn
  unfold wpX_best
  refine rx_v hA hg hn (Or.inl rfl) (fun dig par opn => ?_)
  rw [rf_Qm1]
  unfold wpY_best
  refine ry_e hA hN hg hn (Or.inl (by decide)) (fun tp my be bm bc wm wb sg op ma bM hB hW => ?_)
  have hle := rf_ac_le (rf_ok (rf_ft A g) (rf_H hl) n) (rf_sc A nu n) (3 ^ n)
  by_cases m0 : (rf_ac (rf_ok (rf_ft A g) (rf_H hl) n) (rf_sc A nu n) (3 ^ n)).1 = 0
  · exact br_t (by rw [hB.1, m0]; rfl) ⟨(rf_ac_m m0).1.symm, ri_mk hg hn hA hN⟩
  · exact br_f (by rw [hB.1]; exact nI_ne0 (by omega) (by omega)) ⟨(hB.2.2 (by omega)).1, ri_mk hg hn hA hN⟩
theorem i_vc_bestFolds {k : Nat} {u : SX} {v : SY} (I : i_Rel k u v) (hk : k + 3 ≤ 1537) : wpX_bestFolds (fun r u' => wpY_bestFolds (fun r' v' => r' = r ∧ i_Rel (k + 3) u' v') v) u := by
  obtain ⟨g, n, F, B, M, C, A, hl, nu, dig, par, opn, tp, my, be, bm, bc, wm, wb, sg, op, ma, bM, rfl, rfl, hg, hn, hA, hN⟩ := I
  unfold wpX_bestFolds
  refine rx_v hA hg hn (Or.inl rfl) (fun dig par opn => ?_)
  rw [rf_Qm1]
  unfold wpY_bestFolds
  refine ry_e hA hN hg hn (Or.inl (by decide)) (fun tp my be bm bc wm wb sg op ma bM hB hW => ?_)
  exact ⟨hB.2.1, ri_mk hg hn hA hN⟩
theorem i_vc_bestCode {k : Nat} {u : SX} {v : SY} (I : i_Rel k u v) (hk : k + 3 ≤ 1537) : wpX_bestCode (fun r u' => wpY_bestCode (fun r' v' => r' = r ∧ i_Rel (k + 3) u' v') v) u := by
  obtain ⟨g, n, F, B, M, C, A, hl, nu, dig, par, opn, tp, my, be, bm, bc, wm, wb, sg, op, ma, bM, rfl, rfl, hg, hn, hA, hN⟩ := I
  have h31 := rf_p31 hn
  unfold wpX_bestCode
  refine rx_v hA hg hn (Or.inl rfl) (fun dig par opn => ?_)
  rw [rf_Qm1]
  unfold wpY_bestCode
  refine ry_e hA hN hg hn (Or.inl (by decide)) (fun tp my be bm bc wm wb sg op ma bM hB hW => ?_)
  have hle := rf_ac_le (rf_ok (rf_ft A g) (rf_H hl) n) (rf_sc A nu n) (3 ^ n)
  by_cases m0 : (rf_ac (rf_ok (rf_ft A g) (rf_H hl) n) (rf_sc A nu n) (3 ^ n)).1 = 0
  · exact br_t (by rw [hB.1, m0]; rfl) ⟨(rf_ac_m m0).2.2.symm, ri_mk hg hn hA hN⟩
  · exact br_f (by rw [hB.1]; exact nI_ne0 (by omega) (by omega)) ⟨(hB.2.2 (by omega)).2.1, ri_mk hg hn hA hN⟩
theorem i_vc_bestWith {k : Nat} {u : SX} {v : SY} (I : i_Rel k u v) (hk : k + 3 ≤ 1537) (v1 : Int32) (v2 : Int32) : wpX_bestWith (fun r u' => wpY_bestWith (fun r' v' => r' = r ∧ i_Rel (k + 3) u' v') v v1 v2) u v1 v2 := by
  have J := I
  obtain ⟨g, n, F, B, M, C, A, hl, nu, dig, par, opn, tp, my, be, bm, bc, wm, wb, sg, op, ma, bM, rfl, rfl, hg, hn, hA, hN⟩ := I
  have h31 := rf_p31 hn
  unfold wpX_bestWith
  rcases rf_ix v1 n (by omega) with h | ⟨i, hi, rfl⟩
  · refine rx_ip0 h (br_t rfl ?_)
    unfold wpY_bestWith
    exact ry_b1 h (br_f (by decide) ⟨rfl, J⟩)
  · refine rx_ip1 hn hi (br_f (by decide) ?_)
    rcases rf_ix v2 n (by omega) with h | ⟨j, hj, rfl⟩
    · refine rx_ip0 h (br_t rfl ?_)
      unfold wpY_bestWith
      exact ry_b0 hn hi (br_t rfl (ry_b1 h (br_f (by decide) ⟨rfl, J⟩)))
    · refine rx_ip1 hn hj (br_f (by decide) ?_)
      refine rx_v hA hg hn (Or.inr ⟨i, hi, rfl⟩) (fun dig par opn => ?_)
      rw [rf_Qn _ _ _ (by omega)]
      unfold wpY_bestWith
      refine ry_b0 hn hi (br_t rfl (ry_b0 hn hj (br_t rfl ?_)))
      refine ry_e hA hN hg hn (Or.inr ⟨i, hi, rfl⟩) (fun tp my be bm bc wm wb sg op ma bM hB hW => ?_)
      have hle := rf_ac_le (rf_QW (rf_ft A g) (rf_H hl) n (nI i) (nI j)) (rf_sc A nu n) (3 ^ n)
      by_cases m0 : (rf_ac (rf_QW (rf_ft A g) (rf_H hl) n (nI i) (nI j)) (rf_sc A nu n) (3 ^ n)).1 = 0
      · exact br_t (by rw [hW.1, m0]; rfl) ⟨(rf_ac_m m0).1.symm, ri_mk hg hn hA hN⟩
      · exact br_f (by rw [hW.1]; exact nI_ne0 (by omega) (by omega)) ⟨hW.2 (by omega), ri_mk hg hn hA hN⟩
theorem i_vc_foldsWith {k : Nat} {u : SX} {v : SY} (I : i_Rel k u v) (hk : k + 3 ≤ 1537) (v1 : Int32) (v2 : Int32) : wpX_foldsWith (fun r u' => wpY_foldsWith (fun r' v' => r' = r ∧ i_Rel (k + 3) u' v') v v1 v2) u v1 v2 := by
  have J := I
  obtain ⟨g, n, F, B, M, C, A, hl, nu, dig, par, opn, tp, my, be, bm, bc, wm, wb, sg, op, ma, bM, rfl, rfl, hg, hn, hA, hN⟩ := I
  unfold wpX_foldsWith
  rcases rf_ix v1 n (by omega) with h | ⟨i, hi, rfl⟩
  · refine rx_ip0 h (br_t rfl ?_)
    unfold wpY_foldsWith
    exact ry_b1 h (br_f (by decide) ⟨rfl, J⟩)
  · refine rx_ip1 hn hi (br_f (by decide) ?_)
    rcases rf_ix v2 n (by omega) with h | ⟨j, hj, rfl⟩
    · refine rx_ip0 h (br_t rfl ?_)
      unfold wpY_foldsWith
      exact ry_b0 hn hi (br_t rfl (ry_b1 h (br_f (by decide) ⟨rfl, J⟩)))
    · refine rx_ip1 hn hj (br_f (by decide) ?_)
      refine rx_v hA hg hn (Or.inr ⟨i, hi, rfl⟩) (fun dig par opn => ?_)
      rw [rf_Qn _ _ _ (by omega)]
      unfold wpY_foldsWith
      refine ry_b0 hn hi (br_t rfl (ry_b0 hn hj (br_t rfl ?_)))
      refine ry_e hA hN hg hn (Or.inr ⟨i, hi, rfl⟩) (fun tp my be bm bc wm wb sg op ma bM hB hW => ?_)
      exact ⟨hW.1, ri_mk hg hn hA hN⟩
theorem i_vc_partner {k : Nat} {u : SX} {v : SY} (I : i_Rel k u v) (hk : k + 3 ≤ 1537) (v1 : Int32) : wpX_partner (fun r u' => wpY_partner (fun r' v' => r' = r ∧ i_Rel (k + 3) u' v') v v1) u v1 := by
  have J := I
  obtain ⟨g, n, F, B, M, C, A, hl, nu, dig, par, opn, tp, my, be, bm, bc, wm, wb, sg, op, ma, bM, rfl, rfl, hg, hn, hA, hN⟩ := I
  have h31 := rf_p31 hn
  have hle := rf_ac_le (rf_ok (rf_ft A g) (rf_H hl) n) (rf_sc A nu n) (3 ^ n)
  unfold wpX_partner
  rcases rf_ix v1 n (by omega) with h | ⟨i, hi, rfl⟩
  · refine rx_ip0 h (br_t rfl ?_)
    unfold wpY_partner
    exact ry_b1 h (br_f (by decide) ⟨rfl, J⟩)
  · have ec : (nI i).toNatClampNeg = i := nI_clamp (by omega)
    have vp : vp_in (nI i) 11 := vp_in_nI (by omega) (by omega)
    have vp2 : vp_in (nI i) 12 := vp_in_nI (by omega) (by omega)
    refine rx_ip1 hn hi (br_f (by decide) ?_)
    refine rx_v hA hg hn (Or.inl rfl) (fun dig par opn => ?_)
    rw [rf_Qm1]
    by_cases m0 : (rf_ac (rf_ok (rf_ft A g) (rf_H hl) n) (rf_sc A nu n) (3 ^ n)).1 = 0
    · refine br_t (rf_ac_m m0).2.2 ?_
      unfold wpY_partner
      refine ry_b0 hn hi (br_t rfl ?_)
      refine ry_e hA hN hg hn (Or.inl (by decide)) (fun tp my be bm bc wm wb sg op ma bM hB hW => ?_)
      exact br_t (by rw [hB.1, m0]; rfl) ⟨rfl, ri_mk hg hn hA hN⟩
    · obtain ⟨c0, hc0, hok, e0⟩ := rf_ac_b (Q := rf_ok (rf_ft A g) (rf_H hl) n) (sc := rf_sc A nu n) (fun c => rf_sc_b hN hn) (3 ^ n) (by omega)
      refine br_f (by rw [e0]; exact rf_ne1 (by omega)) ?_
      have hokT := rf_okT hok
      have hFo := rf_Fo_of hok.1 hok.2
      have hY : ∀ (r : Int32) (u' : SX), (∀ bM : Nat → Int32, bM i = rf_mt (rf_dg n c0) n i → (((0 : Int32) ≤ bM i → r = bM i) ∧ (¬ (0 : Int32) ≤ bM i → r = -2))) → (∀ tp my be bm bc wm wb sg op ma bM, i_Rel (k + 3) u' (nI g, nI n, tp, my, be, bm, bc, wm, wb, A, hl, nu, sg, op, ma, bM)) → wpY_partner (fun r' v' => r' = r ∧ i_Rel (k + 3) u' v') (nI g, nI n, tp, my, be, bm, bc, wm, wb, A, hl, nu, sg, op, ma, bM) (nI i) := by
        intro r u' h1 h2
        unfold wpY_partner
        refine ry_b0 hn hi (br_t rfl ?_)
        refine ry_e hA hN hg hn (Or.inl (by decide)) (fun tp my be bm bc wm wb sg op ma bM hB hW => ?_)
        obtain ⟨_, _, c1, hc1, hok1, e1, hbm⟩ := hB.2.2 (by omega)
        have e2 : c1 = c0 := (nI_eq (by omega) (by omega)).mp (e1.symm.trans e0)
        rw [e2] at hbm
        have h3 := h1 bM (hbm i hi)
        refine br_f (by rw [hB.1]; exact nI_ne0 (by omega) (by omega)) ⟨vp2, ?_⟩
        rw [ec]
        by_cases z : (0 : Int32) ≤ bM i
        · exact br_t z ⟨vp2, (h3.1 z).symm, h2 _ _ _ _ _ _ _ _ _ _ _⟩
        · exact br_f z ⟨(h3.2 z).symm, h2 _ _ _ _ _ _ _ _ _ _ _⟩
      rw [e0]
      refine rx_f (H := rf_T) hA hg hn hc0 (Or.inl ⟨rfl, fun _ _ => trivial⟩) (fun dig par opn hd hok' hpar => ⟨vp, ?_⟩) (fun s dig par opn hfs => (rf_fs_nok hfs hokT).elim)
      rw [ec, hpar i hi]
      rcases rf_mtv hFo hi with hm | ⟨j, hj, hm⟩
      · rw [hm]
        refine br_t rfl (hY _ _ (fun bM hb => ?_) (fun _ _ _ _ _ _ _ _ _ _ _ => ri_mk hg hn hA hN))
        rw [hb, hm]
        exact br_f (by decide) rfl
      · rw [hm]
        refine br_f (rf_ne1 (by omega)) ⟨vp, hY _ _ (fun bM hb => ?_) (fun _ _ _ _ _ _ _ _ _ _ _ => ri_mk hg hn hA hN)⟩
        rw [hb, hm]
        exact br_t (nI_pos' (by omega)) rfl
end
section
theorem i_vc_scoreOf {k : Nat} {u : SX} {v : SY} (I : i_Rel k u v) (hk : k + 3 ≤ 1537) (v1 : Int32) : wpX_scoreOf (fun r u' => wpY_scoreOf (fun r' v' => r' = r ∧ i_Rel (k + 3) u' v') v v1) u v1 := by
  have J := I
  obtain ⟨g, n, F, B, M, C, A, hl, nu, dig, par, opn, tp, my, be, bm, bc, wm, wb, sg, op, ma, bM, rfl, rfl, hg, hn, hA, hN⟩ := I
  have h31 := rf_p31 hn
  have hbad : ∀ v1 : Int32, (v1 < 0 ∨ nI (3 ^ n) ≤ v1) → wpY_scoreOf (fun r' v' => r' = -1000 ∧ i_Rel (k + 3) (nI g, nI n, F, B, M, C, A, hl, nu, dig, par, opn) v') (nI g, nI n, tp, my, be, bm, bc, wm, wb, A, hl, nu, sg, op, ma, bM) v1 := by
    intro v1 h
    have hno : ∀ c, c < 3 ^ n → v1 = nI c → False := by
      intro c hc e
      rcases h with h | h
      · rw [e] at h; exact nI_pos (by omega) h
      · rw [e] at h; exact nI_ge hc (by omega) h
    exact ry_o hA hg hn (fun _ => ⟨rfl, J⟩) (fun c _ _ _ _ hc e _ => (hno c hc e).elim) (fun c _ _ _ _ hc e _ => (hno c hc e).elim)
  rcases pk_ix v1 (n := 3 ^ n) (by omega) with h | h | ⟨c, hc, rfl⟩
  · exact br_t h (hbad v1 (Or.inl h))
  · by_cases h0 : v1 < 0
    · exact br_t h0 (hbad v1 (Or.inl h0))
    · refine br_f h0 (rx_t hn ?_)
      exact br_f (Int32.not_lt.mpr h) (hbad v1 (Or.inr h))
  · have hun : ∀ c', c' < 3 ^ n → nI c = nI c' → c' = c := fun c' hc' e => ((nI_eq (by omega) (by omega)).mp e).symm
    have hnb : ¬ (nI c < 0 ∨ nI (3 ^ n) ≤ nI c) := by
      intro z
      rcases z with z | z
      · exact nI_pos (by omega) z
      · exact nI_ge hc (by omega) z
    refine br_f (nI_pos (by omega)) (rx_t hn ?_)
    refine br_t (nI_lt hc (by omega)) ?_
    refine rx_f (H := rf_T) hA hg hn hc (Or.inl ⟨rfl, fun _ _ => trivial⟩) (fun dig par opn hd hok hpar => ?_) (fun s dig par opn hfs => ?_)
    · refine br_t rfl ?_
      refine rx_s hA (rf_Fo_of hok.1 hok.2) hn hd (rf_dg3 n c) hpar ?_
      refine ry_o hA hg hn (fun z => (hnb z).elim) (fun c' _ _ _ _ hc' e _ => ?_) (fun c' _ _ _ _ hc' e hno => ?_)
      · rw [hun c' hc' e]
        exact ⟨rfl, ri_mk hg hn hA hN⟩
      · rw [hun c' hc' e] at hno
        exact (hno hok).elim
    · have hs := hfs.1
      refine br_f (fun z => ?_) ?_
      · have z2 := (nI_eq (by omega) (by omega)).mp z
        omega
      · refine ry_o hA hg hn (fun z => (hnb z).elim) (fun c' _ _ _ _ hc' e hok => ?_) (fun c' _ _ _ _ hc' e hno => ⟨rfl, ri_mk hg hn hA hN⟩)
        rw [hun c' hc' e] at hok
        exact (rf_fs_nok hfs hok).elim
end
