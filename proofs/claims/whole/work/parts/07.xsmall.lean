/-! the component: kinds, fitting, powers, digits -/
theorem rf_ne1 {a : Nat} (h : a < 2 ^ 31) : ¬ nI a = -1 := by
  intro e
  have e2 := congrArg Int32.toInt e
  rw [nI_toInt h, show (-1 : Int32).toInt = -1 from by decide] at e2
  omega
theorem rf_gapc {g i j : Nat} (hg : g < 2 ^ 30) (hi : i < 2 ^ 30) (hj : j < 2 ^ 30) : (nI j - nI i ≤ nI g) ↔ ¬ (g + i < j) := by
  rw [Int32.le_iff_toInt_le, pk_sub_toInt hj hi, nI_toInt (by omega)]
  omega
def rf_kI (k : Nat) : Int32 := if k = 3 then -1 else nI k
theorem rf_kI3 {k : Nat} (h : k = 3) : rf_kI k = -1 := if_pos h
theorem rf_kIn {k : Nat} (h : k ≠ 3) : rf_kI k = nI k := if_neg h
theorem rx_k {post : Int32 → Prop} {x y : Nat} (hx : x < 4) (hy : y < 4) (hp : post (rf_kI (rf_kd x y))) : wpX_kindOf post (nI x) (nI y) := by
  have hx' : x = 0 ∨ x = 1 ∨ x = 2 ∨ x = 3 := by omega
  have hy' : y = 0 ∨ y = 1 ∨ y = 2 ∨ y = 3 := by omega
  rcases hx' with rfl | rfl | rfl | rfl <;> rcases hy' with rfl | rfl | rfl | rfl <;>
    simpa [wpX_kindOf, wX_kindOf_10, wX_kindOf_21, wX_kindOf_33, wX_kindOf_45, rf_kI, rf_kd, nI] using hp
section
variable {g n : Nat} {F B M C : Int32} {A hl nu dig par opn : Nat → Int32}
def rf_Ba (A : Nat → Int32) : Prop := ∀ q, ∃ x, x < 4 ∧ A q = nI x
theorem rx_c {post : Int32 → Prop} {i j : Nat} (hA : rf_Ba A) (hg : g ≤ 4) (hi : i < 11) (hj : j < 11) (h1 : rf_ft A g i j → post 1) (h0 : ¬ rf_ft A g i j → post 0) : wpX_canPair post (nI g, nI n, F, B, M, C, A, hl, nu, dig, par, opn) (nI i) (nI j) := by
  have hc := rf_gapc (g := g) (i := i) (j := j) (by omega) (by omega) (by omega)
  by_cases hgap : g + i < j
  · refine br_f (fun z => hc.mp z hgap) ⟨vp_in_nI hi (by omega), vp_in_nI hj (by omega), ?_⟩
    obtain ⟨x, hx, ex⟩ := hA i
    obtain ⟨y, hy, ey⟩ := hA j
    have e1 : (A i).toNatClampNeg = x := by rw [ex]; exact nI_clamp (by omega)
    have e2 : (A j).toNatClampNeg = y := by rw [ey]; exact nI_clamp (by omega)
    rw [nI_clamp (n := i) (by omega), nI_clamp (n := j) (by omega), ex, ey]
    refine rx_k hx hy ?_
    by_cases hk : rf_kd x y = 3
    · refine br_t (rf_kI3 hk) (h0 (fun z => z.2 ?_))
      rw [e1, e2]; exact hk
    · have h9 := rf_kd3 x y
      refine br_f (by rw [rf_kIn hk]; exact rf_ne1 (by omega)) (h1 ⟨hgap, ?_⟩)
      rw [e1, e2]; exact hk
  · exact br_t (hc.mpr hgap) (h0 (fun z => hgap z.1))
theorem rx_tl {post : Int32 → Prop} {k : Nat} (hk : k ≤ 11) (hp : post (nI (3 ^ k))) : ∀ t i, i + t = k → wX_threeToThe_4 post (nI k) (t + 1) (nI (3 ^ i)) (nI i) := by
  intro t
  induction t with
  | zero =>
    intro i hi
    have e : i = k := by omega
    rw [e]
    exact br_t (nI_le (Nat.le_refl _) (by omega)) hp
  | succ t ih =>
    intro i hi
    refine br_f (nI_ge (by omega) (by omega)) (nm_r (e' := nI (3 ^ (i + 1))) ?_ (nm_r (nI_1 i) (ih (i + 1) (by omega))))
    show nI (3 ^ i) * nI 3 = nI (3 ^ (i + 1))
    rw [pk_mul, ← Nat.pow_succ]
theorem rx_t {post : Int32 → Prop} {k : Nat} (hk : k ≤ 11) (hp : post (nI (3 ^ k))) : wpX_threeToThe post (nI k) :=
  ⟨k + 1, rx_tl hk hp k 0 (by omega)⟩
theorem rf_p31 {k : Nat} (h : k ≤ 11) : 3 ^ k ≤ 177147 := Nat.pow_le_pow_right (n := 3) (by decide) h
theorem rx_dl {post : SX → Prop} {c : Nat} (hn : n ≤ 11) (hc : c < 3 ^ n) (hp : ∀ dig', (∀ q, q < n → dig' q = nI (rf_dg n c q)) → post (nI g, nI n, F, B, M, C, A, hl, nu, dig', par, opn)) : ∀ k, k ≤ n → ∀ dig, (∀ q, k ≤ q → q < n → dig q = nI (rf_dg n c q)) → wX_readDigits_9 post (nI g) (nI n) F B M C (k + 1) (nI (c / 3 ^ (n - k))) (nI k - 1) A hl nu dig par opn := by
  have h31 := rf_p31 hn
  intro k
  induction k with
  | zero =>
    intro _ dig hd
    exact br_t (by decide) (hp dig (fun q hq => hd q (by omega) hq))
  | succ k ih =>
    intro hk dig hd
    rw [nI_pred]
    have hv : c / 3 ^ (n - (k + 1)) < 2 ^ 31 := Nat.lt_of_le_of_lt (Nat.div_le_self _ _) (by omega)
    refine br_f (nI_pos (by omega)) ⟨by decide, vp_in_nI (by omega) (by omega), nm_e ⟨by decide, nm_r (e' := nI (c / 3 ^ (n - k))) ?_ (nm_r (Int32.sub_eq_add_neg _ _).symm (ih (by omega) _ (fun q h1 h2 => ?_)))⟩⟩
    · show nI (c / 3 ^ (n - (k + 1))) / nI 3 = _
      rw [pk_div hv (by decide) (by decide), Nat.div_div_eq_div_mul, ← Nat.pow_succ, show (n - (k + 1)).succ = n - k by omega]
    · rw [nI_clamp (n := k) (by omega)]
      by_cases hq : q = k
      · rw [hq, pk_us]
        show nI (c / 3 ^ (n - (k + 1))) - nI (c / 3 ^ (n - (k + 1))) / nI 3 * nI 3 = _
        rw [pk_rem hv (by decide) (by decide)]
        unfold rf_dg
        rw [show n - 1 - k = n - (k + 1) by omega]
      · rw [pk_un hq]
        exact hd q (by omega) h2
theorem rx_d {post : SX → Prop} {c : Nat} (hn : n ≤ 11) (hc : c < 3 ^ n) (hp : ∀ dig', (∀ q, q < n → dig' q = nI (rf_dg n c q)) → post (nI g, nI n, F, B, M, C, A, hl, nu, dig', par, opn)) : wpX_readDigits post (nI g, nI n, F, B, M, C, A, hl, nu, dig, par, opn) (nI c) := by
  have h9 := rx_dl (g := g) (F := F) (B := B) (M := M) (C := C) (A := A) (hl := hl) (nu := nu) (par := par) (opn := opn) hn hc hp n (Nat.le_refl _) dig (fun q h1 h2 => by omega)
  rw [Nat.sub_self, Nat.pow_zero, Nat.div_one] at h9
  exact nm_e ⟨n + 1, h9⟩
end
