/-! the relation, and what every method owes -/
/-- gap, length, bases, holds and numbers are the same; all else is free -/
def i_Rel (_ : Nat) (u : SX) (v : SY) : Prop := ∃ (g n : Nat) (F B M C : Int32) (A hl nu dig par opn : Nat → Int32) (tp my be bm bc wm wb : Int32) (sg op ma bM : Nat → Int32),
  u = (nI g, nI n, F, B, M, C, A, hl, nu, dig, par, opn) ∧ v = (nI g, nI n, tp, my, be, bm, bc, wm, wb, A, hl, nu, sg, op, ma, bM) ∧ g ≤ 4 ∧ n ≤ 11 ∧ rf_Ba A ∧ rf_Nu nu
theorem i_up {k : Nat} {u : SX} {v : SY} (h : i_Rel k u v) : i_Rel (k + 3) u v := h
section
variable {g n : Nat} {F B M C : Int32} {dig par opn : Nat → Int32} {tp my be bm bc wm wb : Int32} {A hl nu sg op ma bM : Nat → Int32}
theorem ri_mk {k : Nat} (hg : g ≤ 4) (hn : n ≤ 11) (hA : rf_Ba A) (hN : rf_Nu nu) : i_Rel k (nI g, nI n, F, B, M, C, A, hl, nu, dig, par, opn) (nI g, nI n, tp, my, be, bm, bc, wm, wb, A, hl, nu, sg, op, ma, bM) :=
  ⟨g, n, F, B, M, C, A, hl, nu, dig, par, opn, tp, my, be, bm, bc, wm, wb, sg, op, ma, bM, rfl, rfl, hg, hn, hA, hN⟩
theorem rf_Ba_u {j x : Nat} (h : rf_Ba A) (hx : x < 4) : rf_Ba (upd A j (nI x)) := by
  intro q
  by_cases hq : q = j
  · exact ⟨x, hx, by rw [hq, pk_us]⟩
  · rw [pk_un hq]; exact h q
theorem rf_Nu_u {j x : Nat} (h : rf_Nu nu) (hx : x ≤ 20) : rf_Nu (upd nu j (nI x)) := by
  intro q
  by_cases hq : q = j
  · exact ⟨x, hx, by rw [hq, pk_us]⟩
  · rw [pk_un hq]; exact h q
theorem rf_Nu_0 : rf_Nu (upd (upd (upd (upd (upd (upd (fun _ => 0) 0 3) 1 5) 2 1) 3 2) 4 2) 5 3) :=
  rf_Nu_u (x := 3) (rf_Nu_u (x := 2) (rf_Nu_u (x := 2) (rf_Nu_u (x := 1) (rf_Nu_u (x := 5) (rf_Nu_u (x := 3) (fun _ => ⟨0, by omega, rfl⟩) (by omega)) (by omega)) (by omega)) (by omega)) (by omega)) (by omega)
theorem rx_ip0 {post : Int32 → Prop} {v : Int32} (h : v < 0 ∨ nI n ≤ v) (hp : post 0) : wpX_isPlace post (nI g, nI n, F, B, M, C, A, hl, nu, dig, par, opn) v := by
  by_cases h0 : v < 0
  · exact br_t h0 hp
  · exact br_f h0 (br_t (h.resolve_left h0) hp)
theorem rx_ip1 {post : Int32 → Prop} {i : Nat} (hn : n ≤ 11) (hi : i < n) (hp : post 1) : wpX_isPlace post (nI g, nI n, F, B, M, C, A, hl, nu, dig, par, opn) (nI i) :=
  br_f (nI_pos (by omega)) (br_f (nI_ge hi (by omega)) hp)
theorem ry_b1 {post : Int32 → Prop} {v : Int32} (h : v < 0 ∨ nI n ≤ v) (hp : post 1) : wpY_bad post (nI g, nI n, tp, my, be, bm, bc, wm, wb, A, hl, nu, sg, op, ma, bM) v := by
  by_cases h0 : v < 0
  · exact br_t h0 hp
  · exact br_f h0 (br_t (h.resolve_left h0) hp)
theorem ry_b0 {post : Int32 → Prop} {i : Nat} (hn : n ≤ 11) (hi : i < n) (hp : post 0) : wpY_bad post (nI g, nI n, tp, my, be, bm, bc, wm, wb, A, hl, nu, sg, op, ma, bM) (nI i) :=
  br_f (nI_pos (by omega)) (br_f (nI_ge hi (by omega)) (br_t (nI_le (b := 10) (by omega) (by omega)) hp))
theorem rf_ix (v : Int32) (n : Nat) (hn : n < 2 ^ 31) : (v < 0 ∨ nI n ≤ v) ∨ ∃ j, j < n ∧ v = nI j := by
  rcases pk_ix v hn with h | h | h
  · exact Or.inl (Or.inl h)
  · exact Or.inl (Or.inr h)
  · exact Or.inr h
/-- a number is below 0, above b, or 0 .. b -/
theorem rf_rg (v : Int32) (b : Nat) (hb : b < 2 ^ 30) : v < 0 ∨ (¬ v < 0 ∧ ¬ v ≤ nI b) ∨ ∃ x, x ≤ b ∧ v = nI x := by
  by_cases h0 : v < 0
  · exact Or.inl h0
  · obtain ⟨j, hj, rfl⟩ := nI_of h0
    by_cases h1 : j ≤ b
    · exact Or.inr (Or.inr ⟨j, h1, rfl⟩)
    · exact Or.inr (Or.inl ⟨h0, nI_ge (by omega) hj⟩)
theorem rx_ib1 {post : Int32 → Prop} {x : Nat} (hx : x ≤ 3) (hp : post 1) : wpX_isBase post (nI x) :=
  br_f (nI_pos (by omega)) (br_f (nI_nlt (a := 3) (by omega) (by omega)) hp)
theorem rx_ib0 {post : Int32 → Prop} {v : Int32} (h0 : ¬ v < 0) (h : ¬ v ≤ nI 3) (hp : post 0) : wpX_isBase post v :=
  br_f h0 (br_t (Int32.not_le.mp h) hp)
end
theorem i_vc0 (k0 : Int32) : wpX_init (fun u => wpY_init (fun v => i_Rel 1 u v) k0) k0 := by
  rcases rf_rg k0 4 (by omega) with h | ⟨h0, h4⟩ | ⟨x, hx, rfl⟩
  · have h0 : ¬ 0 ≤ k0 := Int32.not_le.mpr h
    refine br_f h0 (nm_e (nm_e (nm_e (nm_e (nm_e (nm_e ?_))))))
    refine br_f h0 (nm_e (nm_e (nm_e (nm_e (nm_e (nm_e ?_))))))
    exact ri_mk (g := 0) (n := 0) (by omega) (by omega) (fun _ => ⟨0, by omega, rfl⟩) rf_Nu_0
  · have h0' : 0 ≤ k0 := Int32.not_lt.mp h0
    have h4' : ¬ k0 ≤ 4 := h4
    refine br_t h0' (br_f h4' (nm_e (nm_e (nm_e (nm_e (nm_e (nm_e ?_)))))))
    refine br_t h0' (br_f h4' (nm_e (nm_e (nm_e (nm_e (nm_e (nm_e ?_)))))))
    exact ri_mk (g := 4) (n := 0) (by omega) (by omega) (fun _ => ⟨0, by omega, rfl⟩) rf_Nu_0
  · have h0' : 0 ≤ nI x := nI_pos' (by omega)
    have h4' : nI x ≤ 4 := nI_le (b := 4) hx (by omega)
    refine br_t h0' (br_t h4' (nm_e (nm_e (nm_e (nm_e (nm_e (nm_e ?_)))))))
    refine br_t h0' (br_t h4' (nm_e (nm_e (nm_e (nm_e (nm_e (nm_e ?_)))))))
    exact ri_mk (g := x) (n := 0) (by omega) (by omega) (fun _ => ⟨0, by omega, rfl⟩) rf_Nu_0
