/-! the reference's accounts against what is gathered -/
theorem rf_st_t {a : Nat × Int32 × Int32 × Int32} {v k : Int32} (h : a.2.1 < v) : rf_st a v k = (a.1 + 1, v, 0 + 1, k) := if_pos h
theorem rf_st_e {a : Nat × Int32 × Int32 × Int32} {v k : Int32} (h : ¬ a.2.1 < v) (h' : v = a.2.1) : rf_st a v k = (a.1 + 1, a.2.1, a.2.2.1 + 1, a.2.2.2) := by
  unfold rf_st
  rw [if_neg h, if_pos h']
theorem rf_st_n {a : Nat × Int32 × Int32 × Int32} {v k : Int32} (h : ¬ a.2.1 < v) (h' : ¬ v = a.2.1) : rf_st a v k = (a.1 + 1, a.2.1, a.2.2.1, a.2.2.2) := by
  unfold rf_st
  rw [if_neg h, if_neg h']
def rf_YB (ft H : Nat → Nat → Prop) (n : Nat) (sc : Nat → Int32) (v : Nat) (many best bestMany bestCode : Int32) (bm : Nat → Int32) : Prop :=
  many = nI (rf_ac (rf_ok ft H n) sc v).1 ∧ bestMany = (rf_ac (rf_ok ft H n) sc v).2.2.1 ∧
  (0 < (rf_ac (rf_ok ft H n) sc v).1 → best = (rf_ac (rf_ok ft H n) sc v).2.1 ∧ bestCode = (rf_ac (rf_ok ft H n) sc v).2.2.2 ∧
    ∃ c0, c0 < 3 ^ n ∧ rf_ok ft H n c0 ∧ (rf_ac (rf_ok ft H n) sc v).2.2.2 = nI c0 ∧ ∀ q, q < n → bm q = rf_mt (rf_dg n c0) n q)
def rf_YW (Q : Nat → Prop) (sc : Nat → Int32) (v : Nat) (wm wb : Int32) : Prop :=
  wm = nI (rf_ac Q sc v).1 ∧ (0 < (rf_ac Q sc v).1 → wb = (rf_ac Q sc v).2.1)
theorem rf_YB_s {ft H : Nat → Nat → Prop} {n : Nat} {sc : Nat → Int32} {v v' : Nat} {many best bestMany bestCode : Int32} {bm : Nat → Int32} (h : rf_YB ft H n sc v many best bestMany bestCode bm) (hv : v ≤ v') (hno : ∀ c, v ≤ c → c < v' → ¬ rf_ok ft H n c) : rf_YB ft H n sc v' many best bestMany bestCode bm := by
  unfold rf_YB at h ⊢
  rw [rf_ac_s2 hv hno]
  exact h
theorem rf_YW_s {Q : Nat → Prop} {sc : Nat → Int32} {v v' : Nat} {wm wb : Int32} (h : rf_YW Q sc v wm wb) (hv : v ≤ v') (hno : ∀ c, v ≤ c → c < v' → ¬ Q c) : rf_YW Q sc v' wm wb := by
  unfold rf_YW at h ⊢
  rw [rf_ac_s2 hv hno]
  exact h
theorem rf_YB_0 (ft H : Nat → Nat → Prop) (n : Nat) (sc : Nat → Int32) (best bestCode : Int32) (bm : Nat → Int32) : rf_YB ft H n sc 0 0 best 0 bestCode bm :=
  ⟨nI_0.symm, rfl, fun h => absurd h (Nat.lt_irrefl 0)⟩
theorem rf_YW_0 (Q : Nat → Prop) (sc : Nat → Int32) (wb : Int32) : rf_YW Q sc 0 0 wb :=
  ⟨nI_0.symm, fun h => absurd h (Nat.lt_irrefl 0)⟩
theorem rf_YB_t {ft H : Nat → Nat → Prop} {n : Nat} {sc : Nat → Int32} {v : Nat} {many best bestMany bestCode : Int32} {bm bm' : Nat → Int32} (h : rf_YB ft H n sc v many best bestMany bestCode bm) (hv : v < 3 ^ n) (hok : rf_ok ft H n v) (hl : (rf_ac (rf_ok ft H n) sc v).2.1 < sc v) (hb : ∀ q, q < n → bm' q = rf_mt (rf_dg n v) n q) : rf_YB ft H n sc (v + 1) (many + 1) (sc v) (0 + 1) (nI v) bm' := by
  obtain ⟨h1, h2, h3⟩ := h
  unfold rf_YB
  rw [rf_ac_t hok, rf_st_t hl]
  exact ⟨by rw [h1, nI_1], rfl, fun _ => ⟨rfl, rfl, v, hv, hok, rfl, hb⟩⟩
theorem rf_YB_e {ft H : Nat → Nat → Prop} {n : Nat} {sc : Nat → Int32} {v : Nat} {many best bestMany bestCode : Int32} {bm : Nat → Int32} (h : rf_YB ft H n sc v many best bestMany bestCode bm) (hok : rf_ok ft H n v) (hp : 0 < (rf_ac (rf_ok ft H n) sc v).1) (hl : ¬ best < sc v) (he : sc v = best) : rf_YB ft H n sc (v + 1) (many + 1) best (bestMany + 1) bestCode bm := by
  obtain ⟨h1, h2, h3⟩ := h
  obtain ⟨h4, h5, h6⟩ := h3 hp
  rw [h4] at hl he
  unfold rf_YB
  rw [rf_ac_t hok, rf_st_e hl he]
  exact ⟨by rw [h1, nI_1], by rw [h2], fun _ => ⟨h4, h5, h6⟩⟩
theorem rf_YB_n {ft H : Nat → Nat → Prop} {n : Nat} {sc : Nat → Int32} {v : Nat} {many best bestMany bestCode : Int32} {bm : Nat → Int32} (h : rf_YB ft H n sc v many best bestMany bestCode bm) (hok : rf_ok ft H n v) (hp : 0 < (rf_ac (rf_ok ft H n) sc v).1) (hl : ¬ best < sc v) (he : ¬ sc v = best) : rf_YB ft H n sc (v + 1) (many + 1) best bestMany bestCode bm := by
  obtain ⟨h1, h2, h3⟩ := h
  obtain ⟨h4, h5, h6⟩ := h3 hp
  rw [h4] at hl he
  unfold rf_YB
  rw [rf_ac_t hok, rf_st_n hl he]
  exact ⟨by rw [h1, nI_1], h2, fun _ => ⟨h4, h5, h6⟩⟩
theorem rf_YW_t {Q : Nat → Prop} {sc : Nat → Int32} {v : Nat} {wm wb : Int32} (h : rf_YW Q sc v wm wb) (hq : Q v) (hl : (rf_ac Q sc v).2.1 < sc v) : rf_YW Q sc (v + 1) (wm + 1) (sc v) := by
  obtain ⟨h1, h2⟩ := h
  unfold rf_YW
  rw [rf_ac_t hq, rf_st_t hl]
  exact ⟨by rw [h1, nI_1], fun _ => rfl⟩
theorem rf_YW_n {Q : Nat → Prop} {sc : Nat → Int32} {v : Nat} {wm wb : Int32} (h : rf_YW Q sc v wm wb) (hq : Q v) (hp : 0 < (rf_ac Q sc v).1) (hl : ¬ wb < sc v) : rf_YW Q sc (v + 1) (wm + 1) wb := by
  obtain ⟨h1, h2⟩ := h
  have h4 := h2 hp
  rw [h4] at hl
  unfold rf_YW
  by_cases he : sc v = (rf_ac Q sc v).2.1
  · rw [rf_ac_t hq, rf_st_e hl he]
    exact ⟨by rw [h1, nI_1], fun _ => h4⟩
  · rw [rf_ac_t hq, rf_st_n hl he]
    exact ⟨by rw [h1, nI_1], fun _ => h4⟩
theorem rf_ac_m {Q : Nat → Prop} {sc : Nat → Int32} {v : Nat} (h : (rf_ac Q sc v).1 = 0) : (rf_ac Q sc v).2.1 = -1000 ∧ (rf_ac Q sc v).2.2.1 = 0 ∧ (rf_ac Q sc v).2.2.2 = -1 := by
  rw [rf_ac_0 Q sc v h]
  exact ⟨rfl, rfl, rfl⟩
