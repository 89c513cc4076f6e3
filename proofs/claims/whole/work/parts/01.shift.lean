/-- the cells after the first i of them were moved down by the hop (4): the last four are cleared -/
def oa_sh (a : Nat → Int32) (i : Nat) : Nat → Int32 := fun j => if j < i then (if j < 12 then a (j + 4) else 0) else a j
theorem oa_sh0 (a : Nat → Int32) : oa_sh a 0 = a := funext fun j => if_neg (Nat.not_lt_zero j)
theorem oa_self (a : Nat → Int32) (i : Nat) : oa_sh a i (i + 4) = a (i + 4) := if_neg (by omega)
theorem oa_put (a : Nat → Int32) (i : Nat) (x : Int32) (hx : x = if i < 12 then a (i + 4) else 0) : upd (oa_sh a i) i x = oa_sh a (i + 1) := by
  funext j
  show (if j = i then x else oa_sh a i j) = oa_sh a (i + 1) j
  by_cases e : j = i
  · subst e
    have h1 : j < j + 1 := Nat.lt_succ_self j
    rw [if_pos rfl, hx]
    exact (if_pos h1).symm
  · rw [if_neg e]
    by_cases l : j < i
    · have l1 : j < i + 1 := by omega
      exact (if_pos l).trans (if_pos l1).symm
    · have l1 : ¬ j < i + 1 := by omega
      exact (if_neg l).trans (if_neg l1).symm
theorem oa_lo (a : Nat → Int32) {i : Nat} (h : i < 12) : upd (oa_sh a i) i (oa_sh a i (i + 4)) = oa_sh a (i + 1) :=
  oa_put a i _ ((oa_self a i).trans (if_pos h).symm)
theorem oa_hi (a : Nat → Int32) {i : Nat} (h : 12 ≤ i) : upd (oa_sh a i) i 0 = oa_sh a (i + 1) :=
  oa_put a i 0 (if_neg (by omega)).symm
theorem oa_x31 (p : Int32) (a : Nat → Int32) : ∀ d i : Nat, i + d = 16 → 12 ≤ i → ∀ post : SX → Prop, post (p, oa_sh a 16) → wX_shiftByHop_31 post p (d + 1) (nI i) (oa_sh a i) := by
  intro d
  induction d with
  | zero =>
    intro i hi h12 post hp
    have e : i = 16 := by omega
    subst e
    have h : (16 : Int32) ≤ nI 16 := nI_le (a := 16) (b := 16) (by decide) (by decide)
    exact br_t h hp
  | succ d ih =>
    intro i hi h12 post hp
    have h : ¬ (16 : Int32) ≤ nI i := nI_ge (b := 16) (by omega) (by decide)
    have hv : vp_in (nI i) 16 := vp_in_nI (by omega) (by decide)
    refine br_f h ⟨hv, fun b eb y ey => ?_⟩
    rw [nI_clamp (by omega), oa_hi a h12] at eb
    have ey' := ey.trans (nI_1 i)
    subst eb
    subst ey'
    exact ih (i + 1) (by omega) (by omega) post hp
theorem oa_x2 (p : Int32) (a : Nat → Int32) : ∀ d i : Nat, i + d = 12 → ∀ post : SX → Prop, post (p, oa_sh a 16) → wX_shiftByHop_2 post p (d + 1) (nI i) (oa_sh a i) := by
  intro d
  induction d with
  | zero =>
    intro i hi post hp
    have e : i = 12 := by omega
    subst e
    have h : (12 : Int32) ≤ nI 12 := nI_le (a := 12) (b := 12) (by decide) (by decide)
    exact br_t h ⟨4 + 1, oa_x31 p a 4 12 rfl (by decide) post hp⟩
  | succ d ih =>
    intro i hi post hp
    have h : ¬ (12 : Int32) ≤ nI i := nI_ge (b := 12) (by omega) (by decide)
    have hv : vp_in (nI i) 16 := vp_in_nI (by omega) (by decide)
    have e4 : nI i + 4 = nI (i + 4) := nI_add i 4
    have hv4 : vp_in (nI i + 4) 16 := by rw [e4]; exact vp_in_nI (by omega) (by decide)
    refine br_f h ⟨hv4, hv, fun b eb y ey => ?_⟩
    rw [e4, nI_clamp (by omega), nI_clamp (by omega), oa_lo a (by omega)] at eb
    have ey' := ey.trans (nI_1 i)
    subst eb
    subst ey'
    exact ih (i + 1) (by omega) post hp
theorem oa_shift (post : SX → Prop) (p : Int32) (a : Nat → Int32) (h : post (p, oa_sh a 16)) : wpX_shiftByHop post (p, a) := by
  have t := oa_x2 p a 12 0 rfl post h
  rw [oa_sh0, nI_0] at t
  exact ⟨12 + 1, t⟩
theorem oa_y9 (x1 p : Int32) (a : Nat → Int32) (post : Int32 → SY → Prop) (hp : (p ≤ 0 → post x1 (p, oa_sh a 16)) ∧ (¬ p ≤ 0 → ∀ q : Int32, q = p - 1 → post x1 (q, oa_sh a 16))) : ∀ d i : Nat, i + d = 16 → wY_pull_9 post x1 p (d + 1) (nI i) (oa_sh a i) := by
  intro d
  induction d with
  | zero =>
    intro i hi
    have e : i = 16 := by omega
    subst e
    have h : (16 : Int32) ≤ nI 16 := nI_le (a := 16) (b := 16) (by decide) (by decide)
    exact br_t h hp
  | succ d ih =>
    intro i hi
    have h : ¬ (16 : Int32) ≤ nI i := nI_ge (b := 16) (by omega) (by decide)
    have hv : vp_in (nI i) 16 := vp_in_nI (by omega) (by decide)
    by_cases h12 : 12 ≤ i
    · have hb : (12 : Int32) ≤ nI i := nI_le (a := 12) h12 (by omega)
      refine br_f h (br_t hb ⟨hv, fun b eb y ey => ?_⟩)
      rw [nI_clamp (by omega), oa_hi a h12] at eb
      have ey' := ey.trans (nI_1 i)
      subst eb
      subst ey'
      exact ih (i + 1) (by omega)
    · have hb : ¬ (12 : Int32) ≤ nI i := nI_ge (b := 12) (by omega) (by decide)
      have e4 : nI i + 4 = nI (i + 4) := nI_add i 4
      have hv4 : vp_in (nI i + 4) 16 := by rw [e4]; exact vp_in_nI (by omega) (by decide)
      refine br_f h (br_f hb ⟨hv4, hv, fun b eb y ey => ?_⟩)
      rw [e4, nI_clamp (by omega), nI_clamp (by omega), oa_lo a (by omega)] at eb
      have ey' := ey.trans (nI_1 i)
      subst eb
      subst ey'
      exact ih (i + 1) (by omega)
theorem oa_xpull (post : Int32 → SX → Prop) (p : Int32) (a : Nat → Int32) (hp : (p ≤ 0 → post (a 0) (p, oa_sh a 16)) ∧ (¬ p ≤ 0 → ∀ q : Int32, q = p - 1 → post (a 0) (q, oa_sh a 16))) : wpX_pull post (p, a) := by
  intro x ex
  subst ex
  exact oa_shift _ p a hp
theorem oa_ypull (post : Int32 → SY → Prop) (p : Int32) (a : Nat → Int32) (hp : (p ≤ 0 → post (a 0) (p, oa_sh a 16)) ∧ (¬ p ≤ 0 → ∀ q : Int32, q = p - 1 → post (a 0) (q, oa_sh a 16))) : wpY_pull post (p, a) := by
  intro x ex
  subst ex
  have t := oa_y9 (a 0) p a post hp 16 0 rfl
  rw [oa_sh0, nI_0] at t
  exact ⟨16 + 1, t⟩
