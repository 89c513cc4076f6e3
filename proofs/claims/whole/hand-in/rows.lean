section
/-- the cells after the first i of them were moved down by the hop (4): the last four are cleared -/
def oa_sh (a : Nat → Int32) (i : Nat) : Nat → Int32 := fun j => if j < i then (if j < 12 then a (j + 4) else 0) else a j
theorem oa_sh0 (a : Nat → Int32) : oa_sh a 0 = a := funext fun j => if_neg (Nat.not_lt_zero j)
theorem oa_self (a : Nat → Int32) (i : Nat) : oa_sh a i (i + 4) = a (i + 4) := if_neg (by omega)
theorem oa_put (a : Nat → Int32) (i : Nat) (x : Int32) (hx : x = if i < 12 then a (i + 4) else 0) : upd (oa_sh a i) i x = oa_sh a (i + 1) := by
  funext j
  show (if j = i then x else oa_sh a i j) = oa_sh a (i + 1) j
  by_cases e : j = i
  · subst e
    have h1 : j < j + 1 := Nat.lt_succ_self j
    rw [if_pos rfl, hx]
    exact (if_pos h1).symm
  · rw [if_neg e]
    by_cases l : j < i
    · have l1 : j < i + 1 := by omega
      exact (if_pos l).trans (if_pos l1).symm
    · have l1 : ¬ j < i + 1 := by omega
      exact (if_neg l).trans (if_neg l1).symm
theorem oa_lo (a : Nat → Int32) {i : Nat} (h : i < 12) : upd (oa_sh a i) i (oa_sh a i (i + 4)) = oa_sh a (i + 1) :=
  oa_put a i _ ((oa_self a i).trans (if_pos h).symm)
theorem oa_hi (a : Nat → Int32) {i : Nat} (h : 12 ≤ i) : upd (oa_sh a i) i 0 = oa_sh a (i + 1) :=
  oa_put a i 0 (if_neg (by omega)).symm
theorem oa_x31 (p : Int32) (a : Nat → Int32) : ∀ d i : Nat, i + d = 16 → 12 ≤ i → ∀ post : SX → Prop, post (p, oa_sh a 16) → wX_shiftByHop_31 post p (d + 1) (nI i) (oa_sh a i) := by
  intro d
  induction d with
  | zero =>
    intro i hi h12 post hp
    have e : i = 16 := by omega
    subst e
    have h : (16 : Int32) ≤ nI 16 := nI_le (a := 16) (b := 16) (by decide) (by decide)
    exact br_t h hp
  | succ d ih =>
    intro i hi h12 post hp
    have h : ¬ (16 : Int32) ≤ nI i := nI_ge (b := 16) (by omega) (by decide)
    have hv : vp_in (nI i) 16 := vp_in_nI (by omega) (by decide)
    refine br_f h ⟨hv, fun b eb y ey => ?_⟩
    rw [nI_clamp (by omega), oa_hi a h12] at eb
    have ey' := ey.trans (nI_1 i)
    subst eb
    subst ey'
    exact ih (i + 1) (by omega) (by omega) post hp
theorem oa_x2 (p : Int32) (a : Nat → Int32) : ∀ d i : Nat, i + d = 12 → ∀ post : SX → Prop, post (p, oa_sh a 16) → wX_shiftByHop_2 post p (d + 1) (nI i) (oa_sh a i) := by
  intro d
  induction d with
  | zero =>
    intro i hi post hp
    have e : i = 12 := by omega
    subst e
    have h : (12 : Int32) ≤ nI 12 := nI_le (a := 12) (b := 12) (by decide) (by decide)
    exact br_t h ⟨4 + 1, oa_x31 p a 4 12 rfl (by decide) post hp⟩
  | succ d ih =>
    intro i hi post hp
    have h : ¬ (12 : Int32) ≤ nI i := nI_ge (b := 12) (by omega) (by decide)
    have hv : vp_in (nI i) 16 := vp_in_nI (by omega) (by decide)
    have e4 : nI i + 4 = nI (i + 4) := nI_add i 4
    have hv4 : vp_in (nI i + 4) 16 := by rw [e4]; exact vp_in_nI (by omega) (by decide)
    refine br_f h ⟨hv4, hv, fun b eb y ey => ?_⟩
    rw [e4, nI_clamp (by omega), nI_clamp (by omega), oa_lo a (by omega)] at eb
    have ey' := ey.trans (nI_1 i)
    subst eb
    subst ey'
    exact ih (i + 1) (by omega) post hp
theorem oa_shift (post : SX → Prop) (p : Int32) (a : Nat → Int32) (h : post (p, oa_sh a 16)) : wpX_shiftByHop post (p, a) := by
  have t := oa_x2 p a 12 0 rfl post h
  rw [oa_sh0, nI_0] at t
  exact ⟨12 + 1, t⟩
theorem oa_y9 (x1 p : Int32) (a : Nat → Int32) (post : Int32 → SY → Prop) (hp : (p ≤ 0 → post x1 (p, oa_sh a 16)) ∧ (¬ p ≤ 0 → ∀ q : Int32, q = p - 1 → post x1 (q, oa_sh a 16))) : ∀ d i : Nat, i + d = 16 → wY_pull_9 post x1 p (d + 1) (nI i) (oa_sh a i) := by
  intro d
  induction d with
  | zero =>
    intro i hi
    have e : i = 16 := by omega
    subst e
    have h : (16 : Int32) ≤ nI 16 := nI_le (a := 16) (b := 16) (by decide) (by decide)
    exact br_t h hp
  | succ d ih =>
    intro i hi
    have h : ¬ (16 : Int32) ≤ nI i := nI_ge (b := 16) (by omega) (by decide)
    have hv : vp_in (nI i) 16 := vp_in_nI (by omega) (by decide)
    by_cases h12 : 12 ≤ i
    · have hb : (12 : Int32) ≤ nI i := nI_le (a := 12) h12 (by omega)
      refine br_f h (br_t hb ⟨hv, fun b eb y ey => ?_⟩)
      rw [nI_clamp (by omega), oa_hi a h12] at eb
      have ey' := ey.trans (nI_1 i)
      subst eb
      subst ey'
      exact ih (i + 1) (by omega)
    · have hb : ¬ (12 : Int32) ≤ nI i := nI_ge (b := 12) (by omega) (by decide)
      have e4 : nI i + 4 = nI (i + 4) := nI_add i 4
      have hv4 : vp_in (nI i + 4) 16 := by rw [e4]; exact vp_in_nI (by omega) (by decide)
      refine br_f h (br_f hb ⟨hv4, hv, fun b eb y ey => ?_⟩)
      rw [e4, nI_clamp (by omega), nI_clamp (by omega), oa_lo a (by omega)] at eb
      have ey' := ey.trans (nI_1 i)
      subst eb
      subst ey'
      exact ih (i + 1) (by omega)
theorem oa_xpull (post : Int32 → SX → Prop) (p : Int32) (a : Nat → Int32) (hp : (p ≤ 0 → post (a 0) (p, oa_sh a 16)) ∧ (¬ p ≤ 0 → ∀ q : Int32, q = p - 1 → post (a 0) (q, oa_sh a 16))) : wpX_pull post (p, a) := by
  intro x ex
  subst ex
  exact oa_shift _ p a hp
theorem oa_ypull (post : Int32 → SY → Prop) (p : Int32) (a : Nat → Int32) (hp : (p ≤ 0 → post (a 0) (p, oa_sh a 16)) ∧ (¬ p ≤ 0 → ∀ q : Int32, q = p - 1 → post (a 0) (q, oa_sh a 16))) : wpY_pull post (p, a) := by
  intro x ex
  subst ex
  have t := oa_y9 (a 0) p a post hp 16 0 rfl
  rw [oa_sh0, nI_0] at t
  exact ⟨16 + 1, t⟩
end
section
theorem oa_wHi {post : Int32 → Prop} {x : Int32} (h : 4 ≤ x) (hp : post (8 - x)) : wpX_weight post x := br_t h hp
theorem oa_wLo {post : Int32 → Prop} {x : Int32} (h : ¬ 4 ≤ x) (hp : post (x + 1)) : wpX_weight post x := br_f h hp
theorem oa_sm {post : Int32 → Prop} {s x : Int32} (hp : post (((s.toUInt32 >>> (x.toUInt32 &&& Int32.toUInt32 31)).toInt32).toInt16.toInt32)) : wpX_sample post s x := hp
theorem oa_ix (p k : Nat) : 4 * nI p + nI k = nI (4 * p + k) := by
  have e : 4 * nI p = nI (4 * p) := (Int32.ofNat_mul 4 p).symm
  rw [e, nI_add]
/-- one frame, both sides in step: there is one array b in which both loops end -/
theorem oa_add (s : Int32) (p : Nat) (hp : p < 3) : ∀ d k : Nat, k + d = 8 → ∀ a : Nat → Int32, ∃ b : Nat → Int32,
    (∀ post : Int32 → SX → Prop, post (nI (p + 1)) (nI (p + 1), b) → wX_addFrame_19 post s (4 * nI p) (nI p) (d + 1) (nI k) a) ∧
    (∀ post : Int32 → SY → Prop, post (nI (p + 1)) (nI (p + 1), b) → wY_addFrame_12 post s (nI p) (d + 1) (nI k) a) := by
  intro d
  induction d with
  | zero =>
    intro k hk a
    have e : k = 8 := by omega
    subst e
    have h : (8 : Int32) ≤ nI 8 := nI_le (a := 8) (b := 8) (by decide) (by decide)
    refine ⟨a, fun post hq => br_t h fun y ey => ?_, fun post hq => br_t h fun y ey => ?_⟩
    · have ey' := ey.trans (nI_1 p)
      subst ey'
      exact hq
    · subst ey
      rw [nI_1 p]
      exact hq
  | succ d ih =>
    intro k hk a
    have h : ¬ (8 : Int32) ≤ nI k := nI_ge (b := 8) (by omega) (by decide)
    have hv : vp_in (4 * nI p + nI k) 16 := by rw [oa_ix]; exact vp_in_nI (by omega) (by decide)
    by_cases h4 : (4 : Int32) ≤ nI k
    · obtain ⟨b, hX, hY⟩ := ih (k + 1) (by omega) (upd a (4 * nI p + nI k).toNatClampNeg (a (4 * nI p + nI k).toNatClampNeg + (8 - nI k) * (((s.toUInt32 >>> ((nI k).toUInt32 &&& Int32.toUInt32 31)).toInt32).toInt16.toInt32)))
      refine ⟨b, fun post hq => br_f h (oa_wHi h4 (oa_sm fun z ez => ⟨hv, hv, fun c ec y ey => ?_⟩)), fun post hq => br_f h (br_t h4 ⟨hv, hv, fun c ec y ey => ?_⟩)⟩
      · have ey' := ey.trans (nI_1 k)
        subst ez
        subst ec
        subst ey'
        exact hX post hq
      · have ey' := ey.trans (nI_1 k)
        subst ec
        subst ey'
        exact hY post hq
    · obtain ⟨b, hX, hY⟩ := ih (k + 1) (by omega) (upd a (4 * nI p + nI k).toNatClampNeg (a (4 * nI p + nI k).toNatClampNeg + (nI k + 1) * (((s.toUInt32 >>> ((nI k).toUInt32 &&& Int32.toUInt32 31)).toInt32).toInt16.toInt32)))
      refine ⟨b, fun post hq => br_f h (oa_wLo h4 (oa_sm fun z ez => ⟨hv, hv, fun c ec y ey => ?_⟩)), fun post hq => br_f h (br_f h4 ⟨hv, hv, fun c ec y ey => ?_⟩)⟩
      · have ey' := ey.trans (nI_1 k)
        subst ez
        subst ec
        subst ey'
        exact hX post hq
      · have ey' := ey.trans (nI_1 k)
        subst ec
        subst ey'
        exact hY post hq
end
section
/-- both sides hold one number of pending frames, 0 to 3, and the same cells -/
def i_Rel (k : Nat) (u : SX) (v : SY) : Prop := ∃ (j : Nat) (a : Nat → Int32), j ≤ 3 ∧ u = (nI j, a) ∧ v = (nI j, a)
theorem i_up {k : Nat} {u : SX} {v : SY} (h : i_Rel k u v) : i_Rel (k + 2) u v := h
theorem i_vc0 : wpX_init (fun u => wpY_init (fun v => i_Rel 0 u v)) := ⟨0, fun _ => 0, by decide, rfl, rfl⟩
theorem i_vc_addFrame {k : Nat} {u : SX} {v : SY} (I : i_Rel k u v) (hk : k + 2 ≤ 1024) (v1 : Int32) : wpX_addFrame (fun r u' => wpY_addFrame (fun r' v' => r' = r ∧ i_Rel (k + 2) u' v') v v1) u v1 := by
  obtain ⟨j, a, hj, rfl, rfl⟩ := I
  by_cases h : j < 3
  · have hx : nI j < 3 := nI_lt (b := 3) h (by decide)
    have hy : ¬ nI j = 3 := fun e => by
      have e' : j = 3 := (nI_eq (b := 3) (by omega) (by decide)).mp e
      omega
    obtain ⟨b, hX, hY⟩ := oa_add v1 j h 8 0 rfl a
    rw [nI_0] at hX hY
    refine br_t hx fun x ex => ?_
    subst ex
    exact ⟨8 + 1, hX _ (br_f hy ⟨8 + 1, hY _ ⟨rfl, j + 1, b, by omega, rfl, rfl⟩⟩)⟩
  · have e : j = 3 := by omega
    subst e
    have hx : ¬ nI 3 < 3 := nI_nlt (a := 3) (b := 3) (by decide) (by decide)
    have hy : nI 3 = 3 := rfl
    exact br_f hx (br_t hy ⟨rfl, 3, a, by decide, rfl, rfl⟩)
theorem i_vc_pull {k : Nat} {u : SX} {v : SY} (I : i_Rel k u v) (hk : k + 2 ≤ 1024) : wpX_pull (fun r u' => wpY_pull (fun r' v' => r' = r ∧ i_Rel (k + 2) u' v') v) u := by
  obtain ⟨j, a, hj, rfl, rfl⟩ := I
  cases j with
  | zero =>
    have h : nI 0 ≤ 0 := nI_le (a := 0) (b := 0) (by decide) (by decide)
    exact oa_xpull _ _ _ (br_t h (oa_ypull _ _ _ (br_t h ⟨rfl, 0, oa_sh a 16, by decide, rfl, rfl⟩)))
  | succ m =>
    have h : ¬ nI (m + 1) ≤ 0 := nI_nle (by omega) (by omega)
    exact oa_xpull _ _ _ (br_f h (nm_r (nI_pred m) (oa_ypull _ _ _ (br_f h (nm_r (nI_pred m) ⟨rfl, m, oa_sh a 16, by omega, rfl, rfl⟩)))))
theorem i_vc_pending {k : Nat} {u : SX} {v : SY} (I : i_Rel k u v) (hk : k + 2 ≤ 1024) : wpX_pending (fun r => wpY_pending (fun r' => r' = r ∧ i_Rel (k + 2) u v) v) u := by
  obtain ⟨j, a, hj, rfl, rfl⟩ := I
  exact ⟨rfl, j, a, hj, rfl, rfl⟩
theorem i_vc_at {k : Nat} {u : SX} {v : SY} (I : i_Rel k u v) (hk : k + 2 ≤ 1024) (v1 : Int32) : wpX_at (fun r => wpY_at (fun r' => r' = r ∧ i_Rel (k + 2) u v) v v1) u v1 := by
  obtain ⟨j, a, hj, rfl, rfl⟩ := I
  by_cases h0 : v1 < 0
  · exact br_t h0 (br_t h0 ⟨rfl, j, a, hj, rfl, rfl⟩)
  · obtain ⟨i, hi, rfl⟩ := nI_of h0
    by_cases h : i < 16
    · have hx : nI i < 16 := nI_lt (b := 16) h (by decide)
      have hy : nI i ≤ 15 := nI_le (b := 15) (by omega) (by decide)
      have hv : vp_in (nI i) 16 := vp_in_nI h (by decide)
      exact br_f h0 (br_t hx ⟨hv, br_f h0 (br_t hy ⟨hv, rfl, j, a, hj, rfl, rfl⟩)⟩)
    · have hx : ¬ nI i < 16 := nI_nlt (b := 16) (by omega) hi
      have hy : ¬ nI i ≤ 15 := nI_ge (a := 15) (by omega) hi
      exact br_f h0 (br_f hx (br_f h0 (br_f hy ⟨rfl, j, a, hj, rfl, rfl⟩)))
end
