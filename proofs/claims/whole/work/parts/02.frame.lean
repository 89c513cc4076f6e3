theorem oa_wHi {post : Int32 → Prop} {x : Int32} (h : 4 ≤ x) (hp : post (8 - x)) : wpX_weight post x := br_t h hp
theorem oa_wLo {post : Int32 → Prop} {x : Int32} (h : ¬ 4 ≤ x) (hp : post (x + 1)) : wpX_weight post x := br_f h hp
theorem oa_sm {post : Int32 → Prop} {s x : Int32} (hp : post (((s.toUInt32 >>> (x.toUInt32 &&& Int32.toUInt32 31)).toInt32).toInt16.toInt32)) : wpX_sample post s x := hp
theorem oa_ix (p k : Nat) : 4 * nI p + nI k = nI (4 * p + k) := by
  have e : 4 * nI p = nI (4 * p) := (Int32.ofNat_mul 4 p).symm
  rw [e, nI_add]
/-- one frame, both sides in step: there is one array b in which both loops end -/
theorem oa_add (s : Int32) (p : Nat) (hp : p < 3) : ∀ d k : Nat, k + d = 8 → ∀ a : Nat → Int32, ∃ b : Nat → Int32,
    (∀ post : Int32 → SX → Prop, post (nI (p + 1)) (nI (p + 1), b) → wX_addFrame_19 post s (4 * nI p) (nI p) (d + 1) (nI k) a) ∧
    (∀ post : Int32 → SY → Prop, post (nI (p + 1)) (nI (p + 1), b) → wY_addFrame_12 post s (nI p) (d + 1) (nI k) a) := by
  intro d
  induction d with
  | zero =>
    intro k hk a
    have e : k = 8 := by omega
    subst e
    have h : (8 : Int32) ≤ nI 8 := nI_le (a := 8) (b := 8) (by decide) (by decide)
    refine ⟨a, fun post hq => br_t h fun y ey => ?_, fun post hq => br_t h fun y ey => ?_⟩
    · have ey' := ey.trans (nI_1 p)
      subst ey'
      exact hq
    · subst ey
      rw [nI_1 p]
      exact hq
  | succ d ih =>
    intro k hk a
    have h : ¬ (8 : Int32) ≤ nI k := nI_ge (b := 8) (by omega) (by decide)
    have hv : vp_in (4 * nI p + nI k) 16 := by rw [oa_ix]; exact vp_in_nI (by omega) (by decide)
    by_cases h4 : (4 : Int32) ≤ nI k
    · obtain ⟨b, hX, hY⟩ := ih (k + 1) (by omega) (upd a (4 * nI p + nI k).toNatClampNeg (a (4 * nI p + nI k).toNatClampNeg + (8 - nI k) * (((s.toUInt32 >>> ((nI k).toUInt32 &&& Int32.toUInt32 31)).toInt32).toInt16.toInt32)))
      refine ⟨b, fun post hq => br_f h (oa_wHi h4 (oa_sm fun z ez => ⟨hv, hv, fun c ec y ey => ?_⟩)), fun post hq => br_f h (br_t h4 ⟨hv, hv, fun c ec y ey => ?_⟩)⟩
      · have ey' := ey.trans (nI_1 k)
        subst ez
        subst ec
        subst ey'
        exact hX post hq
      · have ey' := ey.trans (nI_1 k)
        subst ec
        subst ey'
        exact hY post hq
    · obtain ⟨b, hX, hY⟩ := ih (k + 1) (by omega) (upd a (4 * nI p + nI k).toNatClampNeg (a (4 * nI p + nI k).toNatClampNeg + (nI k + 1) * (((s.toUInt32 >>> ((nI k).toUInt32 &&& Int32.toUInt32 31)).toInt32).toInt16.toInt32)))
      refine ⟨b, fun post hq => br_f h (oa_wLo h4 (oa_sm fun z ez => ⟨hv, hv, fun c ec y ey => ?_⟩)), fun post hq => br_f h (br_f h4 ⟨hv, hv, fun c ec y ey => ?_⟩)⟩
      · have ey' := ey.trans (nI_1 k)
        subst ez
        subst ec
        subst ey'
        exact hX post hq
      · have ey' := ey.trans (nI_1 k)
        subst ec
        subst ey'
        exact hY post hq
