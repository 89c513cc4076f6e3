/-- both sides hold one number of pending frames, 0 to 3, and the same cells -/
def i_Rel (k : Nat) (u : SX) (v : SY) : Prop := ∃ (j : Nat) (a : Nat → Int32), j ≤ 3 ∧ u = (nI j, a) ∧ v = (nI j, a)
theorem i_up {k : Nat} {u : SX} {v : SY} (h : i_Rel k u v) : i_Rel (k + 2) u v := h
theorem i_vc0 : wpX_init (fun u => wpY_init (fun v => i_Rel 0 u v)) := ⟨0, fun _ => 0, by decide, rfl, rfl⟩
theorem i_vc_addFrame {k : Nat} {u : SX} {v : SY} (I : i_Rel k u v) (hk : k + 2 ≤ 1024) (v1 : Int32) : wpX_addFrame (fun r u' => wpY_addFrame (fun r' v' => r' = r ∧ i_Rel (k + 2) u' v') v v1) u v1 := by
  obtain ⟨j, a, hj, rfl, rfl⟩ := I
  by_cases h : j < 3
  · have hx : nI j < 3 := nI_lt (b := 3) h (by decide)
    have hy : ¬ nI j = 3 := fun e => by
      have e' : j = 3 := (nI_eq (b := 3) (by omega) (by decide)).mp e
      omega
    obtain ⟨b, hX, hY⟩ := oa_add v1 j h 8 0 rfl a
    rw [nI_0] at hX hY
    refine br_t hx fun x ex => ?_
    subst ex
    exact ⟨8 + 1, hX _ (br_f hy ⟨8 + 1, hY _ ⟨rfl, j + 1, b, by omega, rfl, rfl⟩⟩)⟩
  · have e : j = 3 := by omega
    subst e
    have hx : ¬ nI 3 < 3 := nI_nlt (a := 3) (b := 3) (by decide) (by decide)
    have hy : nI 3 = 3 := rfl
    exact br_f hx (br_t hy ⟨rfl, 3, a, by decide, rfl, rfl⟩)
theorem i_vc_pull {k : Nat} {u : SX} {v : SY} (I : i_Rel k u v) (hk : k + 2 ≤ 1024) : wpX_pull (fun r u' => wpY_pull (fun r' v' => r' = r ∧ i_Rel (k + 2) u' v') v) u := by
  obtain ⟨j, a, hj, rfl, rfl⟩ := I
  cases j with
  | zero =>
    have h : nI 0 ≤ 0 := nI_le (a := 0) (b := 0) (by decide) (by decide)
    exact oa_xpull _ _ _ (br_t h (oa_ypull _ _ _ (br_t h ⟨rfl, 0, oa_sh a 16, by decide, rfl, rfl⟩)))
  | succ m =>
    have h : ¬ nI (m + 1) ≤ 0 := nI_nle (by omega) (by omega)
    exact oa_xpull _ _ _ (br_f h (nm_r (nI_pred m) (oa_ypull _ _ _ (br_f h (nm_r (nI_pred m) ⟨rfl, m, oa_sh a 16, by omega, rfl, rfl⟩)))))
theorem i_vc_pending {k : Nat} {u : SX} {v : SY} (I : i_Rel k u v) (hk : k + 2 ≤ 1024) : wpX_pending (fun r => wpY_pending (fun r' => r' = r ∧ i_Rel (k + 2) u v) v) u := by
  obtain ⟨j, a, hj, rfl, rfl⟩ := I
  exact ⟨rfl, j, a, hj, rfl, rfl⟩
theorem i_vc_at {k : Nat} {u : SX} {v : SY} (I : i_Rel k u v) (hk : k + 2 ≤ 1024) (v1 : Int32) : wpX_at (fun r => wpY_at (fun r' => r' = r ∧ i_Rel (k + 2) u v) v v1) u v1 := by
  obtain ⟨j, a, hj, rfl, rfl⟩ := I
  by_cases h0 : v1 < 0
  · exact br_t h0 (br_t h0 ⟨rfl, j, a, hj, rfl, rfl⟩)
  · obtain ⟨i, hi, rfl⟩ := nI_of h0
    by_cases h : i < 16
    · have hx : nI i < 16 := nI_lt (b := 16) h (by decide)
      have hy : nI i ≤ 15 := nI_le (b := 15) (by omega) (by decide)
      have hv : vp_in (nI i) 16 := vp_in_nI h (by decide)
      exact br_f h0 (br_t hx ⟨hv, br_f h0 (br_t hy ⟨hv, rfl, j, a, hj, rfl, rfl⟩)⟩)
    · have hx : ¬ nI i < 16 := nI_nlt (b := 16) (by omega) hi
      have hy : ¬ nI i ≤ 15 := nI_ge (a := 15) (by omega) hi
      exact br_f h0 (br_f hx (br_f h0 (br_f hy ⟨rfl, j, a, hj, rfl, rfl⟩)))
