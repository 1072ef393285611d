def i_Rel (k : Nat) (u : SX) (v : SY) : Prop := ∃ (t : Nat) (m c a sv ss tr ys : Nat → Int32) (yd : Int32), t ≤ 48 ∧ fs_V c t ∧ u = (nI t, nI (fs_H c t), nI (fs_D c t), m, c, a, sv, ss) ∧ v = (nI t, yd, m, c, a, tr, ys)
theorem fs_mk {k t : Nat} {m c a sv ss tr ys : Nat → Int32} {yd : Int32} (ht : t ≤ 48) (hV : fs_V c t) : i_Rel k (nI t, nI (fs_H c t), nI (fs_D c t), m, c, a, sv, ss) (nI t, yd, m, c, a, tr, ys) :=
  ⟨t, m, c, a, sv, ss, tr, ys, yd, ht, hV, rfl, rfl⟩
theorem fs_mk' {k t h d : Nat} {m c a sv ss tr ys : Nat → Int32} {yd : Int32} (ht : t ≤ 48) (hV : fs_V c t) (hh : fs_H c t = h) (hd : fs_D c t = d) : i_Rel k (nI t, nI h, nI d, m, c, a, sv, ss) (nI t, yd, m, c, a, tr, ys) := by
  subst hh hd
  exact fs_mk ht hV
theorem fs_mk0 {k : Nat} {m c a sv ss tr ys : Nat → Int32} {yd : Int32} : i_Rel k (0, 0, 0, m, c, a, sv, ss) (0, yd, m, c, a, tr, ys) :=
  fs_mk (t := 0) (c := c) (by decide) (fun i hi => absurd hi (Nat.not_lt_zero i))
theorem i_up {k : Nat} {u : SX} {v : SY} (h : i_Rel k u v) : i_Rel (k + 3) u v := h
theorem i_vc0 : wpX_init (fun u => wpY_init (fun v => i_Rel 0 u v)) := by
  refine ⟨5, br_f (by decide) ⟨vp_in_iff.mpr (by decide), nm_e (nm_e (br_f (by decide) ⟨vp_in_iff.mpr (by decide), nm_e (nm_e (br_f (by decide) ⟨vp_in_iff.mpr (by decide), nm_e (nm_e (br_f (by decide) ⟨vp_in_iff.mpr (by decide), nm_e (nm_e (br_t (by decide) ?_))⟩))⟩))⟩))⟩⟩
  refine ⟨5, br_f (by decide) ⟨vp_in_iff.mpr (by decide), nm_e (nm_e (br_f (by decide) ⟨vp_in_iff.mpr (by decide), nm_e (nm_e (br_f (by decide) ⟨vp_in_iff.mpr (by decide), nm_e (nm_e (br_f (by decide) ⟨vp_in_iff.mpr (by decide), nm_e (nm_e (br_t (by decide) ?_))⟩))⟩))⟩))⟩⟩
  exact fs_mk0
theorem i_vc_allow {k : Nat} {u : SX} {v : SY} (I : i_Rel k u v) (hk : k + 3 ≤ 1536) (v1 : Int32) (v2 : Int32) : wpX_allow (fun u' => wpY_allow (fun v' => i_Rel (k + 3) u' v') v v1 v2) u v1 v2 := by
  obtain ⟨t, m, c, a, sv, ss, tr, ys, yd, ht, hV, rfl, rfl⟩ := I
  exact ⟨fs_i3 v1, nm_e ⟨fs_i3 v1, nm_e (fs_mk ht hV)⟩⟩
theorem i_vc_token {k : Nat} {u : SX} {v : SY} (I : i_Rel k u v) (hk : k + 3 ≤ 1536) (v1 : Int32) (v2 : Int32) : wpX_token (fun r u' => wpY_token (fun r' v' => r' = r ∧ i_Rel (k + 3) u' v') v v1 v2) u v1 v2 := by
  obtain ⟨t, m, c, a, sv, ss, tr, ys, yd, ht, hV, rfl, rfl⟩ := I
  by_cases h0 : v1 < 0
  · exact br_t h0 (br_t h0 ⟨rfl, fs_mk ht hV⟩)
  by_cases h12 : 12 < v1
  · exact br_f h0 (br_t h12 (br_f h0 (br_t h12 ⟨rfl, fs_mk ht hV⟩)))
  have hC := fs_C_of h0 h12
  by_cases h48 : t < 48
  · have hH := fs_H_le c t
    have hlt : nI t < 48 := nI_lt (b := 48) h48 (by decide)
    have hne : ¬ nI t = 48 := fun z => absurd ((nI_eq (a := t) (b := 48) (by omega) (by decide)).mp z) (by omega)
    have hin : vp_in (nI t) 48 := vp_in_nI h48 (by decide)
    have ct : (nI t).toNatClampNeg = t := nI_clamp (by omega)
    have e1 : upd c (nI t).toNatClampNeg v1 = upd c t v1 := by rw [ct]
    have e2 : upd a (nI t).toNatClampNeg v2 = upd a t v2 := by rw [ct]
    refine br_f h0 (br_f h12 (br_t hlt (fs_xt hC ?_)))
    by_cases hh : fs_tk v1 ≤ fs_H c t
    · have hle : nI (fs_tk v1) ≤ nI (fs_H c t) := nI_le hh (by omega)
      have hV' := fs_V_upd hV hC hh
      refine br_t hle ⟨hin, nm_r e1 ⟨hin, nm_r e2 (nm_r (nI_1 t) (nm_r (pk_sub hh) ?_))⟩⟩
      by_cases e : v1 = 12
      · have hH' : fs_H (upd c t v1) (t + 1) = fs_H c t - fs_tk v1 := by
          rw [fs_H_new, show fs_pt v1 = 0 by rw [e, fs_pt_12], Nat.add_zero]
        have hD' : fs_D (upd c t v1) (t + 1) = fs_D c t + 1 := by
          rw [fs_D_new, show fs_pt v1 = 0 by rw [e, fs_pt_12]]
        refine br_t e (nm_r (nI_1 _) ?_)
        refine br_f h0 (br_f h12 (br_f hne (fs_yhw ht hV (fs_yt hC (br_t hle ⟨hin, nm_r e1 ⟨hin, nm_r e2 (nm_r (nI_1 t) (fs_yhw (by omega) hV' ?_))⟩⟩)))))
        exact ⟨congrArg nI hH', fs_mk' (by omega) hV' hH' hD'⟩
      · have hH' : fs_H (upd c t v1) (t + 1) = fs_H c t - fs_tk v1 + 1 := by
          rw [fs_H_new, fs_pt_n e]
        have hD' : fs_D (upd c t v1) (t + 1) = fs_D c t := by
          rw [fs_D_new, fs_pt_n e]
          rfl
        refine br_f e (nm_r (nI_1 _) ?_)
        refine br_f h0 (br_f h12 (br_f hne (fs_yhw ht hV (fs_yt hC (br_t hle ⟨hin, nm_r e1 ⟨hin, nm_r e2 (nm_r (nI_1 t) (fs_yhw (by omega) hV' ?_))⟩⟩)))))
        exact ⟨congrArg nI hH', fs_mk' (by omega) hV' hH' hD'⟩
    · have hle : ¬ nI (fs_tk v1) ≤ nI (fs_H c t) := nI_ge (by omega) (by unfold fs_tk; split <;> (try split) <;> decide)
      refine br_f hle ?_
      exact br_f h0 (br_f h12 (br_f hne (fs_yhw ht hV (fs_yt hC (br_f hle ⟨rfl, fs_mk ht hV⟩)))))
  · have e48 : t = 48 := by omega
    subst e48
    exact br_f h0 (br_f h12 (br_f (by decide) (br_f h0 (br_f h12 (br_t (by decide) ⟨rfl, fs_mk ht hV⟩)))))
theorem i_vc_clear {k : Nat} {u : SX} {v : SY} (I : i_Rel k u v) (hk : k + 3 ≤ 1536) : wpX_clear (fun u' => wpY_clear (fun v' => i_Rel (k + 3) u' v') v) u := by
  obtain ⟨t, m, c, a, sv, ss, tr, ys, yd, ht, hV, rfl, rfl⟩ := I
  exact fs_mk0 (k := k + 3)
theorem i_vc_conditions {k : Nat} {u : SX} {v : SY} (I : i_Rel k u v) (hk : k + 3 ≤ 1536) : wpX_conditions (fun r => wpY_conditions (fun r' => r' = r ∧ i_Rel (k + 3) u v) v) u := by
  obtain ⟨t, m, c, a, sv, ss, tr, ys, yd, ht, hV, rfl, rfl⟩ := I
  exact ⟨t + 1, fs_yc ht ⟨rfl, fs_mk ht hV⟩ t 0 (by omega)⟩
theorem i_vc_solutions {k : Nat} {u : SX} {v : SY} (I : i_Rel k u v) (hk : k + 3 ≤ 1536) : wpX_solutions (fun r u' => wpY_solutions (fun r' v' => r' = r ∧ i_Rel (k + 3) u' v') v) u := by
  obtain ⟨t, m, c, a, sv, ss, tr, ys, yd, ht, hV, rfl, rfl⟩ := I
  obtain ⟨r, hX, hY⟩ := fs_l4 (m := m) (a := a) ht hV 625 0 rfl 0
  exact ⟨626, hX _ _ _ _ _ (fun sv' ss' => ⟨626, hY _ _ _ _ (fun yd' tr' ys' => ⟨rfl, fs_mk ht hV⟩)⟩)⟩
theorem i_vc_solution {k : Nat} {u : SX} {v : SY} (I : i_Rel k u v) (hk : k + 3 ≤ 1536) (v1 : Int32) (v2 : Int32) : wpX_solution (fun r u' => wpY_solution (fun r' v' => r' = r ∧ i_Rel (k + 3) u' v') v v1 v2) u v1 v2 := by
  obtain ⟨t, m, c, a, sv, ss, tr, ys, yd, ht, hV, rfl, rfl⟩ := I
  obtain ⟨r, hX, hY⟩ := fs_l5 (m := m) (a := a) v1 v2 ht hV 625 0 rfl 0
  exact ⟨626, hX _ _ _ _ _ (fun sv' ss' => ⟨626, hY _ _ _ _ (fun yd' tr' ys' => ⟨rfl, fs_mk ht hV⟩)⟩)⟩
theorem i_vc_with {k : Nat} {u : SX} {v : SY} (I : i_Rel k u v) (hk : k + 3 ≤ 1536) (v1 : Int32) (v2 : Int32) : wpX_with (fun r u' => wpY_with (fun r' v' => r' = r ∧ i_Rel (k + 3) u' v') v v1 v2) u v1 v2 := by
  obtain ⟨t, m, c, a, sv, ss, tr, ys, yd, ht, hV, rfl, rfl⟩ := I
  obtain ⟨r, hX, hY⟩ := fs_l6 (m := m) (a := a) v1 v2 ht hV 625 0 rfl 0
  exact ⟨626, hX _ _ _ _ _ (fun sv' ss' => ⟨626, hY _ _ _ _ (fun yd' tr' ys' => ⟨rfl, fs_mk ht hV⟩)⟩)⟩
theorem i_vc_evaluate {k : Nat} {u : SX} {v : SY} (I : i_Rel k u v) (hk : k + 3 ≤ 1536) (v1 : Int32) : wpX_evaluate (fun r u' => wpY_evaluate (fun r' v' => r' = r ∧ i_Rel (k + 3) u' v') v v1) u v1 := by
  obtain ⟨t, m, c, a, sv, ss, tr, ys, yd, ht, hV, rfl, rfl⟩ := I
  have hH := fs_H_le c t
  refine ⟨5, fs_xv1 (v := 0) (by decide) (fs_xv1 (v := 1) (by decide) (fs_xv1 (v := 2) (by decide) (fs_xv1 (v := 3) (by decide) (br_t (by decide) (fs_xru (fs_e v1) ht hV fs_e4 (fun ss' hss => ?_))))))⟩
  dsimp only
  by_cases z : fs_H c t = 0
  · refine br_f (by rw [z]; decide) ?_
    refine ⟨5, fs_yv1 (v := 0) (by decide) (fs_yv1 (v := 1) (by decide) (fs_yv1 (v := 2) (by decide) (fs_yv1 (v := 3) (by decide) (br_t (by decide) (fs_yru (fs_e v1) ht hV fs_e4 (fun ys' hys => ?_))))))⟩
    exact br_t (by rw [z]; decide) ⟨rfl, fs_mk ht hV⟩
  · obtain ⟨p, hp⟩ : ∃ p, fs_H c t = p + 1 := ⟨fs_H c t - 1, by omega⟩
    have hin : vp_in (nI (fs_H c t) - 1) 48 := by
      rw [hp, nI_pred p]
      exact vp_in_nI (by omega) (by decide)
    have hcl : (nI (fs_H c t) - 1).toNatClampNeg = p := by
      rw [hp, nI_pred p]
      exact nI_clamp (by omega)
    refine br_t (nI_le (a := 1) (by omega) (by omega)) ⟨hin, ?_⟩
    refine ⟨5, fs_yv1 (v := 0) (by decide) (fs_yv1 (v := 1) (by decide) (fs_yv1 (v := 2) (by decide) (fs_yv1 (v := 3) (by decide) (br_t (by decide) (fs_yru (fs_e v1) ht hV fs_e4 (fun ys' hys => ?_))))))⟩
    refine br_f (nI_ne0 (by omega) (by omega)) ⟨hin, ?_, fs_mk ht hV⟩
    rw [hcl, hss p (by omega), hys p (by omega)]
theorem i_vc_greatest {k : Nat} {u : SX} {v : SY} (I : i_Rel k u v) (hk : k + 3 ≤ 1536) : wpX_greatest (fun r u' => wpY_greatest (fun r' v' => r' = r ∧ i_Rel (k + 3) u' v') v) u := by
  obtain ⟨t, m, c, a, sv, ss, tr, ys, yd, ht, hV, rfl, rfl⟩ := I
  have hH := fs_H_le c t
  by_cases z : fs_H c t = 0
  · refine br_f (by rw [z]; decide) ?_
    exact ⟨626, fs_l8e ht hV z (-2147483648) _ (fun yd' tr' ys' => ⟨rfl, fs_mk ht hV⟩) 625 0 rfl yd tr ys⟩
  · obtain ⟨p, hp⟩ : ∃ p, fs_H c t = p + 1 := ⟨fs_H c t - 1, by omega⟩
    obtain ⟨r, hX, hY⟩ := fs_l8 (m := m) (a := a) ht hV hp 625 0 rfl (-2147483648)
    rw [hp]
    refine br_t (nI_le (a := 1) (by omega) (by omega)) ⟨626, hX _ _ _ _ (fun sv' ss' => ⟨626, hY _ _ _ _ (fun yd' tr' ys' => ⟨rfl, ?_⟩)⟩)⟩
    exact fs_mk' ht hV hp rfl
