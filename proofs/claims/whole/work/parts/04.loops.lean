theorem fs_625 {n : Nat} (h : n < 625) : ¬ (625 : Int32) ≤ nI n := nI_ge (b := 625) h (by decide)
theorem fs_625e : (625 : Int32) ≤ nI 625 := by decide
/-- solutions: one answer for both sides, whatever lies in the scratch arrays -/
theorem fs_l4 {t : Nat} {m c a : Nat → Int32} (ht : t ≤ 48) (hV : fs_V c t) : ∀ d n : Nat, n + d = 625 → ∀ x1 : Int32, ∃ r : Int32,
    (∀ (post : Int32 → SX → Prop) (fd fm : Int32) (sv ss : Nat → Int32), (∀ sv' ss' : Nat → Int32, post r (nI t, fd, fm, m, c, a, sv', ss')) → wX_solutions_4 post (d + 1) x1 (nI n) (nI t) fd fm m c a sv ss) ∧
    (∀ (post : Int32 → SY → Prop) (yd : Int32) (tr ys : Nat → Int32), (∀ (yd' : Int32) (tr' ys' : Nat → Int32), post r (nI t, yd', m, c, a, tr', ys')) → wY_solutions_4 post (d + 1) x1 (nI n) (nI t) yd m c a tr ys) := by
  intro d
  induction d with
  | zero =>
    intro n hn x1
    have e : n = 625 := by omega
    subst e
    exact ⟨x1, fun post fd fm sv ss hp => br_t fs_625e (hp sv ss), fun post yd tr ys hp => br_t fs_625e (hp yd tr ys)⟩
  | succ d ih =>
    intro n hn x1
    have h6 : n < 625 := by omega
    cases hs : fs_sol m c a t n with
    | false =>
      obtain ⟨r, hX, hY⟩ := ih (n + 1) (by omega) x1
      refine ⟨r, fun post fd fm sv ss hp => br_f (fs_625 h6) (fs_xi ht hV h6 (fun sv' ss' _ _ => ?_)), fun post yd tr ys hp => br_f (fs_625 h6) (fs_yi ht hV h6 (fun yd' tr' ys' _ _ => ?_))⟩
      · rw [hs]
        exact br_t rfl (nm_r (nI_1 n) (hX post fd fm sv' ss' hp))
      · rw [hs]
        exact br_t rfl (nm_r (nI_1 n) (hY post yd' tr' ys' hp))
    | true =>
      obtain ⟨r, hX, hY⟩ := ih (n + 1) (by omega) (x1 + 1)
      refine ⟨r, fun post fd fm sv ss hp => br_f (fs_625 h6) (fs_xi ht hV h6 (fun sv' ss' _ _ => ?_)), fun post yd tr ys hp => br_f (fs_625 h6) (fs_yi ht hV h6 (fun yd' tr' ys' _ _ => ?_))⟩
      · rw [hs]
        exact br_f (by decide) (nm_e (nm_r (nI_1 n) (hX post fd fm sv' ss' hp)))
      · rw [hs]
        exact br_f (by decide) (nm_e (nm_r (nI_1 n) (hY post yd' tr' ys' hp)))
/-- solution -/
theorem fs_l5 {t : Nat} {m c a : Nat → Int32} (k v : Int32) (ht : t ≤ 48) (hV : fs_V c t) : ∀ d n : Nat, n + d = 625 → ∀ x3 : Int32, ∃ r : Int32,
    (∀ (post : Int32 → SX → Prop) (fd fm : Int32) (sv ss : Nat → Int32), (∀ sv' ss' : Nat → Int32, post r (nI t, fd, fm, m, c, a, sv', ss')) → wX_solution_5 post k v (d + 1) x3 (nI n) (nI t) fd fm m c a sv ss) ∧
    (∀ (post : Int32 → SY → Prop) (yd : Int32) (tr ys : Nat → Int32), (∀ (yd' : Int32) (tr' ys' : Nat → Int32), post r (nI t, yd', m, c, a, tr', ys')) → wY_solution_5 post k v (d + 1) x3 (nI n) (nI t) yd m c a tr ys) := by
  intro d
  induction d with
  | zero =>
    intro n hn x3
    have e : n = 625 := by omega
    subst e
    exact ⟨-1, fun post fd fm sv ss hp => br_t fs_625e (hp sv ss), fun post yd tr ys hp => br_t fs_625e (hp yd tr ys)⟩
  | succ d ih =>
    intro n hn x3
    have h6 : n < 625 := by omega
    cases hs : fs_sol m c a t n with
    | false =>
      obtain ⟨r, hX, hY⟩ := ih (n + 1) (by omega) x3
      refine ⟨r, fun post fd fm sv ss hp => br_f (fs_625 h6) (fs_xi ht hV h6 (fun sv' ss' _ _ => ?_)), fun post yd tr ys hp => br_f (fs_625 h6) (fs_yi ht hV h6 (fun yd' tr' ys' _ _ => ?_))⟩
      · rw [hs]
        exact br_t rfl (nm_r (nI_1 n) (hX post fd fm sv' ss' hp))
      · rw [hs]
        exact br_t rfl (nm_r (nI_1 n) (hY post yd' tr' ys' hp))
    | true =>
      by_cases hk : x3 = k
      · refine ⟨fs_d n (v &&& 3).toNatClampNeg, fun post fd fm sv ss hp => br_f (fs_625 h6) (fs_xi ht hV h6 (fun sv' ss' hv _ => ?_)), fun post yd tr ys hp => br_f (fs_625 h6) (fs_yi ht hV h6 (fun yd' tr' ys' hv _ => ?_))⟩
        · rw [hs]
          have h := hp sv' ss'
          rw [← hv _ (fs_i3n v)] at h
          exact br_f (by decide) (br_t hk ⟨fs_i3 v, h⟩)
        · rw [hs]
          have h := hp yd' tr' ys'
          rw [← hv _ (fs_i3n v)] at h
          exact br_f (by decide) (br_t hk ⟨fs_i3 v, h⟩)
      · obtain ⟨r, hX, hY⟩ := ih (n + 1) (by omega) (x3 + 1)
        refine ⟨r, fun post fd fm sv ss hp => br_f (fs_625 h6) (fs_xi ht hV h6 (fun sv' ss' _ _ => ?_)), fun post yd tr ys hp => br_f (fs_625 h6) (fs_yi ht hV h6 (fun yd' tr' ys' _ _ => ?_))⟩
        · rw [hs]
          exact br_f (by decide) (br_f hk (nm_e (nm_r (nI_1 n) (hX post fd fm sv' ss' hp))))
        · rw [hs]
          exact br_f (by decide) (br_f hk (nm_e (nm_r (nI_1 n) (hY post yd' tr' ys' hp))))
/-- with -/
theorem fs_l6 {t : Nat} {m c a : Nat → Int32} (v k : Int32) (ht : t ≤ 48) (hV : fs_V c t) : ∀ d n : Nat, n + d = 625 → ∀ x3 : Int32, ∃ r : Int32,
    (∀ (post : Int32 → SX → Prop) (fd fm : Int32) (sv ss : Nat → Int32), (∀ sv' ss' : Nat → Int32, post r (nI t, fd, fm, m, c, a, sv', ss')) → wX_with_5 post v k (d + 1) x3 (nI n) (nI t) fd fm m c a sv ss) ∧
    (∀ (post : Int32 → SY → Prop) (yd : Int32) (tr ys : Nat → Int32), (∀ (yd' : Int32) (tr' ys' : Nat → Int32), post r (nI t, yd', m, c, a, tr', ys')) → wY_with_5 post v k (d + 1) x3 (nI n) (nI t) yd m c a tr ys) := by
  intro d
  induction d with
  | zero =>
    intro n hn x3
    have e : n = 625 := by omega
    subst e
    exact ⟨x3, fun post fd fm sv ss hp => br_t fs_625e (hp sv ss), fun post yd tr ys hp => br_t fs_625e (hp yd tr ys)⟩
  | succ d ih =>
    intro n hn x3
    have h6 : n < 625 := by omega
    cases hs : fs_sol m c a t n with
    | false =>
      obtain ⟨r, hX, hY⟩ := ih (n + 1) (by omega) x3
      refine ⟨r, fun post fd fm sv ss hp => br_f (fs_625 h6) (fs_xi ht hV h6 (fun sv' ss' _ _ => ?_)), fun post yd tr ys hp => br_f (fs_625 h6) (fs_yi ht hV h6 (fun yd' tr' ys' _ _ => ?_))⟩
      · rw [hs]
        exact br_t rfl (nm_r (nI_1 n) (hX post fd fm sv' ss' hp))
      · rw [hs]
        exact br_t rfl (nm_r (nI_1 n) (hY post yd' tr' ys' hp))
    | true =>
      by_cases hk : fs_d n (v &&& 3).toNatClampNeg = k
      · obtain ⟨r, hX, hY⟩ := ih (n + 1) (by omega) (x3 + 1)
        refine ⟨r, fun post fd fm sv ss hp => br_f (fs_625 h6) (fs_xi ht hV h6 (fun sv' ss' hv _ => ?_)), fun post yd tr ys hp => br_f (fs_625 h6) (fs_yi ht hV h6 (fun yd' tr' ys' hv _ => ?_))⟩
        · rw [hs]
          exact br_f (by decide) ⟨fs_i3 v, br_t ((hv _ (fs_i3n v)).trans hk) (nm_e (nm_r (nI_1 n) (hX post fd fm sv' ss' hp)))⟩
        · rw [hs]
          exact br_f (by decide) ⟨fs_i3 v, br_t ((hv _ (fs_i3n v)).trans hk) (nm_e (nm_r (nI_1 n) (hY post yd' tr' ys' hp)))⟩
      · obtain ⟨r, hX, hY⟩ := ih (n + 1) (by omega) x3
        refine ⟨r, fun post fd fm sv ss hp => br_f (fs_625 h6) (fs_xi ht hV h6 (fun sv' ss' hv _ => ?_)), fun post yd tr ys hp => br_f (fs_625 h6) (fs_yi ht hV h6 (fun yd' tr' ys' hv _ => ?_))⟩
        · rw [hs]
          exact br_f (by decide) ⟨fs_i3 v, br_f (fun z => hk ((hv _ (fs_i3n v)).symm.trans z)) (nm_r (nI_1 n) (hX post fd fm sv' ss' hp))⟩
        · rw [hs]
          exact br_f (by decide) ⟨fs_i3 v, br_f (fun z => hk ((hv _ (fs_i3n v)).symm.trans z)) (nm_r (nI_1 n) (hY post yd' tr' ys' hp))⟩
/-- greatest, with an entry on the stack -/
theorem fs_l8 {t p : Nat} {m c a : Nat → Int32} (ht : t ≤ 48) (hV : fs_V c t) (hH : fs_H c t = p + 1) : ∀ d n : Nat, n + d = 625 → ∀ x1 : Int32, ∃ r : Int32,
    (∀ (post : Int32 → SX → Prop) (fm : Int32) (sv ss : Nat → Int32), (∀ sv' ss' : Nat → Int32, post r (nI t, nI (p + 1), fm, m, c, a, sv', ss')) → wX_greatest_15 post (d + 1) x1 (nI n) (nI t) (nI (p + 1)) fm m c a sv ss) ∧
    (∀ (post : Int32 → SY → Prop) (yd : Int32) (tr ys : Nat → Int32), (∀ (yd' : Int32) (tr' ys' : Nat → Int32), post r (nI t, yd', m, c, a, tr', ys')) → wY_greatest_5 post (d + 1) x1 (nI n) (nI t) yd m c a tr ys) := by
  have hp48 : p < 48 := by
    have := fs_H_le c t
    omega
  have hin : vp_in (nI (p + 1) - 1) 48 := by
    rw [nI_pred p]
    exact vp_in_nI hp48 (by decide)
  have hcl : (nI (p + 1) - 1).toNatClampNeg = p := by
    rw [nI_pred p]
    exact nI_clamp (by omega)
  have hn0 : ¬ nI (p + 1) ≤ 0 := nI_nle (by omega) (by omega)
  intro d
  induction d with
  | zero =>
    intro n hn x1
    have e : n = 625 := by omega
    subst e
    exact ⟨x1, fun post fm sv ss hp => br_t fs_625e (hp sv ss), fun post yd tr ys hp => br_t fs_625e (hp yd tr ys)⟩
  | succ d ih =>
    intro n hn x1
    have h6 : n < 625 := by omega
    cases hs : fs_sol m c a t n with
    | false =>
      obtain ⟨r, hX, hY⟩ := ih (n + 1) (by omega) x1
      refine ⟨r, fun post fm sv ss hp => br_f (fs_625 h6) (fs_xi ht hV h6 (fun sv' ss' _ _ => ?_)), fun post yd tr ys hp => br_f (fs_625 h6) (fs_yi ht hV h6 (fun yd' tr' ys' _ _ => ?_))⟩
      · rw [hs]
        exact br_t rfl (nm_r (nI_1 n) (hX post fm sv' ss' hp))
      · rw [hs]
        exact br_t rfl (nm_r (nI_1 n) (hY post yd' tr' ys' hp))
    | true =>
      by_cases hk : fs_S c a (fs_d n) t p ≤ x1
      · obtain ⟨r, hX, hY⟩ := ih (n + 1) (by omega) x1
        refine ⟨r, fun post fm sv ss hp => br_f (fs_625 h6) (fs_xi ht hV h6 (fun sv' ss' _ hst => ?_)), fun post yd tr ys hp => br_f (fs_625 h6) (fs_yi ht hV h6 (fun yd' tr' ys' _ hst => ?_))⟩
        · have hx : ss' (nI (p + 1) - 1).toNatClampNeg ≤ x1 := by
            rw [hcl, hst hs p (by omega)]
            exact hk
          rw [hs]
          exact br_f (by decide) ⟨hin, br_t hx (nm_r (nI_1 n) (hX post fm sv' ss' hp))⟩
        · obtain ⟨hd, hq⟩ := hst hs
          rw [hH] at hd
          subst hd
          have hx : ys' (nI (p + 1) - 1).toNatClampNeg ≤ x1 := by
            rw [hcl, hq p (by omega)]
            exact hk
          rw [hs]
          exact br_f (by decide) (br_f hn0 ⟨hin, br_t hx (nm_r (nI_1 n) (hY post _ tr' ys' hp))⟩)
      · obtain ⟨r, hX, hY⟩ := ih (n + 1) (by omega) (fs_S c a (fs_d n) t p)
        refine ⟨r, fun post fm sv ss hp => br_f (fs_625 h6) (fs_xi ht hV h6 (fun sv' ss' _ hst => ?_)), fun post yd tr ys hp => br_f (fs_625 h6) (fs_yi ht hV h6 (fun yd' tr' ys' _ hst => ?_))⟩
        · have ex : ss' (nI (p + 1) - 1).toNatClampNeg = fs_S c a (fs_d n) t p := by
            rw [hcl]
            exact hst hs p (by omega)
          have hx : ¬ ss' (nI (p + 1) - 1).toNatClampNeg ≤ x1 := by
            rw [ex]
            exact hk
          rw [hs]
          exact br_f (by decide) ⟨hin, br_f hx ⟨hin, nm_r ex (nm_r (nI_1 n) (hX post fm sv' ss' hp))⟩⟩
        · obtain ⟨hd, hq⟩ := hst hs
          rw [hH] at hd
          subst hd
          have ex : ys' (nI (p + 1) - 1).toNatClampNeg = fs_S c a (fs_d n) t p := by
            rw [hcl]
            exact hq p (by omega)
          have hx : ¬ ys' (nI (p + 1) - 1).toNatClampNeg ≤ x1 := by
            rw [ex]
            exact hk
          rw [hs]
          exact br_f (by decide) (br_f hn0 ⟨hin, br_f hx ⟨hin, nm_r ex (nm_r (nI_1 n) (hY post _ tr' ys' hp))⟩⟩)
/-- greatest on an empty stack: Y goes through all -/
theorem fs_l8e {t : Nat} {m c a : Nat → Int32} (ht : t ≤ 48) (hV : fs_V c t) (hH : fs_H c t = 0) (x1 : Int32) (post : Int32 → SY → Prop) (hp : ∀ (yd' : Int32) (tr' ys' : Nat → Int32), post x1 (nI t, yd', m, c, a, tr', ys')) : ∀ d n : Nat, n + d = 625 → ∀ (yd : Int32) (tr ys : Nat → Int32), wY_greatest_5 post (d + 1) x1 (nI n) (nI t) yd m c a tr ys := by
  intro d
  induction d with
  | zero =>
    intro n hn yd tr ys
    have e : n = 625 := by omega
    subst e
    exact br_t fs_625e (hp yd tr ys)
  | succ d ih =>
    intro n hn yd tr ys
    have h6 : n < 625 := by omega
    refine br_f (fs_625 h6) (fs_yi ht hV h6 (fun yd' tr' ys' _ hst => ?_))
    have IH := ih (n + 1) (by omega) yd' tr' ys'
    cases hs : fs_sol m c a t n with
    | false => exact br_t rfl (nm_r (nI_1 n) IH)
    | true =>
      obtain ⟨hd, _⟩ := hst hs
      rw [hH, nI_0] at hd
      exact br_f (by decide) (br_t (by rw [hd]; decide) (nm_r (nI_1 n) IH))
/-- evaluate: the values -/
def fs_e (x : Int32) (v : Nat) : Int32 := (x >>> ((3 * nI v) &&& 31)) &&& 7
theorem fs_e4 {s : Nat → Int32} {x : Int32} : ∀ j, j < 4 → upd (upd (upd (upd s 0 (fs_e x 0)) 1 (fs_e x 1)) 2 (fs_e x 2)) 3 (fs_e x 3) j = fs_e x j := by
  intro j hj
  have e : j = 0 ∨ j = 1 ∨ j = 2 ∨ j = 3 := by omega
  rcases e with rfl | rfl | rfl | rfl
  · rw [pk_un (show (0 : Nat) ≠ 3 by decide), pk_un (show (0 : Nat) ≠ 2 by decide), pk_un (show (0 : Nat) ≠ 1 by decide), pk_us]
  · rw [pk_un (show (1 : Nat) ≠ 3 by decide), pk_un (show (1 : Nat) ≠ 2 by decide), pk_us]
  · rw [pk_un (show (2 : Nat) ≠ 3 by decide), pk_us]
  · rw [pk_us]
theorem fs_xv1 {post : Int32 → SX → Prop} {x ft fd fm : Int32} {m c a sv ss : Nat → Int32} {k v : Nat} (hv : v < 4) (h : wX_evaluate_2 post x ft fd fm k (nI (v + 1)) m c a (upd sv v (fs_e x v)) ss) : wX_evaluate_2 post x ft fd fm (k + 1) (nI v) m c a sv ss :=
  br_f (nI_ge (b := 4) hv (by decide)) ⟨vp_in_nI hv (by decide), nm_r (e' := upd sv v (fs_e x v)) (by rw [nI_clamp (n := v) (by omega)]; rfl) (nm_r (nI_1 v) h)⟩
theorem fs_yv1 {post : Int32 → SY → Prop} {x ft yd : Int32} {m c a tr ss : Nat → Int32} {k v : Nat} (hv : v < 4) (h : wY_evaluate_2 post x ft yd k (nI (v + 1)) m c a (upd tr v (fs_e x v)) ss) : wY_evaluate_2 post x ft yd (k + 1) (nI v) m c a tr ss :=
  br_f (nI_ge (b := 4) hv (by decide)) ⟨vp_in_nI hv (by decide), nm_r (e' := upd tr v (fs_e x v)) (by rw [nI_clamp (n := v) (by omega)]; rfl) (nm_r (nI_1 v) h)⟩
