theorem fs_yt {post : Int32 → Prop} {c : Int32} (hc : fs_C c) (h : post (nI (fs_tk c))) : wpY_takes post c := by
  unfold wpY_takes
  by_cases n0 : c = 0
  · exact br_f (by rw [n0]; decide) (fs_p (by rw [n0]; decide) h)
  · by_cases n1 : c = 1
    · exact br_f (by rw [n1]; decide) (fs_p (by rw [n1]; decide) h)
    · by_cases n11 : c = 11
      · exact br_t (by rw [n11]; decide) (br_t (by rw [n11]; decide) (fs_p (by rw [n11]; decide) h))
      · by_cases n12 : c = 12
        · exact br_t (by rw [n12]; decide) (br_t (by rw [n12]; decide) (fs_p (by rw [n12]; decide) h))
        · have hB := fs_B_of hc n0 n1 n11 n12
          rw [fs_tk_B hB] at h
          obtain ⟨_, l10, _⟩ := fs_B_lo hB
          have l1 : 1 < c := by
            unfold fs_B at hB
            rcases hB with rfl | rfl | rfl | rfl | rfl | rfl | rfl | rfl | rfl <;> decide
          exact br_t l1 (br_f l10 h)
theorem fs_yw {post : Int32 → Prop} {c x y : Int32} (h : post (fs_w c x y)) : wpY_worked post c x y := by
  unfold fs_w at h
  unfold wpY_worked
  exact fs_ite (post := post) h (fun _ h => h) fun _ h => fs_ite (post := post) h (fun _ h => h) fun _ h => fs_ite (post := post) h (fun _ h => h)
    fun _ h => fs_ite (post := post) h (fun _ h => fs_ite (post := post) h (fun _ h => h) fun _ h => h)
    fun _ h => fs_ite (post := post) h (fun _ h => fs_ite (post := post) h (fun _ h => h) fun _ h => h)
    fun _ h => fs_ite (post := post) h (fun _ h => fs_ite (post := post) h (fun _ h => h) fun _ h => h)
    fun _ h => fs_ite (post := post) h (fun _ h => fs_ite (post := post) h (fun _ h => h) fun _ h => h)
    fun _ h => fs_ite (post := post) h (fun _ h => fs_ite (post := post) h (fun _ h => h) fun _ h => fs_ite (post := post) h (fun _ h => h) fun _ h => h)
    fun _ h => fs_ite (post := post) h (fun _ h => fs_ite (post := post) h (fun _ h => h) fun _ h => h) fun _ h => h
/-- Y's run of the tokens -/
theorem fs_yr {post : Int32 → SY → Prop} {t : Nat} {m c a tr w : Nat → Int32} (ht : t ≤ 48) (hV : fs_V c t) (hw : ∀ j, j < 4 → tr j = w j)
    (hp : ∀ ss : Nat → Int32, (∀ j, j < fs_H c t → ss j = fs_S c a w t j) → post (fs_bI (fs_A c a w t)) (nI t, nI (fs_H c t), m, c, a, tr, ss)) :
    ∀ d i : Nat, i + d = t → ∀ ss : Nat → Int32, (∀ j, j < fs_H c i → ss j = fs_S c a w i j) → wY_run_9 post (nI t) (d + 1) (fs_bI (fs_A c a w i)) (nI i) (nI (fs_H c i)) m c a tr ss := by
  intro d
  induction d with
  | zero =>
    intro i hi ss hs
    have e : i = t := by omega
    subst e
    exact br_t (nI_le (Nat.le_refl i) (by omega)) ⟨fs_nar _, hp ss hs⟩
  | succ d ih =>
    intro i hi ss hs
    obtain ⟨hC, hT⟩ := hV i (by omega)
    have hH := fs_H_le c i
    have hlt : ¬ nI t ≤ nI i := nI_ge (by omega) (by omega)
    have hin : vp_in (nI i) 48 := vp_in_nI (by omega) (by omega)
    have ci : (nI i).toNatClampNeg = i := nI_clamp (by omega)
    refine br_f hlt ⟨hin, nm_r (e' := c i) (by rw [ci]) ?_⟩
    refine fs_yt hC ?_
    by_cases n12 : c i = 12
    · have eT : fs_tk (c i) = 1 := by rw [n12, fs_tk_12]
      obtain ⟨p, hp1⟩ : ∃ p, fs_H c i = p + 1 := ⟨fs_H c i - 1, by omega⟩
      have IH := ih (i + 1) (by omega) ss (fs_pop n12 hs)
      have e1 : fs_H c i - 1 = p := by omega
      rw [fs_H12 n12, fs_A12 n12, e1] at IH
      rw [eT, hp1]
      refine br_f (by decide) (br_f (by rw [n12]; decide) (br_t n12 (nm_r (nI_pred p) ⟨vp_in_nI (by omega) (by omega), ?_⟩)))
      rw [nI_clamp (n := p) (by omega), hs p (by omega)]
      by_cases z : fs_S c a w i p = 0
      · rw [if_pos z] at IH
        exact br_t z (nm_r (nI_1 i) IH)
      · rw [if_neg z] at IH
        exact br_f z (nm_r (nI_1 i) IH)
    · by_cases n11 : c i = 11
      · have eT : fs_tk (c i) = 1 := by rw [n11, fs_tk_11]
        obtain ⟨p, hp1⟩ : ∃ p, fs_H c i = p + 1 := ⟨fs_H c i - 1, by omega⟩
        have hpp : fs_H c i - fs_tk (c i) = p := by omega
        have hv : ∀ x y : Int32, fs_v (c i) (a i) x y w = if x = 0 then 1 else 0 := by
          intro x y
          unfold fs_v
          rw [if_neg (by rw [n11]; decide), if_neg (by rw [n11]; decide), if_pos n11]
        have hi48 : vp_in (nI p) 48 := vp_in_nI (by omega) (by omega)
        have IH := ih (i + 1) (by omega) _ (fs_push n12 hpp hs rfl)
        rw [hv, fs_An n12, fs_H_s, fs_pt_n n12, hpp] at IH
        rw [eT, hp1]
        refine br_f (by decide) (br_t n11 ?_)
        rw [nI_pred p, nI_clamp (n := p) (by omega), hs p (by omega)]
        refine ⟨hi48, ?_⟩
        by_cases z : fs_S c a w i p = 0
        · rw [if_pos z] at IH
          exact br_t z ⟨hi48, nm_e (nm_r (nI_1 i) IH)⟩
        · rw [if_neg z] at IH
          exact br_f z ⟨hi48, nm_e (nm_r (nI_1 i) IH)⟩
      · by_cases n0 : c i = 0
        · have eT : fs_tk (c i) = 0 := by rw [n0, fs_tk_0]
          have hpp : fs_H c i - fs_tk (c i) = fs_H c i := by omega
          have hv : ∀ x y : Int32, fs_v (c i) (a i) x y w = a i := by
            intro x y
            unfold fs_v
            rw [if_pos n0]
          have IH := ih (i + 1) (by omega) _ (fs_push n12 hpp hs rfl)
          rw [hv, fs_An n12, fs_H_s, fs_pt_n n12, hpp] at IH
          rw [eT]
          refine br_f (by decide) (br_f n11 (br_f n12 (br_t n0 ⟨hin, ?_⟩)))
          unfold wY_run_186
          refine ⟨vp_in_nI (by omega) (by omega), nm_r (e' := upd ss (fs_H c i) (a i)) (by rw [nI_clamp (n := fs_H c i) (by omega), ci]) (nm_r (nI_1 _) (nm_r (nI_1 i) IH))⟩
        · by_cases n1 : c i = 1
          · have eT : fs_tk (c i) = 0 := by rw [n1, fs_tk_1]
            have hpp : fs_H c i - fs_tk (c i) = fs_H c i := by omega
            have hv : ∀ x y : Int32, fs_v (c i) (a i) x y w = w (a i &&& 3).toNatClampNeg := by
              intro x y
              unfold fs_v
              rw [if_neg n0, if_pos n1]
            have IH := ih (i + 1) (by omega) _ (fs_push n12 hpp hs rfl)
            rw [hv, fs_An n12, fs_H_s, fs_pt_n n12, hpp] at IH
            rw [eT]
            refine br_f (by decide) (br_f n11 (br_f n12 (br_f n0 ⟨hin, fs_i3 _, ?_⟩)))
            unfold wY_run_186
            refine ⟨vp_in_nI (by omega) (by omega), nm_r (e' := upd ss (fs_H c i) (w (a i &&& 3).toNatClampNeg)) (by rw [nI_clamp (n := fs_H c i) (by omega), ci, hw _ (fs_i3n (a i))]) (nm_r (nI_1 _) (nm_r (nI_1 i) IH))⟩
          · have hB := fs_B_of hC n0 n1 n11 n12
            have eT : fs_tk (c i) = 2 := fs_tk_B hB
            obtain ⟨p, hp1⟩ : ∃ p, fs_H c i = p + 1 + 1 := ⟨fs_H c i - 2, by omega⟩
            have hpp : fs_H c i - fs_tk (c i) = p := by omega
            have hi48 : vp_in (nI p) 48 := vp_in_nI (by omega) (by omega)
            have IH := ih (i + 1) (by omega) _ (fs_push n12 hpp hs rfl)
            rw [fs_v_B hB, fs_An n12, fs_H_s, fs_pt_n n12, hpp] at IH
            rw [eT, hp1]
            refine br_t (by decide) (nm_r (nI_pred (p + 1)) ?_)
            rw [nI_pred p]
            refine ⟨hi48, vp_in_nI (by omega) (by omega), fs_yw ⟨hi48, nm_r (e' := upd ss p (fs_w (c i) (fs_S c a w i p) (fs_S c a w i (p + 1)))) ?_ (nm_r (nI_1 i) IH)⟩⟩
            rw [nI_clamp (n := p) (by omega), nI_clamp (n := p + 1) (by omega), hs p (by omega), hs (p + 1) (by omega)]
theorem fs_yru {post : Int32 → SY → Prop} {t : Nat} {yd : Int32} {m c a tr ss : Nat → Int32} (w : Nat → Int32) (ht : t ≤ 48) (hV : fs_V c t) (hw : ∀ j, j < 4 → tr j = w j)
    (hp : ∀ ss : Nat → Int32, (∀ j, j < fs_H c t → ss j = fs_S c a w t j) → post (fs_bI (fs_A c a w t)) (nI t, nI (fs_H c t), m, c, a, tr, ss)) : wpY_run post (nI t, yd, m, c, a, tr, ss) :=
  ⟨t + 1, fs_yr (w := w) ht hV hw hp t 0 (by omega) ss (fun j hj => absurd hj (Nat.not_lt_zero j))⟩
theorem fs_yl {post : SY → Prop} {ft yd : Int32} {m c a tr ss : Nat → Int32} {n : Nat} (hn : n < 625) (hp : ∀ tr' : Nat → Int32, (∀ j, j < 4 → tr' j = fs_d n j) → post (ft, yd, m, c, a, tr', ss)) : wpY_lay post (ft, yd, m, c, a, tr, ss) (nI n) := by
  have e0 : nI n / 125 = nI (n / 125) := pk_div (d := 125) (by omega) (by decide) (by decide)
  have e25 : nI n / 25 = nI (n / 25) := pk_div (d := 25) (by omega) (by decide) (by decide)
  have e5 : nI n / 5 = nI (n / 5) := pk_div (d := 5) (by omega) (by decide) (by decide)
  have e1 : nI (n / 25) - nI (n / 25) / 5 * 5 = nI (n / 25 % 5) := pk_rem (d := 5) (by omega) (by decide) (by decide)
  have e2 : nI (n / 5) - nI (n / 5) / 5 * 5 = nI (n / 5 % 5) := pk_rem (d := 5) (by omega) (by decide) (by decide)
  have e3 : nI n - nI n / 5 * 5 = nI (n % 5) := pk_rem (d := 5) (by omega) (by decide) (by decide)
  refine ⟨by decide, nm_r (congrArg (upd tr 0) e0) ⟨by decide, by decide, nm_r (congrArg (upd _ 1) ((by rw [e25] : nI n / 25 - nI n / 25 / 5 * 5 = nI (n / 25) - nI (n / 25) / 5 * 5).trans e1)) ⟨by decide, by decide, nm_r (congrArg (upd _ 2) ((by rw [e5] : nI n / 5 - nI n / 5 / 5 * 5 = nI (n / 5) - nI (n / 5) / 5 * 5).trans e2)) ⟨by decide, nm_r (congrArg (upd _ 3) e3) (hp _ ?_)⟩⟩⟩⟩
  intro j hj
  have e : j = 0 ∨ j = 1 ∨ j = 2 ∨ j = 3 := by omega
  rcases e with rfl | rfl | rfl | rfl
  · rw [pk_un (show (0 : Nat) ≠ 3 by decide), pk_un (show (0 : Nat) ≠ 2 by decide), pk_un (show (0 : Nat) ≠ 1 by decide), pk_us]
    rfl
  · rw [pk_un (show (1 : Nat) ≠ 3 by decide), pk_un (show (1 : Nat) ≠ 2 by decide), pk_us]
    rfl
  · rw [pk_un (show (2 : Nat) ≠ 3 by decide), pk_us]
    rfl
  · rw [pk_us]
    rfl
theorem fs_ya {post : Int32 → SY → Prop} {ft yd : Int32} {m c a tr ss w : Nat → Int32} (hw : ∀ j, j < 4 → tr j = w j) : ∀ d v : Nat, v + d = 4 →
    (fs_al m w d v = true → wY_solves_7 post ft yd m c a tr ss 1 (nI 4)) →
    (fs_al m w d v = false → post 0 (ft, yd, m, c, a, tr, ss)) → wY_solves_7 post ft yd m c a tr ss (d + 1) (nI v) := by
  intro d
  induction d with
  | zero =>
    intro v hv f _
    have e : v = 4 := by omega
    subst e
    exact f rfl
  | succ d ih =>
    intro v hv f g
    have hi : vp_in (nI v) 4 := vp_in_nI (by omega) (by decide)
    have cv : (nI v).toNatClampNeg = v := nI_clamp (by omega)
    refine br_f (nI_ge (b := 4) (by omega) (by decide)) ⟨hi, hi, ?_⟩
    rw [cv, hw v (by omega)]
    by_cases z : ((m v >>> (w v &&& 31)) &&& 1) = 0
    · have e : fs_al m w (d + 1) v = false := if_pos z
      exact br_t z (g e)
    · have e : fs_al m w (d + 1) v = fs_al m w d (v + 1) := if_neg z
      rw [e] at f g
      exact br_f z (nm_r (nI_1 v) (ih (v + 1) (by omega) f g))
theorem fs_yi {post : Int32 → SY → Prop} {t n : Nat} {yd : Int32} {m c a tr ss : Nat → Int32} (ht : t ≤ 48) (hV : fs_V c t) (hn : n < 625)
    (hp : ∀ (yd' : Int32) (tr' ss' : Nat → Int32), (∀ j, j < 4 → tr' j = fs_d n j) → (fs_sol m c a t n = true → yd' = nI (fs_H c t) ∧ ∀ j, j < fs_H c t → ss' j = fs_S c a (fs_d n) t j) → post (fs_bI (fs_sol m c a t n)) (nI t, yd', m, c, a, tr', ss')) :
    wpY_solves post (nI t, yd, m, c, a, tr, ss) (nI n) := by
  unfold wpY_solves
  dsimp only
  refine fs_yl hn (fun tr' htr => ?_)
  dsimp only
  refine ⟨5, fs_ya htr 4 0 rfl (fun hal => ?_) (fun hal => ?_)⟩
  · refine br_t (by decide) (fs_yru (fs_d n) ht hV htr (fun ss' hss => ?_))
    have hs : fs_sol m c a t n = fs_A c a (fs_d n) t := by unfold fs_sol; rw [hal]; rfl
    have h := hp (nI (fs_H c t)) tr' ss' htr (fun _ => ⟨rfl, hss⟩)
    rw [hs] at h
    exact ⟨fs_nar _, h⟩
  · have hs : fs_sol m c a t n = false := by unfold fs_sol; rw [hal]; rfl
    have h := hp yd tr' ss htr (fun h => absurd (hs.symm.trans h) (by decide))
    rw [hs] at h
    exact h
/-- Y's height -/
theorem fs_yh {post : Int32 → Prop} {t : Nat} {yd : Int32} {m c a tr ss : Nat → Int32} (ht : t ≤ 48) (hV : fs_V c t) (hp : post (nI (fs_H c t))) : ∀ d i : Nat, i + d = t → wY_height_4 post (nI t) yd m c a tr ss (d + 1) (nI (fs_H c i)) (nI i) := by
  intro d
  induction d with
  | zero =>
    intro i hi
    have e : i = t := by omega
    subst e
    exact br_t (nI_le (Nat.le_refl i) (by omega)) hp
  | succ d ih =>
    intro i hi
    obtain ⟨hC, hT⟩ := hV i (by omega)
    have hH := fs_H_le c i
    have hlt : ¬ nI t ≤ nI i := nI_ge (by omega) (by omega)
    have hin : vp_in (nI i) 48 := vp_in_nI (by omega) (by omega)
    have ci : (nI i).toNatClampNeg = i := nI_clamp (by omega)
    have IH := ih (i + 1) (by omega)
    rw [fs_H_s] at IH
    have ea : ∀ x y z : Int32, x + (y - z) = x - z + y := by
      intro x y z
      grind
    refine br_f hlt ⟨hin, ?_⟩
    rw [ci]
    by_cases n12 : c i = 12
    · have e0 : fs_pt (c i) = 0 := by rw [n12, fs_pt_12]
      rw [e0, Nat.add_zero] at IH
      refine br_t n12 ?_
      unfold wY_height_29
      rw [ci]
      refine ⟨hin, fs_yt hC (nm_r ?_ (nm_r (nI_1 i) IH))⟩
      rw [ea, pk_sub hT, Int32.add_zero]
      rfl
    · rw [fs_pt_n n12] at IH
      refine br_f n12 ?_
      unfold wY_height_29
      rw [ci]
      refine ⟨hin, fs_yt hC (nm_r ?_ (nm_r (nI_1 i) IH))⟩
      rw [ea, pk_sub hT, nI_1]
theorem fs_yhw {post : Int32 → Prop} {t : Nat} {yd : Int32} {m c a tr ss : Nat → Int32} (ht : t ≤ 48) (hV : fs_V c t) (hp : post (nI (fs_H c t))) : wpY_height post (nI t, yd, m, c, a, tr, ss) :=
  ⟨t + 1, fs_yh ht hV hp t 0 (by omega)⟩
theorem fs_yc {post : Int32 → Prop} {t : Nat} {yd : Int32} {m c a tr ss : Nat → Int32} (ht : t ≤ 48) (hp : post (nI (fs_D c t))) : ∀ d i : Nat, i + d = t → wY_conditions_4 post (nI t) yd m c a tr ss (d + 1) (nI (fs_D c i)) (nI i) := by
  intro d
  induction d with
  | zero =>
    intro i hi
    have e : i = t := by omega
    subst e
    exact br_t (nI_le (Nat.le_refl i) (by omega)) hp
  | succ d ih =>
    intro i hi
    have hlt : ¬ nI t ≤ nI i := nI_ge (by omega) (by omega)
    have hin : vp_in (nI i) 48 := vp_in_nI (by omega) (by omega)
    have ci : (nI i).toNatClampNeg = i := nI_clamp (by omega)
    have IH := ih (i + 1) (by omega)
    rw [fs_D_s] at IH
    refine br_f hlt ⟨hin, ?_⟩
    rw [ci]
    by_cases n12 : c i = 12
    · have e0 : 1 - fs_pt (c i) = 1 := by rw [n12, fs_pt_12]
      rw [e0] at IH
      exact br_t n12 (nm_r (nI_1 _) (nm_r (nI_1 i) IH))
    · have e0 : 1 - fs_pt (c i) = 0 := by rw [fs_pt_n n12]
      rw [e0, Nat.add_zero] at IH
      exact br_f n12 (nm_r (nI_1 i) IH)
