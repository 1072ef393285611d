theorem fs_xt {post : Int32 → Prop} {c : Int32} (hc : fs_C c) (h : post (nI (fs_tk c))) : wpX_entriesTaken post c := by
  unfold wpX_entriesTaken
  by_cases n0 : c = 0
  · exact br_t n0 (fs_p (by rw [n0]; decide) h)
  · by_cases n1 : c = 1
    · exact br_f n0 (br_t n1 (fs_p (by rw [n1]; decide) h))
    · by_cases n11 : c = 11
      · exact br_f n0 (br_f n1 (br_t n11 (fs_p (by rw [n11]; decide) h)))
      · by_cases n12 : c = 12
        · exact br_f n0 (br_f n1 (br_f n11 (br_t n12 (fs_p (by rw [n12]; decide) h))))
        · exact br_f n0 (br_f n1 (br_f n11 (br_f n12 (fs_p (by rw [fs_tk_B (fs_B_of hc n0 n1 n11 n12)]; decide) h))))
theorem fs_xc {post : Int32 → Prop} {c x y : Int32} (hB : fs_B c) (h : post (fs_w c x y)) : wpX_combined post c x y := by
  obtain ⟨l2, l10, _⟩ := fs_B_lo hB
  unfold fs_w at h
  unfold wpX_combined
  refine br_f l2 (br_f l10 ?_)
  exact fs_ite (post := post) h (fun _ h => h) fun _ h => fs_ite (post := post) h (fun _ h => h) fun _ h => fs_ite (post := post) h (fun _ h => h)
    fun _ h => fs_ite (post := post) h (fun _ h => fs_ite (post := post) h (fun _ h => h) fun _ h => h)
    fun _ h => fs_ite (post := post) h (fun _ h => fs_ite (post := post) h (fun _ h => h) fun _ h => h)
    fun _ h => fs_ite (post := post) h (fun _ h => fs_ite (post := post) h (fun _ h => h) fun _ h => h)
    fun _ h => fs_ite (post := post) h (fun _ h => fs_ite (post := post) h (fun _ h => h) fun _ h => h)
    fun _ h => fs_ite (post := post) h (fun _ h => fs_ite (post := post) h (fun _ h => h) fun _ h => fs_ite (post := post) h (fun _ h => h) fun _ h => h)
    fun _ h => br_c (fun _ => fs_ite (post := post) h (fun _ h => fs_ite (post := post) h (fun _ h => h) fun _ h => h) fun _ h => h) (fun _ => trivial)
theorem fs_xe {post : Int32 → Prop} {ft fd fm : Int32} {m cs as sv ss : Nat → Int32} {c arg p2 : Int32} (hc : fs_C c) (n12 : ¬ c = 12) (i1 : 1 ≤ fs_tk c → vp_in p2 48) (i2 : 2 ≤ fs_tk c → vp_in (p2 + 1) 48) (h : post (fs_v c arg (ss p2.toNatClampNeg) (ss (p2 + 1).toNatClampNeg) sv)) : wpX_entryPut post (ft, fd, fm, m, cs, as, sv, ss) c arg p2 := by
  unfold fs_v at h
  unfold wpX_entryPut
  dsimp only
  refine fs_ite (post := post) h (fun _ h => h) fun n0 h => fs_ite (post := post) h (fun _ h => ⟨fs_i3 arg, h⟩) fun n1 h => fs_ite (post := post) h (fun e h => ⟨i1 (by rw [e, fs_tk_11]; exact Nat.le_refl 1), fs_ite (post := post) h (fun _ h => h) fun _ h => h⟩) fun n11 h => ?_
  have hB := fs_B_of hc n0 n1 n11 n12
  exact ⟨i1 (by rw [fs_tk_B hB]; decide), i2 (by rw [fs_tk_B hB]; decide), fs_xc hB h⟩
/-- X's run of the tokens -/
theorem fs_xr {post : Int32 → SX → Prop} {t : Nat} {fd fm : Int32} {m c a sv w : Nat → Int32} (ht : t ≤ 48) (hV : fs_V c t) (hw : ∀ j, j < 4 → sv j = w j)
    (hp : ∀ ss : Nat → Int32, (∀ j, j < fs_H c t → ss j = fs_S c a w t j) → post (fs_bI (fs_A c a w t)) (nI t, fd, fm, m, c, a, sv, ss)) :
    ∀ d i : Nat, i + d = t → ∀ ss : Nat → Int32, (∀ j, j < fs_H c i → ss j = fs_S c a w i j) → wX_runTokens_6 post (nI t) fd fm (d + 1) (fs_bI (fs_A c a w i)) (nI (fs_H c i)) (nI i) m c a sv ss := by
  intro d
  induction d with
  | zero =>
    intro i hi ss hs
    have e : i = t := by omega
    subst e
    exact br_t (nI_le (Nat.le_refl i) (by omega)) ⟨fs_nar _, hp ss hs⟩
  | succ d ih =>
    intro i hi ss hs
    obtain ⟨hC, hT⟩ := hV i (by omega)
    have hH := fs_H_le c i
    have hlt : ¬ nI t ≤ nI i := nI_ge (by omega) (by omega)
    have hin : vp_in (nI i) 48 := vp_in_nI (by omega) (by omega)
    have ci : (nI i).toNatClampNeg = i := nI_clamp (by omega)
    refine br_f hlt ⟨hin, nm_r (e' := c i) (by rw [ci]) ?_⟩
    refine fs_xt hC ?_
    refine nm_r (pk_sub hT) ?_
    by_cases e : c i = 12
    · have eT : fs_tk (c i) = 1 := by rw [e, fs_tk_12]
      refine br_t e ?_
      have IH := ih (i + 1) (by omega) ss (fs_pop e hs)
      rw [fs_H12 e, fs_A12 e] at IH
      rw [eT]
      cases hA : fs_A c a w i with
      | false =>
        rw [hA] at IH
        refine br_t rfl (nm_r (nI_1 i) ?_)
        have e0 : (if fs_S c a w i (fs_H c i - 1) = 0 then false else false) = false := by split <;> rfl
        rw [e0] at IH
        exact IH
      | true =>
        rw [hA] at IH
        have hx : ss (nI (fs_H c i - 1)).toNatClampNeg = fs_S c a w i (fs_H c i - 1) := by
          rw [nI_clamp (by omega)]
          exact hs _ (by omega)
        refine br_f (by decide) ⟨vp_in_nI (by omega) (by omega), ?_⟩
        rw [hx]
        by_cases z : fs_S c a w i (fs_H c i - 1) = 0
        · rw [if_pos z] at IH
          exact br_t z (nm_r (nI_1 i) IH)
        · rw [if_neg z] at IH
          exact br_f z (nm_r (nI_1 i) IH)
    · refine br_f e ⟨hin, ?_⟩
      have hp1 : fs_H c i - fs_tk (c i) < 48 := by omega
      have cp : (nI (fs_H c i - fs_tk (c i))).toNatClampNeg = fs_H c i - fs_tk (c i) := nI_clamp (by omega)
      have cp1 : (nI (fs_H c i - fs_tk (c i)) + 1).toNatClampNeg = fs_H c i - fs_tk (c i) + 1 := by
        rw [nI_1]
        exact nI_clamp (by omega)
      refine fs_xe hC e (fun _ => vp_in_nI hp1 (by omega)) (fun h2 => by rw [nI_1]; exact vp_in_nI (by omega) (by omega)) ?_
      refine ⟨vp_in_nI hp1 (by omega), nm_r (e' := upd ss (fs_H c i - fs_tk (c i)) (fs_v (c i) (a i) (ss (fs_H c i - fs_tk (c i))) (ss (fs_H c i - fs_tk (c i) + 1)) sv)) (by rw [cp, cp1, ci]) (nm_r (nI_1 _) (nm_r (nI_1 i) ?_))⟩
      have IH := ih (i + 1) (by omega) _ (fs_push e rfl hs (fs_v_c (a := a i) hC e hw (fun h1 => hs _ (by omega)) (fun h2 => hs _ (by omega))))
      rw [fs_An e, fs_H_s, fs_pt_n e] at IH
      exact IH
theorem fs_xru {post : Int32 → SX → Prop} {t : Nat} {fd fm : Int32} {m c a sv ss : Nat → Int32} (w : Nat → Int32) (ht : t ≤ 48) (hV : fs_V c t) (hw : ∀ j, j < 4 → sv j = w j)
    (hp : ∀ ss : Nat → Int32, (∀ j, j < fs_H c t → ss j = fs_S c a w t j) → post (fs_bI (fs_A c a w t)) (nI t, fd, fm, m, c, a, sv, ss)) : wpX_runTokens post (nI t, fd, fm, m, c, a, sv, ss) :=
  ⟨t + 1, fs_xr (w := w) ht hV hw hp t 0 (by omega) ss (fun j hj => absurd hj (Nat.not_lt_zero j))⟩
/-- X's values of assignment n -/
theorem fs_xs1 {post : SX → Prop} {ft fd fm x3 : Int32} {m c a ss sv : Nat → Int32} {k q v : Nat} (hq : q < 2 ^ 31) (hv : v < 4) (e3 : nI v + (-1) = x3)
    (h : wX_setAssignment_4 post ft fd fm k (nI (q / 5)) x3 m c a (upd sv v (nI (q % 5))) ss) : wX_setAssignment_4 post ft fd fm (k + 1) (nI q) (nI v) m c a sv ss := by
  have e1 : upd sv (nI v).toNatClampNeg (nI q - nI q / 5 * 5) = upd sv v (nI (q % 5)) := by
    rw [nI_clamp (by omega)]
    exact congrArg (upd sv v) (pk_rem (d := 5) hq (by decide) (by decide))
  have e2 : nI q / 5 = nI (q / 5) := pk_div (d := 5) hq (by decide) (by decide)
  exact br_f (nI_pos (by omega)) ⟨by decide, vp_in_nI hv (by decide), nm_r e1 ⟨by decide, nm_r e2 (nm_r e3 h)⟩⟩
theorem fs_xsa {post : SX → Prop} {ft fd fm : Int32} {m c a ss sv : Nat → Int32} {n : Nat} (hn : n < 625) (hp : ∀ sv' : Nat → Int32, (∀ j, j < 4 → sv' j = fs_d n j) → post (ft, fd, fm, m, c, a, sv', ss)) : wpX_setAssignment post (ft, fd, fm, m, c, a, sv, ss) (nI n) := by
  refine ⟨5, ?_⟩
  refine fs_xs1 (v := 3) (by omega) (by decide) (pk_m1 2) ?_
  refine fs_xs1 (v := 2) (by omega) (by decide) (pk_m1 1) ?_
  refine fs_xs1 (v := 1) (by omega) (by decide) (pk_m1 0) ?_
  refine fs_xs1 (v := 0) (x3 := -1) (by omega) (by decide) (by decide) ?_
  refine br_t (by decide) (hp _ ?_)
  intro j hj
  have e : j = 0 ∨ j = 1 ∨ j = 2 ∨ j = 3 := by omega
  rcases e with rfl | rfl | rfl | rfl
  · rw [pk_us]
    show _ = nI (n / 125)
    exact congrArg nI (by omega)
  · rw [pk_un (show (1 : Nat) ≠ 0 by decide), pk_us]
    show _ = nI (n / 25 % 5)
    exact congrArg nI (by omega)
  · rw [pk_un (show (2 : Nat) ≠ 0 by decide), pk_un (show (2 : Nat) ≠ 1 by decide), pk_us]
    rfl
  · rw [pk_un (show (3 : Nat) ≠ 0 by decide), pk_un (show (3 : Nat) ≠ 1 by decide), pk_un (show (3 : Nat) ≠ 2 by decide), pk_us]
    rfl
theorem fs_xa {post : Int32 → Prop} {ft fd fm : Int32} {m c a sv ss w : Nat → Int32} (hw : ∀ j, j < 4 → sv j = w j) : ∀ d v : Nat, v + d = 4 → post (fs_bI (fs_al m w d v)) → wX_isAllowed_2 post ft fd fm m c a sv ss (d + 1) (nI v) := by
  intro d
  induction d with
  | zero =>
    intro v hv h
    have e : v = 4 := by omega
    subst e
    exact br_t (by decide) h
  | succ d ih =>
    intro v hv h
    have hi : vp_in (nI v) 4 := vp_in_nI (by omega) (by decide)
    have cv : (nI v).toNatClampNeg = v := nI_clamp (by omega)
    refine br_f (nI_ge (b := 4) (by omega) (by decide)) ⟨hi, hi, ?_⟩
    rw [cv, hw v (by omega)]
    by_cases z : ((m v >>> (w v &&& 31)) &&& 1) = 0
    · have e : fs_al m w (d + 1) v = false := if_pos z
      rw [e] at h
      exact br_t z h
    · have e : fs_al m w (d + 1) v = fs_al m w d (v + 1) := if_neg z
      rw [e] at h
      exact br_f z (nm_r (nI_1 v) (ih (v + 1) (by omega) h))
theorem fs_xi {post : Int32 → SX → Prop} {t n : Nat} {fd fm : Int32} {m c a sv ss : Nat → Int32} (ht : t ≤ 48) (hV : fs_V c t) (hn : n < 625)
    (hp : ∀ sv' ss' : Nat → Int32, (∀ j, j < 4 → sv' j = fs_d n j) → (fs_sol m c a t n = true → ∀ j, j < fs_H c t → ss' j = fs_S c a (fs_d n) t j) → post (fs_bI (fs_sol m c a t n)) (nI t, fd, fm, m, c, a, sv', ss')) :
    wpX_isSolution post (nI t, fd, fm, m, c, a, sv, ss) (nI n) := by
  unfold wpX_isSolution
  dsimp only
  refine fs_xsa hn (fun sv' hsv => ?_)
  dsimp only
  refine ⟨5, fs_xa hsv 4 0 rfl ?_⟩
  cases hal : fs_al m (fs_d n) 4 0 with
  | false =>
    have hs : fs_sol m c a t n = false := by unfold fs_sol; rw [hal]; rfl
    have h := hp sv' ss hsv (fun h => absurd (hs.symm.trans h) (by decide))
    rw [hs] at h
    exact br_t rfl h
  | true =>
    refine br_f (by decide) (fs_xru (fs_d n) ht hV hsv (fun ss' hss => ?_))
    have hs : fs_sol m c a t n = fs_A c a (fs_d n) t := by unfold fs_sol; rw [hal]; rfl
    have h := hp sv' ss' hsv (fun _ => hss)
    rw [hs] at h
    dsimp only
    cases hA : fs_A c a (fs_d n) t with
    | false =>
      rw [hA] at h
      exact br_t rfl h
    | true =>
      rw [hA] at h
      exact br_f (by decide) h
