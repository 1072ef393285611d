section
theorem pk_us {f : Nat → Int32} {k : Nat} {x : Int32} : upd f k x k = x := if_pos rfl
theorem pk_un {f : Nat → Int32} {k j : Nat} {x : Int32} (h : j ≠ k) : upd f k x j = f j := if_neg h
theorem pk_sub {a b : Nat} (h : b ≤ a) : nI a - nI b = nI (a - b) := by
  obtain ⟨c, rfl⟩ : ∃ c, a = c + b := ⟨a - b, by omega⟩
  rw [← nI_add, Int32.add_sub_cancel, Nat.add_sub_cancel]
theorem pk_m1 (n : Nat) : nI (n + 1) + (-1) = nI n := by
  rw [← nI_1, Int32.add_assoc, show (1 : Int32) + (-1) = 0 from rfl, Int32.add_zero]
theorem pk_mul (a b : Nat) : nI a * nI b = nI (a * b) := (Int32.ofNat_mul a b).symm
theorem pk_div {a d : Nat} (ha : a < 2 ^ 31) (h0 : 0 < d) (hd : d < 2 ^ 31) : nI a / nI d = nI (a / d) := by
  apply Int32.toInt_inj.mp
  rw [lg_idiv_nonneg (by rw [nI_toInt ha]; omega) (by rw [nI_toInt hd]; omega), nI_toInt ha, nI_toInt hd, nI_toInt (Nat.lt_of_le_of_lt (Nat.div_le_self a d) ha)]
  first | rfl | exact (Int.natCast_ediv _ _).symm
theorem pk_rem {a d : Nat} (ha : a < 2 ^ 31) (h0 : 0 < d) (hd : d < 2 ^ 31) : nI a - nI a / nI d * nI d = nI (a % d) := by
  rw [pk_div ha h0 hd, pk_mul, pk_sub (Nat.div_mul_le_self a d)]
  exact congrArg nI (by have := Nat.div_add_mod' a d; omega)
theorem pk_and (x : Int32) {m : Int32} (k : Nat) (hm : m.toBitVec.toNat = 2 ^ k - 1) : x &&& m = nI (x.toBitVec.toNat % 2 ^ k) := by
  apply Int32.toBitVec_inj.mp
  apply BitVec.eq_of_toNat_eq
  rw [Int32.toBitVec_and, BitVec.toNat_and, hm, Nat.and_two_pow_sub_one_eq_mod]
  show _ = (BitVec.ofNat 32 _).toNat
  rw [BitVec.toNat_ofNat]
  exact (Nat.mod_eq_of_lt (Nat.lt_of_le_of_lt (Nat.mod_le _ _) x.toBitVec.isLt)).symm
theorem pk_andE (x : Int32) {m : Int32} (k : Nat) (hm : m.toBitVec.toNat = 2 ^ k - 1) : ∃ j : Nat, j < 2 ^ k ∧ x &&& m = nI j := ⟨_, Nat.mod_lt _ (Nat.two_pow_pos k), pk_and x k hm⟩
theorem pk_andIn (x : Int32) {m : Int32} (k : Nat) (hm : m.toBitVec.toNat = 2 ^ k - 1) (hk : k ≤ 30) : vp_in (x &&& m) (2 ^ k) := by
  obtain ⟨j, hj, e⟩ := pk_andE x k hm
  rw [e]
  exact vp_in_nI hj (Nat.lt_of_le_of_lt (Nat.pow_le_pow_right (by decide) hk) (by decide))
end
section
/-- entries that a code takes (codes from 0 to 12) -/
def fs_tk (c : Int32) : Nat := if c ≤ 1 then 0 else if c ≤ 10 then 2 else 1
/-- entries that a code puts -/
def fs_pt (c : Int32) : Nat := if c = 12 then 0 else 1
/-- the codes that are taken -/
def fs_C (c : Int32) : Prop := c = 0 ∨ c = 1 ∨ c = 2 ∨ c = 3 ∨ c = 4 ∨ c = 5 ∨ c = 6 ∨ c = 7 ∨ c = 8 ∨ c = 9 ∨ c = 10 ∨ c = 11 ∨ c = 12
/-- those that take two entries -/
def fs_B (c : Int32) : Prop := c = 2 ∨ c = 3 ∨ c = 4 ∨ c = 5 ∨ c = 6 ∨ c = 7 ∨ c = 8 ∨ c = 9 ∨ c = 10
theorem fs_C_of {c : Int32} (h0 : ¬ c < 0) (h : ¬ 12 < c) : fs_C c := by
  obtain ⟨j, hj, rfl⟩ := nI_of2 (x := c) (M := 12) (n := 12) (by decide) h0 (Int32.not_lt.mp h)
  have e : j = 0 ∨ j = 1 ∨ j = 2 ∨ j = 3 ∨ j = 4 ∨ j = 5 ∨ j = 6 ∨ j = 7 ∨ j = 8 ∨ j = 9 ∨ j = 10 ∨ j = 11 ∨ j = 12 := by omega
  unfold fs_C
  clear h h0 hj
  rcases e with rfl | rfl | rfl | rfl | rfl | rfl | rfl | rfl | rfl | rfl | rfl | rfl | rfl <;> decide
theorem fs_B_of {c : Int32} (hc : fs_C c) (n0 : ¬ c = 0) (n1 : ¬ c = 1) (n11 : ¬ c = 11) (n12 : ¬ c = 12) : fs_B c := by
  unfold fs_C at hc
  unfold fs_B
  rcases hc with h | h | h | h | h | h | h | h | h | h | h | h | h
  · exact absurd h n0
  · exact absurd h n1
  · exact Or.inl h
  · exact Or.inr (Or.inl h)
  · exact Or.inr (Or.inr (Or.inl h))
  · exact Or.inr (Or.inr (Or.inr (Or.inl h)))
  · exact Or.inr (Or.inr (Or.inr (Or.inr (Or.inl h))))
  · exact Or.inr (Or.inr (Or.inr (Or.inr (Or.inr (Or.inl h)))))
  · exact Or.inr (Or.inr (Or.inr (Or.inr (Or.inr (Or.inr (Or.inl h))))))
  · exact Or.inr (Or.inr (Or.inr (Or.inr (Or.inr (Or.inr (Or.inr (Or.inl h)))))))
  · exact Or.inr (Or.inr (Or.inr (Or.inr (Or.inr (Or.inr (Or.inr (Or.inr h)))))))
  · exact absurd h n11
  · exact absurd h n12
theorem fs_tk_B {c : Int32} (h : fs_B c) : fs_tk c = 2 := by
  unfold fs_B at h
  rcases h with rfl | rfl | rfl | rfl | rfl | rfl | rfl | rfl | rfl <;> decide
theorem fs_tk_0 : fs_tk 0 = 0 := by decide
theorem fs_tk_1 : fs_tk 1 = 0 := by decide
theorem fs_tk_11 : fs_tk 11 = 1 := by decide
theorem fs_tk_12 : fs_tk 12 = 1 := by decide
theorem fs_pt_12 : fs_pt 12 = 0 := if_pos rfl
theorem fs_pt_n {c : Int32} (h : ¬ c = 12) : fs_pt c = 1 := if_neg h
theorem fs_pt_le (c : Int32) : fs_pt c ≤ 1 := by
  unfold fs_pt
  split <;> omega
theorem fs_B_lo {c : Int32} (h : fs_B c) : ¬ c < 2 ∧ ¬ 10 < c ∧ ¬ c = 0 ∧ ¬ c = 1 ∧ ¬ c = 11 ∧ ¬ c = 12 := by
  unfold fs_B at h
  rcases h with rfl | rfl | rfl | rfl | rfl | rfl | rfl | rfl | rfl <;> decide
/-- the height of the stack after i tokens -/
def fs_H (c : Nat → Int32) : Nat → Nat
  | 0 => 0
  | i + 1 => fs_H c i - fs_tk (c i) + fs_pt (c i)
/-- how many of the first i tokens are conditions -/
def fs_D (c : Nat → Int32) : Nat → Nat
  | 0 => 0
  | i + 1 => fs_D c i + (1 - fs_pt (c i))
/-- the first t tokens were taken by right -/
def fs_V (c : Nat → Int32) (t : Nat) : Prop := ∀ i, i < t → fs_C (c i) ∧ fs_tk (c i) ≤ fs_H c i
/-- what a token of two entries puts -/
def fs_w (c x y : Int32) : Int32 :=
  if c = 2 then x + y else if c = 3 then x - y else if c = 4 then x * y
  else if c = 5 then (if y ≤ x then y else x) else if c = 6 then (if x ≤ y then y else x)
  else if c = 7 then (if x = y then 1 else 0) else if c = 8 then (if y ≤ x then 0 else 1)
  else if c = 9 then (if x = 0 then 0 else if y = 0 then 0 else 1)
  else (if x = 0 then (if y = 0 then 0 else 1) else 1)
/-- what a token puts, for the assignment w -/
def fs_v (c a x y : Int32) (w : Nat → Int32) : Int32 :=
  if c = 0 then a else if c = 1 then w (a &&& 3).toNatClampNeg
  else if c = 11 then (if x = 0 then 1 else 0) else fs_w c x y
/-- the stack after i tokens, for the assignment w -/
def fs_S (c a : Nat → Int32) (w : Nat → Int32) : Nat → (Nat → Int32)
  | 0 => fun _ => 0
  | i + 1 => if c i = 12 then fs_S c a w i else
      upd (fs_S c a w i) (fs_H c i - fs_tk (c i))
        (fs_v (c i) (a i) (fs_S c a w i (fs_H c i - fs_tk (c i))) (fs_S c a w i (fs_H c i - fs_tk (c i) + 1)) w)
/-- are all conditions of the first i tokens true? -/
def fs_A (c a : Nat → Int32) (w : Nat → Int32) : Nat → Bool
  | 0 => true
  | i + 1 => if c i = 12 then (if fs_S c a w i (fs_H c i - 1) = 0 then false else fs_A c a w i) else fs_A c a w i
/-- the digits of assignment n -/
def fs_d (n : Nat) : Nat → Int32
  | 0 => nI (n / 125)
  | 1 => nI (n / 25 % 5)
  | 2 => nI (n / 5 % 5)
  | _ => nI (n % 5)
/-- are the values of w from v on (d of them) allowed? -/
def fs_al (m w : Nat → Int32) : Nat → Nat → Bool
  | 0, _ => true
  | d + 1, v => if ((m v >>> (w v &&& 31)) &&& 1) = 0 then false else fs_al m w d (v + 1)
/-- is assignment n a solution? -/
def fs_sol (m c a : Nat → Int32) (t n : Nat) : Bool := fs_al m (fs_d n) 4 0 && fs_A c a (fs_d n) t
def fs_bI : Bool → Int32
  | true => 1
  | false => 0
theorem fs_nar (b : Bool) : narrow .boolean (.int (fs_bI b)) = .int (fs_bI b) := by
  cases b <;> rfl
theorem fs_H_le (c : Nat → Int32) : ∀ i, fs_H c i ≤ i := by
  intro i
  induction i with
  | zero => exact Nat.le_refl 0
  | succ i ih =>
    have := fs_pt_le (c i)
    show fs_H c i - fs_tk (c i) + fs_pt (c i) ≤ i + 1
    omega
theorem fs_D_le (c : Nat → Int32) : ∀ i, fs_D c i ≤ i := by
  intro i
  induction i with
  | zero => exact Nat.le_refl 0
  | succ i ih =>
    show fs_D c i + (1 - fs_pt (c i)) ≤ i + 1
    omega
theorem fs_H_s (c : Nat → Int32) (i : Nat) : fs_H c (i + 1) = fs_H c i - fs_tk (c i) + fs_pt (c i) := rfl
theorem fs_D_s (c : Nat → Int32) (i : Nat) : fs_D c (i + 1) = fs_D c i + (1 - fs_pt (c i)) := rfl
theorem fs_H12 {c : Nat → Int32} {i : Nat} (e : c i = 12) : fs_H c (i + 1) = fs_H c i - 1 := by
  rw [fs_H_s, e, fs_tk_12, fs_pt_12]
  rfl
/-- what is written at t changes nothing below -/
theorem fs_H_upd (c : Nat → Int32) (t : Nat) (x : Int32) : ∀ i, i ≤ t → fs_H (upd c t x) i = fs_H c i := by
  intro i
  induction i with
  | zero => intro _; rfl
  | succ i ih =>
    intro hi
    have e : upd c t x i = c i := pk_un (by omega)
    rw [fs_H_s, fs_H_s, e, ih (by omega)]
theorem fs_D_upd (c : Nat → Int32) (t : Nat) (x : Int32) : ∀ i, i ≤ t → fs_D (upd c t x) i = fs_D c i := by
  intro i
  induction i with
  | zero => intro _; rfl
  | succ i ih =>
    intro hi
    have e : upd c t x i = c i := pk_un (by omega)
    rw [fs_D_s, fs_D_s, e, ih (by omega)]
theorem fs_H_new (c : Nat → Int32) (t : Nat) (x : Int32) : fs_H (upd c t x) (t + 1) = fs_H c t - fs_tk x + fs_pt x := by
  rw [fs_H_s, fs_H_upd c t x t (Nat.le_refl t), pk_us]
theorem fs_D_new (c : Nat → Int32) (t : Nat) (x : Int32) : fs_D (upd c t x) (t + 1) = fs_D c t + (1 - fs_pt x) := by
  rw [fs_D_s, fs_D_upd c t x t (Nat.le_refl t), pk_us]
theorem fs_V_upd {c : Nat → Int32} {t : Nat} {x : Int32} (h : fs_V c t) (hx : fs_C x) (hh : fs_tk x ≤ fs_H c t) : fs_V (upd c t x) (t + 1) := by
  intro i hi
  by_cases e : i = t
  · subst e
    rw [pk_us, fs_H_upd c i x i (Nat.le_refl i)]
    exact ⟨hx, hh⟩
  · rw [pk_un e, fs_H_upd c t x i (by omega)]
    exact h i (by omega)
theorem fs_i3 (x : Int32) : vp_in (x &&& 3) 4 := pk_andIn x 2 (by decide) (by decide)
theorem fs_i3n (x : Int32) : (x &&& 3).toNatClampNeg < 4 := by
  obtain ⟨j, hj, e⟩ := vp_in_of (fs_i3 x) (by decide)
  rw [e, nI_clamp (by omega)]
  exact hj
theorem fs_v_B {c a x y : Int32} {w : Nat → Int32} (h : fs_B c) : fs_v c a x y w = fs_w c x y := by
  obtain ⟨_, _, n0, n1, n11, _⟩ := fs_B_lo h
  unfold fs_v
  rw [if_neg n0, if_neg n1, if_neg n11]
/-- only what is taken matters -/
theorem fs_v_c {c a x y x' y' : Int32} {w w' : Nat → Int32} (hc : fs_C c) (n12 : ¬ c = 12) (hw : ∀ j, j < 4 → w j = w' j) (hx : 1 ≤ fs_tk c → x = x') (hy : 2 ≤ fs_tk c → y = y') : fs_v c a x y w = fs_v c a x' y' w' := by
  by_cases n0 : c = 0
  · unfold fs_v
    rw [if_pos n0, if_pos n0]
  · by_cases n1 : c = 1
    · unfold fs_v
      rw [if_neg n0, if_pos n1, if_neg n0, if_pos n1]
      exact hw _ (fs_i3n a)
    · by_cases n11 : c = 11
      · have e := hx (by rw [n11, fs_tk_11]; exact Nat.le_refl 1)
        unfold fs_v
        rw [if_neg n0, if_neg n1, if_pos n11, if_neg n0, if_neg n1, if_pos n11, e]
      · have hB := fs_B_of hc n0 n1 n11 n12
        have e := hx (by rw [fs_tk_B hB]; decide)
        have e' := hy (by rw [fs_tk_B hB]; decide)
        rw [fs_v_B hB, fs_v_B hB, e, e']
/-- a push keeps the agreement -/
theorem fs_push {c a w s : Nat → Int32} {i p : Nat} {V : Int32} (n12 : ¬ c i = 12) (hp : fs_H c i - fs_tk (c i) = p) (hs : ∀ j, j < fs_H c i → s j = fs_S c a w i j) (hV : V = fs_v (c i) (a i) (fs_S c a w i p) (fs_S c a w i (p + 1)) w) : ∀ j, j < fs_H c (i + 1) → upd s p V j = fs_S c a w (i + 1) j := by
  intro j hj
  rw [fs_H_s, fs_pt_n n12, hp] at hj
  show upd s p V j = (if c i = 12 then fs_S c a w i else
      upd (fs_S c a w i) (fs_H c i - fs_tk (c i))
        (fs_v (c i) (a i) (fs_S c a w i (fs_H c i - fs_tk (c i))) (fs_S c a w i (fs_H c i - fs_tk (c i) + 1)) w)) j
  rw [if_neg n12, hp, ← hV]
  by_cases e : j = p
  · subst e
    rw [pk_us, pk_us]
  · rw [pk_un e, pk_un e]
    exact hs j (by omega)
theorem fs_S12 {c a w : Nat → Int32} {i : Nat} (e : c i = 12) : fs_S c a w (i + 1) = fs_S c a w i := if_pos e
theorem fs_A12 {c a w : Nat → Int32} {i : Nat} (e : c i = 12) : fs_A c a w (i + 1) = (if fs_S c a w i (fs_H c i - 1) = 0 then false else fs_A c a w i) := if_pos e
theorem fs_An {c a w : Nat → Int32} {i : Nat} (e : ¬ c i = 12) : fs_A c a w (i + 1) = fs_A c a w i := if_neg e
/-- a condition's turn keeps the agreement -/
theorem fs_pop {c a w s : Nat → Int32} {i : Nat} (e : c i = 12) (hs : ∀ j, j < fs_H c i → s j = fs_S c a w i j) : ∀ j, j < fs_H c (i + 1) → s j = fs_S c a w (i + 1) j := by
  intro j hj
  rw [fs_H12 e] at hj
  rw [fs_S12 e]
  exact hs j (by omega)
theorem fs_p {post : Int32 → Prop} {x y : Int32} (e : x = y) (h : post x) : post y := e ▸ h
/-- a branch that a pure 'if' follows -/
theorem fs_ite {post : Int32 → Prop} {p A B : Prop} [Decidable p] {x y : Int32} (h : post (if p then x else y)) (f : p → post x → A) (g : ¬ p → post y → B) : (p → A) ∧ (¬ p → B) :=
  ⟨fun e => f e (by rw [if_pos e] at h; exact h), fun e => g e (by rw [if_neg e] at h; exact h)⟩
end
section
theorem fs_xt {post : Int32 → Prop} {c : Int32} (hc : fs_C c) (h : post (nI (fs_tk c))) : wpX_entriesTaken post c := by
  unfold wpX_entriesTaken
  by_cases n0 : c = 0
  · exact br_t n0 (fs_p (by rw [n0]; decide) h)
  · by_cases n1 : c = 1
    · exact br_f n0 (br_t n1 (fs_p (by rw [n1]; decide) h))
    · by_cases n11 : c = 11
      · exact br_f n0 (br_f n1 (br_t n11 (fs_p (by rw [n11]; decide) h)))
      · by_cases n12 : c = 12
        · exact br_f n0 (br_f n1 (br_f n11 (br_t n12 (fs_p (by rw [n12]; decide) h))))
        · exact br_f n0 (br_f n1 (br_f n11 (br_f n12 (fs_p (by rw [fs_tk_B (fs_B_of hc n0 n1 n11 n12)]; decide) h))))
theorem fs_xc {post : Int32 → Prop} {c x y : Int32} (hB : fs_B c) (h : post (fs_w c x y)) : wpX_combined post c x y := by
  obtain ⟨l2, l10, _⟩ := fs_B_lo hB
  unfold fs_w at h
  unfold wpX_combined
  refine br_f l2 (br_f l10 ?_)
  exact fs_ite (post := post) h (fun _ h => h) fun _ h => fs_ite (post := post) h (fun _ h => h) fun _ h => fs_ite (post := post) h (fun _ h => h)
    fun _ h => fs_ite (post := post) h (fun _ h => fs_ite (post := post) h (fun _ h => h) fun _ h => h)
    fun _ h => fs_ite (post := post) h (fun _ h => fs_ite (post := post) h (fun _ h => h) fun _ h => h)
    fun _ h => fs_ite (post := post) h (fun _ h => fs_ite (post := post) h (fun _ h => h) fun _ h => h)
    fun _ h => fs_ite (post := post) h (fun _ h => fs_ite (post := post) h (fun _ h => h) fun _ h => h)
    fun _ h => fs_ite (post := post) h (fun _ h => fs_ite (post := post) h (fun _ h => h) fun _ h => fs_ite (post := post) h (fun _ h => h) fun _ h => h)
    fun _ h => br_c (fun _ => fs_ite (post := post) h (fun _ h => fs_ite (post := post) h (fun _ h => h) fun _ h => h) fun _ h => h) (fun _ => trivial)
theorem fs_xe {post : Int32 → Prop} {ft fd fm : Int32} {m cs as sv ss : Nat → Int32} {c arg p2 : Int32} (hc : fs_C c) (n12 : ¬ c = 12) (i1 : 1 ≤ fs_tk c → vp_in p2 48) (i2 : 2 ≤ fs_tk c → vp_in (p2 + 1) 48) (h : post (fs_v c arg (ss p2.toNatClampNeg) (ss (p2 + 1).toNatClampNeg) sv)) : wpX_entryPut post (ft, fd, fm, m, cs, as, sv, ss) c arg p2 := by
  unfold fs_v at h
  unfold wpX_entryPut
  dsimp only
  refine fs_ite (post := post) h (fun _ h => h) fun n0 h => fs_ite (post := post) h (fun _ h => ⟨fs_i3 arg, h⟩) fun n1 h => fs_ite (post := post) h (fun e h => ⟨i1 (by rw [e, fs_tk_11]; exact Nat.le_refl 1), fs_ite (post := post) h (fun _ h => h) fun _ h => h⟩) fun n11 h => ?_
  have hB := fs_B_of hc n0 n1 n11 n12
  exact ⟨i1 (by rw [fs_tk_B hB]; decide), i2 (by rw [fs_tk_B hB]; decide), fs_xc hB h⟩
/-- X's run of the tokens -/
theorem fs_xr {post : Int32 → SX → Prop} {t : Nat} {fd fm : Int32} {m c a sv w : Nat → Int32} (ht : t ≤ 48) (hV : fs_V c t) (hw : ∀ j, j < 4 → sv j = w j)
    (hp : ∀ ss : Nat → Int32, (∀ j, j < fs_H c t → ss j = fs_S c a w t j) → post (fs_bI (fs_A c a w t)) (nI t, fd, fm, m, c, a, sv, ss)) :
    ∀ d i : Nat, i + d = t → ∀ ss : Nat → Int32, (∀ j, j < fs_H c i → ss j = fs_S c a w i j) → wX_runTokens_6 post (nI t) fd fm (d + 1) (fs_bI (fs_A c a w i)) (nI (fs_H c i)) (nI i) m c a sv ss := by
  intro d
  induction d with
  | zero =>
    intro i hi ss hs
    have e : i = t := by omega
    subst e
    exact br_t (nI_le (Nat.le_refl i) (by omega)) ⟨fs_nar _, hp ss hs⟩
  | succ d ih =>
    intro i hi ss hs
    obtain ⟨hC, hT⟩ := hV i (by omega)
    have hH := fs_H_le c i
    have hlt : ¬ nI t ≤ nI i := nI_ge (by omega) (by omega)
    have hin : vp_in (nI i) 48 := vp_in_nI (by omega) (by omega)
    have ci : (nI i).toNatClampNeg = i := nI_clamp (by omega)
    refine br_f hlt ⟨hin, nm_r (e' := c i) (by rw [ci]) ?_⟩
    refine fs_xt hC ?_
    refine nm_r (pk_sub hT) ?_
    by_cases e : c i = 12
    · have eT : fs_tk (c i) = 1 := by rw [e, fs_tk_12]
      refine br_t e ?_
      have IH := ih (i + 1) (by omega) ss (fs_pop e hs)
      rw [fs_H12 e, fs_A12 e] at IH
      rw [eT]
      cases hA : fs_A c a w i with
      | false =>
        rw [hA] at IH
        refine br_t rfl (nm_r (nI_1 i) ?_)
        have e0 : (if fs_S c a w i (fs_H c i - 1) = 0 then false else false) = false := by split <;> rfl
        rw [e0] at IH
        exact IH
      | true =>
        rw [hA] at IH
        have hx : ss (nI (fs_H c i - 1)).toNatClampNeg = fs_S c a w i (fs_H c i - 1) := by
          rw [nI_clamp (by omega)]
          exact hs _ (by omega)
        refine br_f (by decide) ⟨vp_in_nI (by omega) (by omega), ?_⟩
        rw [hx]
        by_cases z : fs_S c a w i (fs_H c i - 1) = 0
        · rw [if_pos z] at IH
          exact br_t z (nm_r (nI_1 i) IH)
        · rw [if_neg z] at IH
          exact br_f z (nm_r (nI_1 i) IH)
    · refine br_f e ⟨hin, ?_⟩
      have hp1 : fs_H c i - fs_tk (c i) < 48 := by omega
      have cp : (nI (fs_H c i - fs_tk (c i))).toNatClampNeg = fs_H c i - fs_tk (c i) := nI_clamp (by omega)
      have cp1 : (nI (fs_H c i - fs_tk (c i)) + 1).toNatClampNeg = fs_H c i - fs_tk (c i) + 1 := by
        rw [nI_1]
        exact nI_clamp (by omega)
      refine fs_xe hC e (fun _ => vp_in_nI hp1 (by omega)) (fun h2 => by rw [nI_1]; exact vp_in_nI (by omega) (by omega)) ?_
      refine ⟨vp_in_nI hp1 (by omega), nm_r (e' := upd ss (fs_H c i - fs_tk (c i)) (fs_v (c i) (a i) (ss (fs_H c i - fs_tk (c i))) (ss (fs_H c i - fs_tk (c i) + 1)) sv)) (by rw [cp, cp1, ci]) (nm_r (nI_1 _) (nm_r (nI_1 i) ?_))⟩
      have IH := ih (i + 1) (by omega) _ (fs_push e rfl hs (fs_v_c (a := a i) hC e hw (fun h1 => hs _ (by omega)) (fun h2 => hs _ (by omega))))
      rw [fs_An e, fs_H_s, fs_pt_n e] at IH
      exact IH
theorem fs_xru {post : Int32 → SX → Prop} {t : Nat} {fd fm : Int32} {m c a sv ss : Nat → Int32} (w : Nat → Int32) (ht : t ≤ 48) (hV : fs_V c t) (hw : ∀ j, j < 4 → sv j = w j)
    (hp : ∀ ss : Nat → Int32, (∀ j, j < fs_H c t → ss j = fs_S c a w t j) → post (fs_bI (fs_A c a w t)) (nI t, fd, fm, m, c, a, sv, ss)) : wpX_runTokens post (nI t, fd, fm, m, c, a, sv, ss) :=
  ⟨t + 1, fs_xr (w := w) ht hV hw hp t 0 (by omega) ss (fun j hj => absurd hj (Nat.not_lt_zero j))⟩
/-- X's values of assignment n -/
theorem fs_xs1 {post : SX → Prop} {ft fd fm x3 : Int32} {m c a ss sv : Nat → Int32} {k q v : Nat} (hq : q < 2 ^ 31) (hv : v < 4) (e3 : nI v + (-1) = x3)
    (h : wX_setAssignment_4 post ft fd fm k (nI (q / 5)) x3 m c a (upd sv v (nI (q % 5))) ss) : wX_setAssignment_4 post ft fd fm (k + 1) (nI q) (nI v) m c a sv ss := by
  have e1 : upd sv (nI v).toNatClampNeg (nI q - nI q / 5 * 5) = upd sv v (nI (q % 5)) := by
    rw [nI_clamp (by omega)]
    exact congrArg (upd sv v) (pk_rem (d := 5) hq (by decide) (by decide))
  have e2 : nI q / 5 = nI (q / 5) := pk_div (d := 5) hq (by decide) (by decide)
  exact br_f (nI_pos (by omega)) ⟨by decide, vp_in_nI hv (by decide), nm_r e1 ⟨by decide, nm_r e2 (nm_r e3 h)⟩⟩
theorem fs_xsa {post : SX → Prop} {ft fd fm : Int32} {m c a ss sv : Nat → Int32} {n : Nat} (hn : n < 625) (hp : ∀ sv' : Nat → Int32, (∀ j, j < 4 → sv' j = fs_d n j) → post (ft, fd, fm, m, c, a, sv', ss)) : wpX_setAssignment post (ft, fd, fm, m, c, a, sv, ss) (nI n) := by
  refine ⟨5, ?_⟩
  refine fs_xs1 (v := 3) (by omega) (by decide) (pk_m1 2) ?_
  refine fs_xs1 (v := 2) (by omega) (by decide) (pk_m1 1) ?_
  refine fs_xs1 (v := 1) (by omega) (by decide) (pk_m1 0) ?_
  refine fs_xs1 (v := 0) (x3 := -1) (by omega) (by decide) (by decide) ?_
  refine br_t (by decide) (hp _ ?_)
  intro j hj
  have e : j = 0 ∨ j = 1 ∨ j = 2 ∨ j = 3 := by omega
  rcases e with rfl | rfl | rfl | rfl
  · rw [pk_us]
    show _ = nI (n / 125)
    exact congrArg nI (by omega)
  · rw [pk_un (show (1 : Nat) ≠ 0 by decide), pk_us]
    show _ = nI (n / 25 % 5)
    exact congrArg nI (by omega)
  · rw [pk_un (show (2 : Nat) ≠ 0 by decide), pk_un (show (2 : Nat) ≠ 1 by decide), pk_us]
    rfl
  · rw [pk_un (show (3 : Nat) ≠ 0 by decide), pk_un (show (3 : Nat) ≠ 1 by decide), pk_un (show (3 : Nat) ≠ 2 by decide), pk_us]
    rfl
theorem fs_xa {post : Int32 → Prop} {ft fd fm : Int32} {m c a sv ss w : Nat → Int32} (hw : ∀ j, j < 4 → sv j = w j) : ∀ d v : Nat, v + d = 4 → post (fs_bI (fs_al m w d v)) → wX_isAllowed_2 post ft fd fm m c a sv ss (d + 1) (nI v) := by
  intro d
  induction d with
  | zero =>
    intro v hv h
    have e : v = 4 := by omega
    subst e
    exact br_t (by decide) h
  | succ d ih =>
    intro v hv h
    have hi : vp_in (nI v) 4 := vp_in_nI (by omega) (by decide)
    have cv : (nI v).toNatClampNeg = v := nI_clamp (by omega)
    refine br_f (nI_ge (b := 4) (by omega) (by decide)) ⟨hi, hi, ?_⟩
    rw [cv, hw v (by omega)]
    by_cases z : ((m v >>> (w v &&& 31)) &&& 1) = 0
    · have e : fs_al m w (d + 1) v = false := if_pos z
      rw [e] at h
      exact br_t z h
    · have e : fs_al m w (d + 1) v = fs_al m w d (v + 1) := if_neg z
      rw [e] at h
      exact br_f z (nm_r (nI_1 v) (ih (v + 1) (by omega) h))
theorem fs_xi {post : Int32 → SX → Prop} {t n : Nat} {fd fm : Int32} {m c a sv ss : Nat → Int32} (ht : t ≤ 48) (hV : fs_V c t) (hn : n < 625)
    (hp : ∀ sv' ss' : Nat → Int32, (∀ j, j < 4 → sv' j = fs_d n j) → (fs_sol m c a t n = true → ∀ j, j < fs_H c t → ss' j = fs_S c a (fs_d n) t j) → post (fs_bI (fs_sol m c a t n)) (nI t, fd, fm, m, c, a, sv', ss')) :
    wpX_isSolution post (nI t, fd, fm, m, c, a, sv, ss) (nI n) := by
  unfold wpX_isSolution
  dsimp only
  refine fs_xsa hn (fun sv' hsv => ?_)
  dsimp only
  refine ⟨5, fs_xa hsv 4 0 rfl ?_⟩
  cases hal : fs_al m (fs_d n) 4 0 with
  | false =>
    have hs : fs_sol m c a t n = false := by unfold fs_sol; rw [hal]; rfl
    have h := hp sv' ss hsv (fun h => absurd (hs.symm.trans h) (by decide))
    rw [hs] at h
    exact br_t rfl h
  | true =>
    refine br_f (by decide) (fs_xru (fs_d n) ht hV hsv (fun ss' hss => ?_))
    have hs : fs_sol m c a t n = fs_A c a (fs_d n) t := by unfold fs_sol; rw [hal]; rfl
    have h := hp sv' ss' hsv (fun _ => hss)
    rw [hs] at h
    dsimp only
    cases hA : fs_A c a (fs_d n) t with
    | false =>
      rw [hA] at h
      exact br_t rfl h
    | true =>
      rw [hA] at h
      exact br_f (by decide) h
end
section
theorem fs_yt {post : Int32 → Prop} {c : Int32} (hc : fs_C c) (h : post (nI (fs_tk c))) : wpY_takes post c := by
  unfold wpY_takes
  by_cases n0 : c = 0
  · exact br_f (by rw [n0]; decide) (fs_p (by rw [n0]; decide) h)
  · by_cases n1 : c = 1
    · exact br_f (by rw [n1]; decide) (fs_p (by rw [n1]; decide) h)
    · by_cases n11 : c = 11
      · exact br_t (by rw [n11]; decide) (br_t (by rw [n11]; decide) (fs_p (by rw [n11]; decide) h))
      · by_cases n12 : c = 12
        · exact br_t (by rw [n12]; decide) (br_t (by rw [n12]; decide) (fs_p (by rw [n12]; decide) h))
        · have hB := fs_B_of hc n0 n1 n11 n12
          rw [fs_tk_B hB] at h
          obtain ⟨_, l10, _⟩ := fs_B_lo hB
          have l1 : 1 < c := by
            unfold fs_B at hB
            rcases hB with rfl | rfl | rfl | rfl | rfl | rfl | rfl | rfl | rfl <;> decide
          exact br_t l1 (br_f l10 h)
theorem fs_yw {post : Int32 → Prop} {c x y : Int32} (h : post (fs_w c x y)) : wpY_worked post c x y := by
  unfold fs_w at h
  unfold wpY_worked
  exact fs_ite (post := post) h (fun _ h => h) fun _ h => fs_ite (post := post) h (fun _ h => h) fun _ h => fs_ite (post := post) h (fun _ h => h)
    fun _ h => fs_ite (post := post) h (fun _ h => fs_ite (post := post) h (fun _ h => h) fun _ h => h)
    fun _ h => fs_ite (post := post) h (fun _ h => fs_ite (post := post) h (fun _ h => h) fun _ h => h)
    fun _ h => fs_ite (post := post) h (fun _ h => fs_ite (post := post) h (fun _ h => h) fun _ h => h)
    fun _ h => fs_ite (post := post) h (fun _ h => fs_ite (post := post) h (fun _ h => h) fun _ h => h)
    fun _ h => fs_ite (post := post) h (fun _ h => fs_ite (post := post) h (fun _ h => h) fun _ h => fs_ite (post := post) h (fun _ h => h) fun _ h => h)
    fun _ h => fs_ite (post := post) h (fun _ h => fs_ite (post := post) h (fun _ h => h) fun _ h => h) fun _ h => h
/-- Y's run of the tokens -/
theorem fs_yr {post : Int32 → SY → Prop} {t : Nat} {m c a tr w : Nat → Int32} (ht : t ≤ 48) (hV : fs_V c t) (hw : ∀ j, j < 4 → tr j = w j)
    (hp : ∀ ss : Nat → Int32, (∀ j, j < fs_H c t → ss j = fs_S c a w t j) → post (fs_bI (fs_A c a w t)) (nI t, nI (fs_H c t), m, c, a, tr, ss)) :
    ∀ d i : Nat, i + d = t → ∀ ss : Nat → Int32, (∀ j, j < fs_H c i → ss j = fs_S c a w i j) → wY_run_9 post (nI t) (d + 1) (fs_bI (fs_A c a w i)) (nI i) (nI (fs_H c i)) m c a tr ss := by
  intro d
  induction d with
  | zero =>
    intro i hi ss hs
    have e : i = t := by omega
    subst e
    exact br_t (nI_le (Nat.le_refl i) (by omega)) ⟨fs_nar _, hp ss hs⟩
  | succ d ih =>
    intro i hi ss hs
    obtain ⟨hC, hT⟩ := hV i (by omega)
    have hH := fs_H_le c i
    have hlt : ¬ nI t ≤ nI i := nI_ge (by omega) (by omega)
    have hin : vp_in (nI i) 48 := vp_in_nI (by omega) (by omega)
    have ci : (nI i).toNatClampNeg = i := nI_clamp (by omega)
    refine br_f hlt ⟨hin, nm_r (e' := c i) (by rw [ci]) ?_⟩
    refine fs_yt hC ?_
    by_cases n12 : c i = 12
    · have eT : fs_tk (c i) = 1 := by rw [n12, fs_tk_12]
      obtain ⟨p, hp1⟩ : ∃ p, fs_H c i = p + 1 := ⟨fs_H c i - 1, by omega⟩
      have IH := ih (i + 1) (by omega) ss (fs_pop n12 hs)
      have e1 : fs_H c i - 1 = p := by omega
      rw [fs_H12 n12, fs_A12 n12, e1] at IH
      rw [eT, hp1]
      refine br_f (by decide) (br_f (by rw [n12]; decide) (br_t n12 (nm_r (nI_pred p) ⟨vp_in_nI (by omega) (by omega), ?_⟩)))
      rw [nI_clamp (n := p) (by omega), hs p (by omega)]
      by_cases z : fs_S c a w i p = 0
      · rw [if_pos z] at IH
        exact br_t z (nm_r (nI_1 i) IH)
      · rw [if_neg z] at IH
        exact br_f z (nm_r (nI_1 i) IH)
    · by_cases n11 : c i = 11
      · have eT : fs_tk (c i) = 1 := by rw [n11, fs_tk_11]
        obtain ⟨p, hp1⟩ : ∃ p, fs_H c i = p + 1 := ⟨fs_H c i - 1, by omega⟩
        have hpp : fs_H c i - fs_tk (c i) = p := by omega
        have hv : ∀ x y : Int32, fs_v (c i) (a i) x y w = if x = 0 then 1 else 0 := by
          intro x y
          unfold fs_v
          rw [if_neg (by rw [n11]; decide), if_neg (by rw [n11]; decide), if_pos n11]
        have hi48 : vp_in (nI p) 48 := vp_in_nI (by omega) (by omega)
        have IH := ih (i + 1) (by omega) _ (fs_push n12 hpp hs rfl)
        rw [hv, fs_An n12, fs_H_s, fs_pt_n n12, hpp] at IH
        rw [eT, hp1]
        refine br_f (by decide) (br_t n11 ?_)
        rw [nI_pred p, nI_clamp (n := p) (by omega), hs p (by omega)]
        refine ⟨hi48, ?_⟩
        by_cases z : fs_S c a w i p = 0
        · rw [if_pos z] at IH
          exact br_t z ⟨hi48, nm_e (nm_r (nI_1 i) IH)⟩
        · rw [if_neg z] at IH
          exact br_f z ⟨hi48, nm_e (nm_r (nI_1 i) IH)⟩
      · by_cases n0 : c i = 0
        · have eT : fs_tk (c i) = 0 := by rw [n0, fs_tk_0]
          have hpp : fs_H c i - fs_tk (c i) = fs_H c i := by omega
          have hv : ∀ x y : Int32, fs_v (c i) (a i) x y w = a i := by
            intro x y
            unfold fs_v
            rw [if_pos n0]
          have IH := ih (i + 1) (by omega) _ (fs_push n12 hpp hs rfl)
          rw [hv, fs_An n12, fs_H_s, fs_pt_n n12, hpp] at IH
          rw [eT]
          refine br_f (by decide) (br_f n11 (br_f n12 (br_t n0 ⟨hin, ?_⟩)))
          unfold wY_run_186
          refine ⟨vp_in_nI (by omega) (by omega), nm_r (e' := upd ss (fs_H c i) (a i)) (by rw [nI_clamp (n := fs_H c i) (by omega), ci]) (nm_r (nI_1 _) (nm_r (nI_1 i) IH))⟩
        · by_cases n1 : c i = 1
          · have eT : fs_tk (c i) = 0 := by rw [n1, fs_tk_1]
            have hpp : fs_H c i - fs_tk (c i) = fs_H c i := by omega
            have hv : ∀ x y : Int32, fs_v (c i) (a i) x y w = w (a i &&& 3).toNatClampNeg := by
              intro x y
              unfold fs_v
              rw [if_neg n0, if_pos n1]
            have IH := ih (i + 1) (by omega) _ (fs_push n12 hpp hs rfl)
            rw [hv, fs_An n12, fs_H_s, fs_pt_n n12, hpp] at IH
            rw [eT]
            refine br_f (by decide) (br_f n11 (br_f n12 (br_f n0 ⟨hin, fs_i3 _, ?_⟩)))
            unfold wY_run_186
            refine ⟨vp_in_nI (by omega) (by omega), nm_r (e' := upd ss (fs_H c i) (w (a i &&& 3).toNatClampNeg)) (by rw [nI_clamp (n := fs_H c i) (by omega), ci, hw _ (fs_i3n (a i))]) (nm_r (nI_1 _) (nm_r (nI_1 i) IH))⟩
          · have hB := fs_B_of hC n0 n1 n11 n12
            have eT : fs_tk (c i) = 2 := fs_tk_B hB
            obtain ⟨p, hp1⟩ : ∃ p, fs_H c i = p + 1 + 1 := ⟨fs_H c i - 2, by omega⟩
            have hpp : fs_H c i - fs_tk (c i) = p := by omega
            have hi48 : vp_in (nI p) 48 := vp_in_nI (by omega) (by omega)
            have IH := ih (i + 1) (by omega) _ (fs_push n12 hpp hs rfl)
            rw [fs_v_B hB, fs_An n12, fs_H_s, fs_pt_n n12, hpp] at IH
            rw [eT, hp1]
            refine br_t (by decide) (nm_r (nI_pred (p + 1)) ?_)
            rw [nI_pred p]
            refine ⟨hi48, vp_in_nI (by omega) (by omega), fs_yw ⟨hi48, nm_r (e' := upd ss p (fs_w (c i) (fs_S c a w i p) (fs_S c a w i (p + 1)))) ?_ (nm_r (nI_1 i) IH)⟩⟩
            rw [nI_clamp (n := p) (by omega), nI_clamp (n := p + 1) (by omega), hs p (by omega), hs (p + 1) (by omega)]
theorem fs_yru {post : Int32 → SY → Prop} {t : Nat} {yd : Int32} {m c a tr ss : Nat → Int32} (w : Nat → Int32) (ht : t ≤ 48) (hV : fs_V c t) (hw : ∀ j, j < 4 → tr j = w j)
    (hp : ∀ ss : Nat → Int32, (∀ j, j < fs_H c t → ss j = fs_S c a w t j) → post (fs_bI (fs_A c a w t)) (nI t, nI (fs_H c t), m, c, a, tr, ss)) : wpY_run post (nI t, yd, m, c, a, tr, ss) :=
  ⟨t + 1, fs_yr (w := w) ht hV hw hp t 0 (by omega) ss (fun j hj => absurd hj (Nat.not_lt_zero j))⟩
theorem fs_yl {post : SY → Prop} {ft yd : Int32} {m c a tr ss : Nat → Int32} {n : Nat} (hn : n < 625) (hp : ∀ tr' : Nat → Int32, (∀ j, j < 4 → tr' j = fs_d n j) → post (ft, yd, m, c, a, tr', ss)) : wpY_lay post (ft, yd, m, c, a, tr, ss) (nI n) := by
  have e0 : nI n / 125 = nI (n / 125) := pk_div (d := 125) (by omega) (by decide) (by decide)
  have e25 : nI n / 25 = nI (n / 25) := pk_div (d := 25) (by omega) (by decide) (by decide)
  have e5 : nI n / 5 = nI (n / 5) := pk_div (d := 5) (by omega) (by decide) (by decide)
  have e1 : nI (n / 25) - nI (n / 25) / 5 * 5 = nI (n / 25 % 5) := pk_rem (d := 5) (by omega) (by decide) (by decide)
  have e2 : nI (n / 5) - nI (n / 5) / 5 * 5 = nI (n / 5 % 5) := pk_rem (d := 5) (by omega) (by decide) (by decide)
  have e3 : nI n - nI n / 5 * 5 = nI (n % 5) := pk_rem (d := 5) (by omega) (by decide) (by decide)
  refine ⟨by decide, nm_r (congrArg (upd tr 0) e0) ⟨by decide, by decide, nm_r (congrArg (upd _ 1) ((by rw [e25] : nI n / 25 - nI n / 25 / 5 * 5 = nI (n / 25) - nI (n / 25) / 5 * 5).trans e1)) ⟨by decide, by decide, nm_r (congrArg (upd _ 2) ((by rw [e5] : nI n / 5 - nI n / 5 / 5 * 5 = nI (n / 5) - nI (n / 5) / 5 * 5).trans e2)) ⟨by decide, nm_r (congrArg (upd _ 3) e3) (hp _ ?_)⟩⟩⟩⟩
  intro j hj
  have e : j = 0 ∨ j = 1 ∨ j = 2 ∨ j = 3 := by omega
  rcases e with rfl | rfl | rfl | rfl
  · rw [pk_un (show (0 : Nat) ≠ 3 by decide), pk_un (show (0 : Nat) ≠ 2 by decide), pk_un (show (0 : Nat) ≠ 1 by decide), pk_us]
    rfl
  · rw [pk_un (show (1 : Nat) ≠ 3 by decide), pk_un (show (1 : Nat) ≠ 2 by decide), pk_us]
    rfl
  · rw [pk_un (show (2 : Nat) ≠ 3 by decide), pk_us]
    rfl
  · rw [pk_us]
    rfl
theorem fs_ya {post : Int32 → SY → Prop} {ft yd : Int32} {m c a tr ss w : Nat → Int32} (hw : ∀ j, j < 4 → tr j = w j) : ∀ d v : Nat, v + d = 4 →
    (fs_al m w d v = true → wY_solves_7 post ft yd m c a tr ss 1 (nI 4)) →
    (fs_al m w d v = false → post 0 (ft, yd, m, c, a, tr, ss)) → wY_solves_7 post ft yd m c a tr ss (d + 1) (nI v) := by
  intro d
  induction d with
  | zero =>
    intro v hv f _
    have e : v = 4 := by omega
    subst e
    exact f rfl
  | succ d ih =>
    intro v hv f g
    have hi : vp_in (nI v) 4 := vp_in_nI (by omega) (by decide)
    have cv : (nI v).toNatClampNeg = v := nI_clamp (by omega)
    refine br_f (nI_ge (b := 4) (by omega) (by decide)) ⟨hi, hi, ?_⟩
    rw [cv, hw v (by omega)]
    by_cases z : ((m v >>> (w v &&& 31)) &&& 1) = 0
    · have e : fs_al m w (d + 1) v = false := if_pos z
      exact br_t z (g e)
    · have e : fs_al m w (d + 1) v = fs_al m w d (v + 1) := if_neg z
      rw [e] at f g
      exact br_f z (nm_r (nI_1 v) (ih (v + 1) (by omega) f g))
theorem fs_yi {post : Int32 → SY → Prop} {t n : Nat} {yd : Int32} {m c a tr ss : Nat → Int32} (ht : t ≤ 48) (hV : fs_V c t) (hn : n < 625)
    (hp : ∀ (yd' : Int32) (tr' ss' : Nat → Int32), (∀ j, j < 4 → tr' j = fs_d n j) → (fs_sol m c a t n = true → yd' = nI (fs_H c t) ∧ ∀ j, j < fs_H c t → ss' j = fs_S c a (fs_d n) t j) → post (fs_bI (fs_sol m c a t n)) (nI t, yd', m, c, a, tr', ss')) :
    wpY_solves post (nI t, yd, m, c, a, tr, ss) (nI n) := by
  unfold wpY_solves
  dsimp only
  refine fs_yl hn (fun tr' htr => ?_)
  dsimp only
  refine ⟨5, fs_ya htr 4 0 rfl (fun hal => ?_) (fun hal => ?_)⟩
  · refine br_t (by decide) (fs_yru (fs_d n) ht hV htr (fun ss' hss => ?_))
    have hs : fs_sol m c a t n = fs_A c a (fs_d n) t := by unfold fs_sol; rw [hal]; rfl
    have h := hp (nI (fs_H c t)) tr' ss' htr (fun _ => ⟨rfl, hss⟩)
    rw [hs] at h
    exact ⟨fs_nar _, h⟩
  · have hs : fs_sol m c a t n = false := by unfold fs_sol; rw [hal]; rfl
    have h := hp yd tr' ss htr (fun h => absurd (hs.symm.trans h) (by decide))
    rw [hs] at h
    exact h
/-- Y's height -/
theorem fs_yh {post : Int32 → Prop} {t : Nat} {yd : Int32} {m c a tr ss : Nat → Int32} (ht : t ≤ 48) (hV : fs_V c t) (hp : post (nI (fs_H c t))) : ∀ d i : Nat, i + d = t → wY_height_4 post (nI t) yd m c a tr ss (d + 1) (nI (fs_H c i)) (nI i) := by
  intro d
  induction d with
  | zero =>
    intro i hi
    have e : i = t := by omega
    subst e
    exact br_t (nI_le (Nat.le_refl i) (by omega)) hp
  | succ d ih =>
    intro i hi
    obtain ⟨hC, hT⟩ := hV i (by omega)
    have hH := fs_H_le c i
    have hlt : ¬ nI t ≤ nI i := nI_ge (by omega) (by omega)
    have hin : vp_in (nI i) 48 := vp_in_nI (by omega) (by omega)
    have ci : (nI i).toNatClampNeg = i := nI_clamp (by omega)
    have IH := ih (i + 1) (by omega)
    rw [fs_H_s] at IH
    have ea : ∀ x y z : Int32, x + (y - z) = x - z + y := by
      intro x y z
      grind
    refine br_f hlt ⟨hin, ?_⟩
    rw [ci]
    by_cases n12 : c i = 12
    · have e0 : fs_pt (c i) = 0 := by rw [n12, fs_pt_12]
      rw [e0, Nat.add_zero] at IH
      refine br_t n12 ?_
      unfold wY_height_29
      rw [ci]
      refine ⟨hin, fs_yt hC (nm_r ?_ (nm_r (nI_1 i) IH))⟩
      rw [ea, pk_sub hT, Int32.add_zero]
      rfl
    · rw [fs_pt_n n12] at IH
      refine br_f n12 ?_
      unfold wY_height_29
      rw [ci]
      refine ⟨hin, fs_yt hC (nm_r ?_ (nm_r (nI_1 i) IH))⟩
      rw [ea, pk_sub hT, nI_1]
theorem fs_yhw {post : Int32 → Prop} {t : Nat} {yd : Int32} {m c a tr ss : Nat → Int32} (ht : t ≤ 48) (hV : fs_V c t) (hp : post (nI (fs_H c t))) : wpY_height post (nI t, yd, m, c, a, tr, ss) :=
  ⟨t + 1, fs_yh ht hV hp t 0 (by omega)⟩
theorem fs_yc {post : Int32 → Prop} {t : Nat} {yd : Int32} {m c a tr ss : Nat → Int32} (ht : t ≤ 48) (hp : post (nI (fs_D c t))) : ∀ d i : Nat, i + d = t → wY_conditions_4 post (nI t) yd m c a tr ss (d + 1) (nI (fs_D c i)) (nI i) := by
  intro d
  induction d with
  | zero =>
    intro i hi
    have e : i = t := by omega
    subst e
    exact br_t (nI_le (Nat.le_refl i) (by omega)) hp
  | succ d ih =>
    intro i hi
    have hlt : ¬ nI t ≤ nI i := nI_ge (by omega) (by omega)
    have hin : vp_in (nI i) 48 := vp_in_nI (by omega) (by omega)
    have ci : (nI i).toNatClampNeg = i := nI_clamp (by omega)
    have IH := ih (i + 1) (by omega)
    rw [fs_D_s] at IH
    refine br_f hlt ⟨hin, ?_⟩
    rw [ci]
    by_cases n12 : c i = 12
    · have e0 : 1 - fs_pt (c i) = 1 := by rw [n12, fs_pt_12]
      rw [e0] at IH
      exact br_t n12 (nm_r (nI_1 _) (nm_r (nI_1 i) IH))
    · have e0 : 1 - fs_pt (c i) = 0 := by rw [fs_pt_n n12]
      rw [e0, Nat.add_zero] at IH
      exact br_f n12 (nm_r (nI_1 i) IH)
end
section
theorem fs_625 {n : Nat} (h : n < 625) : ¬ (625 : Int32) ≤ nI n := nI_ge (b := 625) h (by decide)
theorem fs_625e : (625 : Int32) ≤ nI 625 := by decide
/-- solutions: one answer for both sides, whatever lies in the scratch arrays -/
theorem fs_l4 {t : Nat} {m c a : Nat → Int32} (ht : t ≤ 48) (hV : fs_V c t) : ∀ d n : Nat, n + d = 625 → ∀ x1 : Int32, ∃ r : Int32,
    (∀ (post : Int32 → SX → Prop) (fd fm : Int32) (sv ss : Nat → Int32), (∀ sv' ss' : Nat → Int32, post r (nI t, fd, fm, m, c, a, sv', ss')) → wX_solutions_4 post (d + 1) x1 (nI n) (nI t) fd fm m c a sv ss) ∧
    (∀ (post : Int32 → SY → Prop) (yd : Int32) (tr ys : Nat → Int32), (∀ (yd' : Int32) (tr' ys' : Nat → Int32), post r (nI t, yd', m, c, a, tr', ys')) → wY_solutions_4 post (d + 1) x1 (nI n) (nI t) yd m c a tr ys) := by
  intro d
  induction d with
  | zero =>
    intro n hn x1
    have e : n = 625 := by omega
    subst e
    exact ⟨x1, fun post fd fm sv ss hp => br_t fs_625e (hp sv ss), fun post yd tr ys hp => br_t fs_625e (hp yd tr ys)⟩
  | succ d ih =>
    intro n hn x1
    have h6 : n < 625 := by omega
    cases hs : fs_sol m c a t n with
    | false =>
      obtain ⟨r, hX, hY⟩ := ih (n + 1) (by omega) x1
      refine ⟨r, fun post fd fm sv ss hp => br_f (fs_625 h6) (fs_xi ht hV h6 (fun sv' ss' _ _ => ?_)), fun post yd tr ys hp => br_f (fs_625 h6) (fs_yi ht hV h6 (fun yd' tr' ys' _ _ => ?_))⟩
      · rw [hs]
        exact br_t rfl (nm_r (nI_1 n) (hX post fd fm sv' ss' hp))
      · rw [hs]
        exact br_t rfl (nm_r (nI_1 n) (hY post yd' tr' ys' hp))
    | true =>
      obtain ⟨r, hX, hY⟩ := ih (n + 1) (by omega) (x1 + 1)
      refine ⟨r, fun post fd fm sv ss hp => br_f (fs_625 h6) (fs_xi ht hV h6 (fun sv' ss' _ _ => ?_)), fun post yd tr ys hp => br_f (fs_625 h6) (fs_yi ht hV h6 (fun yd' tr' ys' _ _ => ?_))⟩
      · rw [hs]
        exact br_f (by decide) (nm_e (nm_r (nI_1 n) (hX post fd fm sv' ss' hp)))
      · rw [hs]
        exact br_f (by decide) (nm_e (nm_r (nI_1 n) (hY post yd' tr' ys' hp)))
/-- solution -/
theorem fs_l5 {t : Nat} {m c a : Nat → Int32} (k v : Int32) (ht : t ≤ 48) (hV : fs_V c t) : ∀ d n : Nat, n + d = 625 → ∀ x3 : Int32, ∃ r : Int32,
    (∀ (post : Int32 → SX → Prop) (fd fm : Int32) (sv ss : Nat → Int32), (∀ sv' ss' : Nat → Int32, post r (nI t, fd, fm, m, c, a, sv', ss')) → wX_solution_5 post k v (d + 1) x3 (nI n) (nI t) fd fm m c a sv ss) ∧
    (∀ (post : Int32 → SY → Prop) (yd : Int32) (tr ys : Nat → Int32), (∀ (yd' : Int32) (tr' ys' : Nat → Int32), post r (nI t, yd', m, c, a, tr', ys')) → wY_solution_5 post k v (d + 1) x3 (nI n) (nI t) yd m c a tr ys) := by
  intro d
  induction d with
  | zero =>
    intro n hn x3
    have e : n = 625 := by omega
    subst e
    exact ⟨-1, fun post fd fm sv ss hp => br_t fs_625e (hp sv ss), fun post yd tr ys hp => br_t fs_625e (hp yd tr ys)⟩
  | succ d ih =>
    intro n hn x3
    have h6 : n < 625 := by omega
    cases hs : fs_sol m c a t n with
    | false =>
      obtain ⟨r, hX, hY⟩ := ih (n + 1) (by omega) x3
      refine ⟨r, fun post fd fm sv ss hp => br_f (fs_625 h6) (fs_xi ht hV h6 (fun sv' ss' _ _ => ?_)), fun post yd tr ys hp => br_f (fs_625 h6) (fs_yi ht hV h6 (fun yd' tr' ys' _ _ => ?_))⟩
      · rw [hs]
        exact br_t rfl (nm_r (nI_1 n) (hX post fd fm sv' ss' hp))
      · rw [hs]
        exact br_t rfl (nm_r (nI_1 n) (hY post yd' tr' ys' hp))
    | true =>
      by_cases hk : x3 = k
      · refine ⟨fs_d n (v &&& 3).toNatClampNeg, fun post fd fm sv ss hp => br_f (fs_625 h6) (fs_xi ht hV h6 (fun sv' ss' hv _ => ?_)), fun post yd tr ys hp => br_f (fs_625 h6) (fs_yi ht hV h6 (fun yd' tr' ys' hv _ => ?_))⟩
        · rw [hs]
          have h := hp sv' ss'
          rw [← hv _ (fs_i3n v)] at h
          exact br_f (by decide) (br_t hk ⟨fs_i3 v, h⟩)
        · rw [hs]
          have h := hp yd' tr' ys'
          rw [← hv _ (fs_i3n v)] at h
          exact br_f (by decide) (br_t hk ⟨fs_i3 v, h⟩)
      · obtain ⟨r, hX, hY⟩ := ih (n + 1) (by omega) (x3 + 1)
        refine ⟨r, fun post fd fm sv ss hp => br_f (fs_625 h6) (fs_xi ht hV h6 (fun sv' ss' _ _ => ?_)), fun post yd tr ys hp => br_f (fs_625 h6) (fs_yi ht hV h6 (fun yd' tr' ys' _ _ => ?_))⟩
        · rw [hs]
          exact br_f (by decide) (br_f hk (nm_e (nm_r (nI_1 n) (hX post fd fm sv' ss' hp))))
        · rw [hs]
          exact br_f (by decide) (br_f hk (nm_e (nm_r (nI_1 n) (hY post yd' tr' ys' hp))))
/-- with -/
theorem fs_l6 {t : Nat} {m c a : Nat → Int32} (v k : Int32) (ht : t ≤ 48) (hV : fs_V c t) : ∀ d n : Nat, n + d = 625 → ∀ x3 : Int32, ∃ r : Int32,
    (∀ (post : Int32 → SX → Prop) (fd fm : Int32) (sv ss : Nat → Int32), (∀ sv' ss' : Nat → Int32, post r (nI t, fd, fm, m, c, a, sv', ss')) → wX_with_5 post v k (d + 1) x3 (nI n) (nI t) fd fm m c a sv ss) ∧
    (∀ (post : Int32 → SY → Prop) (yd : Int32) (tr ys : Nat → Int32), (∀ (yd' : Int32) (tr' ys' : Nat → Int32), post r (nI t, yd', m, c, a, tr', ys')) → wY_with_5 post v k (d + 1) x3 (nI n) (nI t) yd m c a tr ys) := by
  intro d
  induction d with
  | zero =>
    intro n hn x3
    have e : n = 625 := by omega
    subst e
    exact ⟨x3, fun post fd fm sv ss hp => br_t fs_625e (hp sv ss), fun post yd tr ys hp => br_t fs_625e (hp yd tr ys)⟩
  | succ d ih =>
    intro n hn x3
    have h6 : n < 625 := by omega
    cases hs : fs_sol m c a t n with
    | false =>
      obtain ⟨r, hX, hY⟩ := ih (n + 1) (by omega) x3
      refine ⟨r, fun post fd fm sv ss hp => br_f (fs_625 h6) (fs_xi ht hV h6 (fun sv' ss' _ _ => ?_)), fun post yd tr ys hp => br_f (fs_625 h6) (fs_yi ht hV h6 (fun yd' tr' ys' _ _ => ?_))⟩
      · rw [hs]
        exact br_t rfl (nm_r (nI_1 n) (hX post fd fm sv' ss' hp))
      · rw [hs]
        exact br_t rfl (nm_r (nI_1 n) (hY post yd' tr' ys' hp))
    | true =>
      by_cases hk : fs_d n (v &&& 3).toNatClampNeg = k
      · obtain ⟨r, hX, hY⟩ := ih (n + 1) (by omega) (x3 + 1)
        refine ⟨r, fun post fd fm sv ss hp => br_f (fs_625 h6) (fs_xi ht hV h6 (fun sv' ss' hv _ => ?_)), fun post yd tr ys hp => br_f (fs_625 h6) (fs_yi ht hV h6 (fun yd' tr' ys' hv _ => ?_))⟩
        · rw [hs]
          exact br_f (by decide) ⟨fs_i3 v, br_t ((hv _ (fs_i3n v)).trans hk) (nm_e (nm_r (nI_1 n) (hX post fd fm sv' ss' hp)))⟩
        · rw [hs]
          exact br_f (by decide) ⟨fs_i3 v, br_t ((hv _ (fs_i3n v)).trans hk) (nm_e (nm_r (nI_1 n) (hY post yd' tr' ys' hp)))⟩
      · obtain ⟨r, hX, hY⟩ := ih (n + 1) (by omega) x3
        refine ⟨r, fun post fd fm sv ss hp => br_f (fs_625 h6) (fs_xi ht hV h6 (fun sv' ss' hv _ => ?_)), fun post yd tr ys hp => br_f (fs_625 h6) (fs_yi ht hV h6 (fun yd' tr' ys' hv _ => ?_))⟩
        · rw [hs]
          exact br_f (by decide) ⟨fs_i3 v, br_f (fun z => hk ((hv _ (fs_i3n v)).symm.trans z)) (nm_r (nI_1 n) (hX post fd fm sv' ss' hp))⟩
        · rw [hs]
          exact br_f (by decide) ⟨fs_i3 v, br_f (fun z => hk ((hv _ (fs_i3n v)).symm.trans z)) (nm_r (nI_1 n) (hY post yd' tr' ys' hp))⟩
/-- greatest, with an entry on the stack -/
theorem fs_l8 {t p : Nat} {m c a : Nat → Int32} (ht : t ≤ 48) (hV : fs_V c t) (hH : fs_H c t = p + 1) : ∀ d n : Nat, n + d = 625 → ∀ x1 : Int32, ∃ r : Int32,
    (∀ (post : Int32 → SX → Prop) (fm : Int32) (sv ss : Nat → Int32), (∀ sv' ss' : Nat → Int32, post r (nI t, nI (p + 1), fm, m, c, a, sv', ss')) → wX_greatest_15 post (d + 1) x1 (nI n) (nI t) (nI (p + 1)) fm m c a sv ss) ∧
    (∀ (post : Int32 → SY → Prop) (yd : Int32) (tr ys : Nat → Int32), (∀ (yd' : Int32) (tr' ys' : Nat → Int32), post r (nI t, yd', m, c, a, tr', ys')) → wY_greatest_5 post (d + 1) x1 (nI n) (nI t) yd m c a tr ys) := by
  have hp48 : p < 48 := by
    have := fs_H_le c t
    omega
  have hin : vp_in (nI (p + 1) - 1) 48 := by
    rw [nI_pred p]
    exact vp_in_nI hp48 (by decide)
  have hcl : (nI (p + 1) - 1).toNatClampNeg = p := by
    rw [nI_pred p]
    exact nI_clamp (by omega)
  have hn0 : ¬ nI (p + 1) ≤ 0 := nI_nle (by omega) (by omega)
  intro d
  induction d with
  | zero =>
    intro n hn x1
    have e : n = 625 := by omega
    subst e
    exact ⟨x1, fun post fm sv ss hp => br_t fs_625e (hp sv ss), fun post yd tr ys hp => br_t fs_625e (hp yd tr ys)⟩
  | succ d ih =>
    intro n hn x1
    have h6 : n < 625 := by omega
    cases hs : fs_sol m c a t n with
    | false =>
      obtain ⟨r, hX, hY⟩ := ih (n + 1) (by omega) x1
      refine ⟨r, fun post fm sv ss hp => br_f (fs_625 h6) (fs_xi ht hV h6 (fun sv' ss' _ _ => ?_)), fun post yd tr ys hp => br_f (fs_625 h6) (fs_yi ht hV h6 (fun yd' tr' ys' _ _ => ?_))⟩
      · rw [hs]
        exact br_t rfl (nm_r (nI_1 n) (hX post fm sv' ss' hp))
      · rw [hs]
        exact br_t rfl (nm_r (nI_1 n) (hY post yd' tr' ys' hp))
    | true =>
      by_cases hk : fs_S c a (fs_d n) t p ≤ x1
      · obtain ⟨r, hX, hY⟩ := ih (n + 1) (by omega) x1
        refine ⟨r, fun post fm sv ss hp => br_f (fs_625 h6) (fs_xi ht hV h6 (fun sv' ss' _ hst => ?_)), fun post yd tr ys hp => br_f (fs_625 h6) (fs_yi ht hV h6 (fun yd' tr' ys' _ hst => ?_))⟩
        · have hx : ss' (nI (p + 1) - 1).toNatClampNeg ≤ x1 := by
            rw [hcl, hst hs p (by omega)]
            exact hk
          rw [hs]
          exact br_f (by decide) ⟨hin, br_t hx (nm_r (nI_1 n) (hX post fm sv' ss' hp))⟩
        · obtain ⟨hd, hq⟩ := hst hs
          rw [hH] at hd
          subst hd
          have hx : ys' (nI (p + 1) - 1).toNatClampNeg ≤ x1 := by
            rw [hcl, hq p (by omega)]
            exact hk
          rw [hs]
          exact br_f (by decide) (br_f hn0 ⟨hin, br_t hx (nm_r (nI_1 n) (hY post _ tr' ys' hp))⟩)
      · obtain ⟨r, hX, hY⟩ := ih (n + 1) (by omega) (fs_S c a (fs_d n) t p)
        refine ⟨r, fun post fm sv ss hp => br_f (fs_625 h6) (fs_xi ht hV h6 (fun sv' ss' _ hst => ?_)), fun post yd tr ys hp => br_f (fs_625 h6) (fs_yi ht hV h6 (fun yd' tr' ys' _ hst => ?_))⟩
        · have ex : ss' (nI (p + 1) - 1).toNatClampNeg = fs_S c a (fs_d n) t p := by
            rw [hcl]
            exact hst hs p (by omega)
          have hx : ¬ ss' (nI (p + 1) - 1).toNatClampNeg ≤ x1 := by
            rw [ex]
            exact hk
          rw [hs]
          exact br_f (by decide) ⟨hin, br_f hx ⟨hin, nm_r ex (nm_r (nI_1 n) (hX post fm sv' ss' hp))⟩⟩
        · obtain ⟨hd, hq⟩ := hst hs
          rw [hH] at hd
          subst hd
          have ex : ys' (nI (p + 1) - 1).toNatClampNeg = fs_S c a (fs_d n) t p := by
            rw [hcl]
            exact hq p (by omega)
          have hx : ¬ ys' (nI (p + 1) - 1).toNatClampNeg ≤ x1 := by
            rw [ex]
            exact hk
          rw [hs]
          exact br_f (by decide) (br_f hn0 ⟨hin, br_f hx ⟨hin, nm_r ex (nm_r (nI_1 n) (hY post _ tr' ys' hp))⟩⟩)
/-- greatest on an empty stack: Y goes through all -/
theorem fs_l8e {t : Nat} {m c a : Nat → Int32} (ht : t ≤ 48) (hV : fs_V c t) (hH : fs_H c t = 0) (x1 : Int32) (post : Int32 → SY → Prop) (hp : ∀ (yd' : Int32) (tr' ys' : Nat → Int32), post x1 (nI t, yd', m, c, a, tr', ys')) : ∀ d n : Nat, n + d = 625 → ∀ (yd : Int32) (tr ys : Nat → Int32), wY_greatest_5 post (d + 1) x1 (nI n) (nI t) yd m c a tr ys := by
  intro d
  induction d with
  | zero =>
    intro n hn yd tr ys
    have e : n = 625 := by omega
    subst e
    exact br_t fs_625e (hp yd tr ys)
  | succ d ih =>
    intro n hn yd tr ys
    have h6 : n < 625 := by omega
    refine br_f (fs_625 h6) (fs_yi ht hV h6 (fun yd' tr' ys' _ hst => ?_))
    have IH := ih (n + 1) (by omega) yd' tr' ys'
    cases hs : fs_sol m c a t n with
    | false => exact br_t rfl (nm_r (nI_1 n) IH)
    | true =>
      obtain ⟨hd, _⟩ := hst hs
      rw [hH, nI_0] at hd
      exact br_f (by decide) (br_t (by rw [hd]; decide) (nm_r (nI_1 n) IH))
/-- evaluate: the values -/
def fs_e (x : Int32) (v : Nat) : Int32 := (x >>> ((3 * nI v) &&& 31)) &&& 7
theorem fs_e4 {s : Nat → Int32} {x : Int32} : ∀ j, j < 4 → upd (upd (upd (upd s 0 (fs_e x 0)) 1 (fs_e x 1)) 2 (fs_e x 2)) 3 (fs_e x 3) j = fs_e x j := by
  intro j hj
  have e : j = 0 ∨ j = 1 ∨ j = 2 ∨ j = 3 := by omega
  rcases e with rfl | rfl | rfl | rfl
  · rw [pk_un (show (0 : Nat) ≠ 3 by decide), pk_un (show (0 : Nat) ≠ 2 by decide), pk_un (show (0 : Nat) ≠ 1 by decide), pk_us]
  · rw [pk_un (show (1 : Nat) ≠ 3 by decide), pk_un (show (1 : Nat) ≠ 2 by decide), pk_us]
  · rw [pk_un (show (2 : Nat) ≠ 3 by decide), pk_us]
  · rw [pk_us]
theorem fs_xv1 {post : Int32 → SX → Prop} {x ft fd fm : Int32} {m c a sv ss : Nat → Int32} {k v : Nat} (hv : v < 4) (h : wX_evaluate_2 post x ft fd fm k (nI (v + 1)) m c a (upd sv v (fs_e x v)) ss) : wX_evaluate_2 post x ft fd fm (k + 1) (nI v) m c a sv ss :=
  br_f (nI_ge (b := 4) hv (by decide)) ⟨vp_in_nI hv (by decide), nm_r (e' := upd sv v (fs_e x v)) (by rw [nI_clamp (n := v) (by omega)]; rfl) (nm_r (nI_1 v) h)⟩
theorem fs_yv1 {post : Int32 → SY → Prop} {x ft yd : Int32} {m c a tr ss : Nat → Int32} {k v : Nat} (hv : v < 4) (h : wY_evaluate_2 post x ft yd k (nI (v + 1)) m c a (upd tr v (fs_e x v)) ss) : wY_evaluate_2 post x ft yd (k + 1) (nI v) m c a tr ss :=
  br_f (nI_ge (b := 4) hv (by decide)) ⟨vp_in_nI hv (by decide), nm_r (e' := upd tr v (fs_e x v)) (by rw [nI_clamp (n := v) (by omega)]; rfl) (nm_r (nI_1 v) h)⟩
end
section
def i_Rel (k : Nat) (u : SX) (v : SY) : Prop := ∃ (t : Nat) (m c a sv ss tr ys : Nat → Int32) (yd : Int32), t ≤ 48 ∧ fs_V c t ∧ u = (nI t, nI (fs_H c t), nI (fs_D c t), m, c, a, sv, ss) ∧ v = (nI t, yd, m, c, a, tr, ys)
theorem fs_mk {k t : Nat} {m c a sv ss tr ys : Nat → Int32} {yd : Int32} (ht : t ≤ 48) (hV : fs_V c t) : i_Rel k (nI t, nI (fs_H c t), nI (fs_D c t), m, c, a, sv, ss) (nI t, yd, m, c, a, tr, ys) :=
  ⟨t, m, c, a, sv, ss, tr, ys, yd, ht, hV, rfl, rfl⟩
theorem fs_mk' {k t h d : Nat} {m c a sv ss tr ys : Nat → Int32} {yd : Int32} (ht : t ≤ 48) (hV : fs_V c t) (hh : fs_H c t = h) (hd : fs_D c t = d) : i_Rel k (nI t, nI h, nI d, m, c, a, sv, ss) (nI t, yd, m, c, a, tr, ys) := by
  subst hh hd
  exact fs_mk ht hV
theorem fs_mk0 {k : Nat} {m c a sv ss tr ys : Nat → Int32} {yd : Int32} : i_Rel k (0, 0, 0, m, c, a, sv, ss) (0, yd, m, c, a, tr, ys) :=
  fs_mk (t := 0) (c := c) (by decide) (fun i hi => absurd hi (Nat.not_lt_zero i))
theorem i_up {k : Nat} {u : SX} {v : SY} (h : i_Rel k u v) : i_Rel (k + 3) u v := h
theorem i_vc0 : wpX_init (fun u => wpY_init (fun v => i_Rel 0 u v)) := by
  refine ⟨5, br_f (by decide) ⟨vp_in_iff.mpr (by decide), nm_e (nm_e (br_f (by decide) ⟨vp_in_iff.mpr (by decide), nm_e (nm_e (br_f (by decide) ⟨vp_in_iff.mpr (by decide), nm_e (nm_e (br_f (by decide) ⟨vp_in_iff.mpr (by decide), nm_e (nm_e (br_t (by decide) ?_))⟩))⟩))⟩))⟩⟩
  refine ⟨5, br_f (by decide) ⟨vp_in_iff.mpr (by decide), nm_e (nm_e (br_f (by decide) ⟨vp_in_iff.mpr (by decide), nm_e (nm_e (br_f (by decide) ⟨vp_in_iff.mpr (by decide), nm_e (nm_e (br_f (by decide) ⟨vp_in_iff.mpr (by decide), nm_e (nm_e (br_t (by decide) ?_))⟩))⟩))⟩))⟩⟩
  exact fs_mk0
theorem i_vc_allow {k : Nat} {u : SX} {v : SY} (I : i_Rel k u v) (hk : k + 3 ≤ 1536) (v1 : Int32) (v2 : Int32) : wpX_allow (fun u' => wpY_allow (fun v' => i_Rel (k + 3) u' v') v v1 v2) u v1 v2 := by
  obtain ⟨t, m, c, a, sv, ss, tr, ys, yd, ht, hV, rfl, rfl⟩ := I
  exact ⟨fs_i3 v1, nm_e ⟨fs_i3 v1, nm_e (fs_mk ht hV)⟩⟩
theorem i_vc_token {k : Nat} {u : SX} {v : SY} (I : i_Rel k u v) (hk : k + 3 ≤ 1536) (v1 : Int32) (v2 : Int32) : wpX_token (fun r u' => wpY_token (fun r' v' => r' = r ∧ i_Rel (k + 3) u' v') v v1 v2) u v1 v2 := by
  obtain ⟨t, m, c, a, sv, ss, tr, ys, yd, ht, hV, rfl, rfl⟩ := I
  by_cases h0 : v1 < 0
  · exact br_t h0 (br_t h0 ⟨rfl, fs_mk ht hV⟩)
  by_cases h12 : 12 < v1
  · exact br_f h0 (br_t h12 (br_f h0 (br_t h12 ⟨rfl, fs_mk ht hV⟩)))
  have hC := fs_C_of h0 h12
  by_cases h48 : t < 48
  · have hH := fs_H_le c t
    have hlt : nI t < 48 := nI_lt (b := 48) h48 (by decide)
    have hne : ¬ nI t = 48 := fun z => absurd ((nI_eq (a := t) (b := 48) (by omega) (by decide)).mp z) (by omega)
    have hin : vp_in (nI t) 48 := vp_in_nI h48 (by decide)
    have ct : (nI t).toNatClampNeg = t := nI_clamp (by omega)
    have e1 : upd c (nI t).toNatClampNeg v1 = upd c t v1 := by rw [ct]
    have e2 : upd a (nI t).toNatClampNeg v2 = upd a t v2 := by rw [ct]
    refine br_f h0 (br_f h12 (br_t hlt (fs_xt hC ?_)))
    by_cases hh : fs_tk v1 ≤ fs_H c t
    · have hle : nI (fs_tk v1) ≤ nI (fs_H c t) := nI_le hh (by omega)
      have hV' := fs_V_upd hV hC hh
      refine br_t hle ⟨hin, nm_r e1 ⟨hin, nm_r e2 (nm_r (nI_1 t) (nm_r (pk_sub hh) ?_))⟩⟩
      by_cases e : v1 = 12
      · have hH' : fs_H (upd c t v1) (t + 1) = fs_H c t - fs_tk v1 := by
          rw [fs_H_new, show fs_pt v1 = 0 by rw [e, fs_pt_12], Nat.add_zero]
        have hD' : fs_D (upd c t v1) (t + 1) = fs_D c t + 1 := by
          rw [fs_D_new, show fs_pt v1 = 0 by rw [e, fs_pt_12]]
        refine br_t e (nm_r (nI_1 _) ?_)
        refine br_f h0 (br_f h12 (br_f hne (fs_yhw ht hV (fs_yt hC (br_t hle ⟨hin, nm_r e1 ⟨hin, nm_r e2 (nm_r (nI_1 t) (fs_yhw (by omega) hV' ?_))⟩⟩)))))
        exact ⟨congrArg nI hH', fs_mk' (by omega) hV' hH' hD'⟩
      · have hH' : fs_H (upd c t v1) (t + 1) = fs_H c t - fs_tk v1 + 1 := by
          rw [fs_H_new, fs_pt_n e]
        have hD' : fs_D (upd c t v1) (t + 1) = fs_D c t := by
          rw [fs_D_new, fs_pt_n e]
          rfl
        refine br_f e (nm_r (nI_1 _) ?_)
        refine br_f h0 (br_f h12 (br_f hne (fs_yhw ht hV (fs_yt hC (br_t hle ⟨hin, nm_r e1 ⟨hin, nm_r e2 (nm_r (nI_1 t) (fs_yhw (by omega) hV' ?_))⟩⟩)))))
        exact ⟨congrArg nI hH', fs_mk' (by omega) hV' hH' hD'⟩
    · have hle : ¬ nI (fs_tk v1) ≤ nI (fs_H c t) := nI_ge (by omega) (by unfold fs_tk; split <;> (try split) <;> decide)
      refine br_f hle ?_
      exact br_f h0 (br_f h12 (br_f hne (fs_yhw ht hV (fs_yt hC (br_f hle ⟨rfl, fs_mk ht hV⟩)))))
  · have e48 : t = 48 := by omega
    subst e48
    exact br_f h0 (br_f h12 (br_f (by decide) (br_f h0 (br_f h12 (br_t (by decide) ⟨rfl, fs_mk ht hV⟩)))))
theorem i_vc_clear {k : Nat} {u : SX} {v : SY} (I : i_Rel k u v) (hk : k + 3 ≤ 1536) : wpX_clear (fun u' => wpY_clear (fun v' => i_Rel (k + 3) u' v') v) u := by
  obtain ⟨t, m, c, a, sv, ss, tr, ys, yd, ht, hV, rfl, rfl⟩ := I
  exact fs_mk0 (k := k + 3)
theorem i_vc_conditions {k : Nat} {u : SX} {v : SY} (I : i_Rel k u v) (hk : k + 3 ≤ 1536) : wpX_conditions (fun r => wpY_conditions (fun r' => r' = r ∧ i_Rel (k + 3) u v) v) u := by
  obtain ⟨t, m, c, a, sv, ss, tr, ys, yd, ht, hV, rfl, rfl⟩ := I
  exact ⟨t + 1, fs_yc ht ⟨rfl, fs_mk ht hV⟩ t 0 (by omega)⟩
theorem i_vc_solutions {k : Nat} {u : SX} {v : SY} (I : i_Rel k u v) (hk : k + 3 ≤ 1536) : wpX_solutions (fun r u' => wpY_solutions (fun r' v' => r' = r ∧ i_Rel (k + 3) u' v') v) u := by
  obtain ⟨t, m, c, a, sv, ss, tr, ys, yd, ht, hV, rfl, rfl⟩ := I
  obtain ⟨r, hX, hY⟩ := fs_l4 (m := m) (a := a) ht hV 625 0 rfl 0
  exact ⟨626, hX _ _ _ _ _ (fun sv' ss' => ⟨626, hY _ _ _ _ (fun yd' tr' ys' => ⟨rfl, fs_mk ht hV⟩)⟩)⟩
theorem i_vc_solution {k : Nat} {u : SX} {v : SY} (I : i_Rel k u v) (hk : k + 3 ≤ 1536) (v1 : Int32) (v2 : Int32) : wpX_solution (fun r u' => wpY_solution (fun r' v' => r' = r ∧ i_Rel (k + 3) u' v') v v1 v2) u v1 v2 := by
  obtain ⟨t, m, c, a, sv, ss, tr, ys, yd, ht, hV, rfl, rfl⟩ := I
  obtain ⟨r, hX, hY⟩ := fs_l5 (m := m) (a := a) v1 v2 ht hV 625 0 rfl 0
  exact ⟨626, hX _ _ _ _ _ (fun sv' ss' => ⟨626, hY _ _ _ _ (fun yd' tr' ys' => ⟨rfl, fs_mk ht hV⟩)⟩)⟩
theorem i_vc_with {k : Nat} {u : SX} {v : SY} (I : i_Rel k u v) (hk : k + 3 ≤ 1536) (v1 : Int32) (v2 : Int32) : wpX_with (fun r u' => wpY_with (fun r' v' => r' = r ∧ i_Rel (k + 3) u' v') v v1 v2) u v1 v2 := by
  obtain ⟨t, m, c, a, sv, ss, tr, ys, yd, ht, hV, rfl, rfl⟩ := I
  obtain ⟨r, hX, hY⟩ := fs_l6 (m := m) (a := a) v1 v2 ht hV 625 0 rfl 0
  exact ⟨626, hX _ _ _ _ _ (fun sv' ss' => ⟨626, hY _ _ _ _ (fun yd' tr' ys' => ⟨rfl, fs_mk ht hV⟩)⟩)⟩
theorem i_vc_evaluate {k : Nat} {u : SX} {v : SY} (I : i_Rel k u v) (hk : k + 3 ≤ 1536) (v1 : Int32) : wpX_evaluate (fun r u' => wpY_evaluate (fun r' v' => r' = r ∧ i_Rel (k + 3) u' v') v v1) u v1 := by
  obtain ⟨t, m, c, a, sv, ss, tr, ys, yd, ht, hV, rfl, rfl⟩ := I
  have hH := fs_H_le c t
  refine ⟨5, fs_xv1 (v := 0) (by decide) (fs_xv1 (v := 1) (by decide) (fs_xv1 (v := 2) (by decide) (fs_xv1 (v := 3) (by decide) (br_t (by decide) (fs_xru (fs_e v1) ht hV fs_e4 (fun ss' hss => ?_))))))⟩
  dsimp only
  by_cases z : fs_H c t = 0
  · refine br_f (by rw [z]; decide) ?_
    refine ⟨5, fs_yv1 (v := 0) (by decide) (fs_yv1 (v := 1) (by decide) (fs_yv1 (v := 2) (by decide) (fs_yv1 (v := 3) (by decide) (br_t (by decide) (fs_yru (fs_e v1) ht hV fs_e4 (fun ys' hys => ?_))))))⟩
    exact br_t (by rw [z]; decide) ⟨rfl, fs_mk ht hV⟩
  · obtain ⟨p, hp⟩ : ∃ p, fs_H c t = p + 1 := ⟨fs_H c t - 1, by omega⟩
    have hin : vp_in (nI (fs_H c t) - 1) 48 := by
      rw [hp, nI_pred p]
      exact vp_in_nI (by omega) (by decide)
    have hcl : (nI (fs_H c t) - 1).toNatClampNeg = p := by
      rw [hp, nI_pred p]
      exact nI_clamp (by omega)
    refine br_t (nI_le (a := 1) (by omega) (by omega)) ⟨hin, ?_⟩
    refine ⟨5, fs_yv1 (v := 0) (by decide) (fs_yv1 (v := 1) (by decide) (fs_yv1 (v := 2) (by decide) (fs_yv1 (v := 3) (by decide) (br_t (by decide) (fs_yru (fs_e v1) ht hV fs_e4 (fun ys' hys => ?_))))))⟩
    refine br_f (nI_ne0 (by omega) (by omega)) ⟨hin, ?_, fs_mk ht hV⟩
    rw [hcl, hss p (by omega), hys p (by omega)]
theorem i_vc_greatest {k : Nat} {u : SX} {v : SY} (I : i_Rel k u v) (hk : k + 3 ≤ 1536) : wpX_greatest (fun r u' => wpY_greatest (fun r' v' => r' = r ∧ i_Rel (k + 3) u' v') v) u := by
  obtain ⟨t, m, c, a, sv, ss, tr, ys, yd, ht, hV, rfl, rfl⟩ := I
  have hH := fs_H_le c t
  by_cases z : fs_H c t = 0
  · refine br_f (by rw [z]; decide) ?_
    exact ⟨626, fs_l8e ht hV z (-2147483648) _ (fun yd' tr' ys' => ⟨rfl, fs_mk ht hV⟩) 625 0 rfl yd tr ys⟩
  · obtain ⟨p, hp⟩ : ∃ p, fs_H c t = p + 1 := ⟨fs_H c t - 1, by omega⟩
    obtain ⟨r, hX, hY⟩ := fs_l8 (m := m) (a := a) ht hV hp 625 0 rfl (-2147483648)
    rw [hp]
    refine br_t (nI_le (a := 1) (by omega) (by omega)) ⟨626, hX _ _ _ _ (fun sv' ss' => ⟨626, hY _ _ _ _ (fun yd' tr' ys' => ⟨rfl, ?_⟩)⟩)⟩
    exact fs_mk' ht hV hp rfl
end
