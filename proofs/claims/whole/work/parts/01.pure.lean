/-- entries that a code takes (codes from 0 to 12) -/
def fs_tk (c : Int32) : Nat := if c ≤ 1 then 0 else if c ≤ 10 then 2 else 1
/-- entries that a code puts -/
def fs_pt (c : Int32) : Nat := if c = 12 then 0 else 1
/-- the codes that are taken -/
def fs_C (c : Int32) : Prop := c = 0 ∨ c = 1 ∨ c = 2 ∨ c = 3 ∨ c = 4 ∨ c = 5 ∨ c = 6 ∨ c = 7 ∨ c = 8 ∨ c = 9 ∨ c = 10 ∨ c = 11 ∨ c = 12
/-- those that take two entries -/
def fs_B (c : Int32) : Prop := c = 2 ∨ c = 3 ∨ c = 4 ∨ c = 5 ∨ c = 6 ∨ c = 7 ∨ c = 8 ∨ c = 9 ∨ c = 10
theorem fs_C_of {c : Int32} (h0 : ¬ c < 0) (h : ¬ 12 < c) : fs_C c := by
  obtain ⟨j, hj, rfl⟩ := nI_of2 (x := c) (M := 12) (n := 12) (by decide) h0 (Int32.not_lt.mp h)
  have e : j = 0 ∨ j = 1 ∨ j = 2 ∨ j = 3 ∨ j = 4 ∨ j = 5 ∨ j = 6 ∨ j = 7 ∨ j = 8 ∨ j = 9 ∨ j = 10 ∨ j = 11 ∨ j = 12 := by omega
  unfold fs_C
  clear h h0 hj
  rcases e with rfl | rfl | rfl | rfl | rfl | rfl | rfl | rfl | rfl | rfl | rfl | rfl | rfl <;> decide
theorem fs_B_of {c : Int32} (hc : fs_C c) (n0 : ¬ c = 0) (n1 : ¬ c = 1) (n11 : ¬ c = 11) (n12 : ¬ c = 12) : fs_B c := by
  unfold fs_C at hc
  unfold fs_B
  rcases hc with h | h | h | h | h | h | h | h | h | h | h | h | h
  · exact absurd h n0
  · exact absurd h n1
  · exact Or.inl h
  · exact Or.inr (Or.inl h)
  · exact Or.inr (Or.inr (Or.inl h))
  · exact Or.inr (Or.inr (Or.inr (Or.inl h)))
  · exact Or.inr (Or.inr (Or.inr (Or.inr (Or.inl h))))
  · exact Or.inr (Or.inr (Or.inr (Or.inr (Or.inr (Or.inl h)))))
  · exact Or.inr (Or.inr (Or.inr (Or.inr (Or.inr (Or.inr (Or.inl h))))))
  · exact Or.inr (Or.inr (Or.inr (Or.inr (Or.inr (Or.inr (Or.inr (Or.inl h)))))))
  · exact Or.inr (Or.inr (Or.inr (Or.inr (Or.inr (Or.inr (Or.inr (Or.inr h)))))))
  · exact absurd h n11
  · exact absurd h n12
theorem fs_tk_B {c : Int32} (h : fs_B c) : fs_tk c = 2 := by
  unfold fs_B at h
  rcases h with rfl | rfl | rfl | rfl | rfl | rfl | rfl | rfl | rfl <;> decide
theorem fs_tk_0 : fs_tk 0 = 0 := by decide
theorem fs_tk_1 : fs_tk 1 = 0 := by decide
theorem fs_tk_11 : fs_tk 11 = 1 := by decide
theorem fs_tk_12 : fs_tk 12 = 1 := by decide
theorem fs_pt_12 : fs_pt 12 = 0 := if_pos rfl
theorem fs_pt_n {c : Int32} (h : ¬ c = 12) : fs_pt c = 1 := if_neg h
theorem fs_pt_le (c : Int32) : fs_pt c ≤ 1 := by
  unfold fs_pt
  split <;> omega
theorem fs_B_lo {c : Int32} (h : fs_B c) : ¬ c < 2 ∧ ¬ 10 < c ∧ ¬ c = 0 ∧ ¬ c = 1 ∧ ¬ c = 11 ∧ ¬ c = 12 := by
  unfold fs_B at h
  rcases h with rfl | rfl | rfl | rfl | rfl | rfl | rfl | rfl | rfl <;> decide
/-- the height of the stack after i tokens -/
def fs_H (c : Nat → Int32) : Nat → Nat
  | 0 => 0
  | i + 1 => fs_H c i - fs_tk (c i) + fs_pt (c i)
/-- how many of the first i tokens are conditions -/
def fs_D (c : Nat → Int32) : Nat → Nat
  | 0 => 0
  | i + 1 => fs_D c i + (1 - fs_pt (c i))
/-- the first t tokens were taken by right -/
def fs_V (c : Nat → Int32) (t : Nat) : Prop := ∀ i, i < t → fs_C (c i) ∧ fs_tk (c i) ≤ fs_H c i
/-- what a token of two entries puts -/
def fs_w (c x y : Int32) : Int32 :=
  if c = 2 then x + y else if c = 3 then x - y else if c = 4 then x * y
  else if c = 5 then (if y ≤ x then y else x) else if c = 6 then (if x ≤ y then y else x)
  else if c = 7 then (if x = y then 1 else 0) else if c = 8 then (if y ≤ x then 0 else 1)
  else if c = 9 then (if x = 0 then 0 else if y = 0 then 0 else 1)
  else (if x = 0 then (if y = 0 then 0 else 1) else 1)
/-- what a token puts, for the assignment w -/
def fs_v (c a x y : Int32) (w : Nat → Int32) : Int32 :=
  if c = 0 then a else if c = 1 then w (a &&& 3).toNatClampNeg
  else if c = 11 then (if x = 0 then 1 else 0) else fs_w c x y
/-- the stack after i tokens, for the assignment w -/
def fs_S (c a : Nat → Int32) (w : Nat → Int32) : Nat → (Nat → Int32)
  | 0 => fun _ => 0
  | i + 1 => if c i = 12 then fs_S c a w i else
      upd (fs_S c a w i) (fs_H c i - fs_tk (c i))
        (fs_v (c i) (a i) (fs_S c a w i (fs_H c i - fs_tk (c i))) (fs_S c a w i (fs_H c i - fs_tk (c i) + 1)) w)
/-- are all conditions of the first i tokens true? -/
def fs_A (c a : Nat → Int32) (w : Nat → Int32) : Nat → Bool
  | 0 => true
  | i + 1 => if c i = 12 then (if fs_S c a w i (fs_H c i - 1) = 0 then false else fs_A c a w i) else fs_A c a w i
/-- the digits of assignment n -/
def fs_d (n : Nat) : Nat → Int32
  | 0 => nI (n / 125)
  | 1 => nI (n / 25 % 5)
  | 2 => nI (n / 5 % 5)
  | _ => nI (n % 5)
/-- are the values of w from v on (d of them) allowed? -/
def fs_al (m w : Nat → Int32) : Nat → Nat → Bool
  | 0, _ => true
  | d + 1, v => if ((m v >>> (w v &&& 31)) &&& 1) = 0 then false else fs_al m w d (v + 1)
/-- is assignment n a solution? -/
def fs_sol (m c a : Nat → Int32) (t n : Nat) : Bool := fs_al m (fs_d n) 4 0 && fs_A c a (fs_d n) t
def fs_bI : Bool → Int32
  | true => 1
  | false => 0
theorem fs_nar (b : Bool) : narrow .boolean (.int (fs_bI b)) = .int (fs_bI b) := by
  cases b <;> rfl
theorem fs_H_le (c : Nat → Int32) : ∀ i, fs_H c i ≤ i := by
  intro i
  induction i with
  | zero => exact Nat.le_refl 0
  | succ i ih =>
    have := fs_pt_le (c i)
    show fs_H c i - fs_tk (c i) + fs_pt (c i) ≤ i + 1
    omega
theorem fs_D_le (c : Nat → Int32) : ∀ i, fs_D c i ≤ i := by
  intro i
  induction i with
  | zero => exact Nat.le_refl 0
  | succ i ih =>
    show fs_D c i + (1 - fs_pt (c i)) ≤ i + 1
    omega
theorem fs_H_s (c : Nat → Int32) (i : Nat) : fs_H c (i + 1) = fs_H c i - fs_tk (c i) + fs_pt (c i) := rfl
theorem fs_D_s (c : Nat → Int32) (i : Nat) : fs_D c (i + 1) = fs_D c i + (1 - fs_pt (c i)) := rfl
theorem fs_H12 {c : Nat → Int32} {i : Nat} (e : c i = 12) : fs_H c (i + 1) = fs_H c i - 1 := by
  rw [fs_H_s, e, fs_tk_12, fs_pt_12]
  rfl
/-- what is written at t changes nothing below -/
theorem fs_H_upd (c : Nat → Int32) (t : Nat) (x : Int32) : ∀ i, i ≤ t → fs_H (upd c t x) i = fs_H c i := by
  intro i
  induction i with
  | zero => intro _; rfl
  | succ i ih =>
    intro hi
    have e : upd c t x i = c i := pk_un (by omega)
    rw [fs_H_s, fs_H_s, e, ih (by omega)]
theorem fs_D_upd (c : Nat → Int32) (t : Nat) (x : Int32) : ∀ i, i ≤ t → fs_D (upd c t x) i = fs_D c i := by
  intro i
  induction i with
  | zero => intro _; rfl
  | succ i ih =>
    intro hi
    have e : upd c t x i = c i := pk_un (by omega)
    rw [fs_D_s, fs_D_s, e, ih (by omega)]
theorem fs_H_new (c : Nat → Int32) (t : Nat) (x : Int32) : fs_H (upd c t x) (t + 1) = fs_H c t - fs_tk x + fs_pt x := by
  rw [fs_H_s, fs_H_upd c t x t (Nat.le_refl t), pk_us]
theorem fs_D_new (c : Nat → Int32) (t : Nat) (x : Int32) : fs_D (upd c t x) (t + 1) = fs_D c t + (1 - fs_pt x) := by
  rw [fs_D_s, fs_D_upd c t x t (Nat.le_refl t), pk_us]
theorem fs_V_upd {c : Nat → Int32} {t : Nat} {x : Int32} (h : fs_V c t) (hx : fs_C x) (hh : fs_tk x ≤ fs_H c t) : fs_V (upd c t x) (t + 1) := by
  intro i hi
  by_cases e : i = t
  · subst e
    rw [pk_us, fs_H_upd c i x i (Nat.le_refl i)]
    exact ⟨hx, hh⟩
  · rw [pk_un e, fs_H_upd c t x i (by omega)]
    exact h i (by omega)
theorem fs_i3 (x : Int32) : vp_in (x &&& 3) 4 := pk_andIn x 2 (by decide) (by decide)
theorem fs_i3n (x : Int32) : (x &&& 3).toNatClampNeg < 4 := by
  obtain ⟨j, hj, e⟩ := vp_in_of (fs_i3 x) (by decide)
  rw [e, nI_clamp (by omega)]
  exact hj
theorem fs_v_B {c a x y : Int32} {w : Nat → Int32} (h : fs_B c) : fs_v c a x y w = fs_w c x y := by
  obtain ⟨_, _, n0, n1, n11, _⟩ := fs_B_lo h
  unfold fs_v
  rw [if_neg n0, if_neg n1, if_neg n11]
/-- only what is taken matters -/
theorem fs_v_c {c a x y x' y' : Int32} {w w' : Nat → Int32} (hc : fs_C c) (n12 : ¬ c = 12) (hw : ∀ j, j < 4 → w j = w' j) (hx : 1 ≤ fs_tk c → x = x') (hy : 2 ≤ fs_tk c → y = y') : fs_v c a x y w = fs_v c a x' y' w' := by
  by_cases n0 : c = 0
  · unfold fs_v
    rw [if_pos n0, if_pos n0]
  · by_cases n1 : c = 1
    · unfold fs_v
      rw [if_neg n0, if_pos n1, if_neg n0, if_pos n1]
      exact hw _ (fs_i3n a)
    · by_cases n11 : c = 11
      · have e := hx (by rw [n11, fs_tk_11]; exact Nat.le_refl 1)
        unfold fs_v
        rw [if_neg n0, if_neg n1, if_pos n11, if_neg n0, if_neg n1, if_pos n11, e]
      · have hB := fs_B_of hc n0 n1 n11 n12
        have e := hx (by rw [fs_tk_B hB]; decide)
        have e' := hy (by rw [fs_tk_B hB]; decide)
        rw [fs_v_B hB, fs_v_B hB, e, e']
/-- a push keeps the agreement -/
theorem fs_push {c a w s : Nat → Int32} {i p : Nat} {V : Int32} (n12 : ¬ c i = 12) (hp : fs_H c i - fs_tk (c i) = p) (hs : ∀ j, j < fs_H c i → s j = fs_S c a w i j) (hV : V = fs_v (c i) (a i) (fs_S c a w i p) (fs_S c a w i (p + 1)) w) : ∀ j, j < fs_H c (i + 1) → upd s p V j = fs_S c a w (i + 1) j := by
  intro j hj
  rw [fs_H_s, fs_pt_n n12, hp] at hj
  show upd s p V j = (if c i = 12 then fs_S c a w i else
      upd (fs_S c a w i) (fs_H c i - fs_tk (c i))
        (fs_v (c i) (a i) (fs_S c a w i (fs_H c i - fs_tk (c i))) (fs_S c a w i (fs_H c i - fs_tk (c i) + 1)) w)) j
  rw [if_neg n12, hp, ← hV]
  by_cases e : j = p
  · subst e
    rw [pk_us, pk_us]
  · rw [pk_un e, pk_un e]
    exact hs j (by omega)
theorem fs_S12 {c a w : Nat → Int32} {i : Nat} (e : c i = 12) : fs_S c a w (i + 1) = fs_S c a w i := if_pos e
theorem fs_A12 {c a w : Nat → Int32} {i : Nat} (e : c i = 12) : fs_A c a w (i + 1) = (if fs_S c a w i (fs_H c i - 1) = 0 then false else fs_A c a w i) := if_pos e
theorem fs_An {c a w : Nat → Int32} {i : Nat} (e : ¬ c i = 12) : fs_A c a w (i + 1) = fs_A c a w i := if_neg e
/-- a condition's turn keeps the agreement -/
theorem fs_pop {c a w s : Nat → Int32} {i : Nat} (e : c i = 12) (hs : ∀ j, j < fs_H c i → s j = fs_S c a w i j) : ∀ j, j < fs_H c (i + 1) → s j = fs_S c a w (i + 1) j := by
  intro j hj
  rw [fs_H12 e] at hj
  rw [fs_S12 e]
  exact hs j (by omega)
theorem fs_p {post : Int32 → Prop} {x y : Int32} (e : x = y) (h : post x) : post y := e ▸ h
/-- a branch that a pure 'if' follows -/
theorem fs_ite {post : Int32 → Prop} {p A B : Prop} [Decidable p] {x y : Int32} (h : post (if p then x else y)) (f : p → post x → A) (g : ¬ p → post y → B) : (p → A) ∧ (¬ p → B) :=
  ⟨fun e => f e (by rw [if_pos e] at h; exact h), fun e => g e (by rw [if_neg e] at h; exact h)⟩
