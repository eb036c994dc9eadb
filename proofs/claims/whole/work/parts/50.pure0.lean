/-! PURE PART: no machine from here on. Small numbers, states -/
theorem i_lt (a b : Int32) : a < b ↔ a.toInt < b.toInt := Int32.lt_iff_toInt_lt
theorem i_le (a b : Int32) : a ≤ b ↔ a.toInt ≤ b.toInt := Int32.le_iff_toInt_le
theorem i_eq (a b : Int32) : a = b ↔ a.toInt = b.toInt := Int32.toInt_inj.symm
theorem i_rng (x : Int32) : -2147483648 ≤ x.toInt ∧ x.toInt < 2147483648 := by
  have h1 := Int32.le_toInt x
  have h2 := Int32.toInt_lt x
  constructor <;> omega
theorem nI_T {n : Nat} (h : n < 2147483648) : (nI n).toInt = (n : Int) := nI_toInt h
theorem i_add {x y : Int32} (h1 : -2147483648 ≤ x.toInt + y.toInt) (h2 : x.toInt + y.toInt < 2147483648) : (x + y).toInt = x.toInt + y.toInt := by
  rw [Int32.toInt_add]; exact Int.bmod_eq_of_le (by omega) (by omega)
theorem i_sub {x y : Int32} (h1 : -2147483648 ≤ x.toInt - y.toInt) (h2 : x.toInt - y.toInt < 2147483648) : (x - y).toInt = x.toInt - y.toInt := by
  rw [Int32.toInt_sub]; exact Int.bmod_eq_of_le (by omega) (by omega)
theorem i_mul {x y : Int32} (h1 : -2147483648 ≤ x.toInt * y.toInt) (h2 : x.toInt * y.toInt < 2147483648) : (x * y).toInt = x.toInt * y.toInt := by
  rw [Int32.toInt_mul]; exact Int.bmod_eq_of_le (by omega) (by omega)
/-- an int that is no less than 0 and less than n is a number -/
theorem i_nat {x : Int32} (h : 0 ≤ x.toInt) : x = nI x.toInt.toNat := by
  rw [i_eq, nI_T (by have := i_rng x; omega)]; omega
theorem i_cl {x : Int32} : x.toNatClampNeg = x.toInt.toNat := rfl
theorem inb_iff {x : Int32} {n : Nat} : inb x n = true ↔ 0 ≤ x.toInt ∧ x.toInt < n := by
  simp only [inb, Bool.and_eq_true, Bool.not_eq_true', decide_eq_false_iff_not, decide_eq_true_eq, i_lt, i_cl, Int32.toInt_zero]
  omega
theorem inb_nI {i n : Nat} (h : i < n) (hn : n < 2147483648) : inb (nI i) n = true := by
  rw [inb_iff, nI_T (by omega)]; omega
theorem cl_nI {i : Nat} (h : i < 2147483648) : (nI i).toNatClampNeg = i := nI_clamp h
theorem nb0 : nb 0 = true := by decide
theorem nb1 : nb 1 = true := by decide
theorem up2_at (s : SS) (j i : Nat) (v : Int32) : up2 s j i v j i = v := by simp [up2, upd]
theorem up2_el {s : SS} {j i a b : Nat} {v : Int32} : up2 s j i v a b = if a = j ∧ b = i then v else s a b := by
  unfold up2
  by_cases h : a = j
  · subst h
    simp [upd]
  · simp [h]
theorem up2_row {s : SS} {j i a : Nat} {v : Int32} (h : a ≠ j) : up2 s j i v a = s a := by simp [up2, h]
theorem ups_row {s : SS} {j a : Nat} {f : Nat → Int32} (h : a ≠ j) : ups s j f a = s a := by simp [ups, h]
theorem ups_at (s : SS) (j : Nat) (f : Nat → Int32) : ups s j f j = f := by simp [ups]
theorem up2_rowe (s : SS) (j i : Nat) (v : Int32) : up2 s j i v j = upd (s j) i v := by simp [up2]
theorem bnd_s {α β γ : Type} (x : α) (s : β) (f : α → β → Option γ) : bnd (some (x, s)) f = f x s := rfl
theorem bnd0_s {β γ : Type} (s : β) (f : β → Option γ) : bnd0 (some s) f = f s := rfl
def fgt (s : SS) : SS := up2 (up2 (up2 (up2 s 0 11 0) 0 12 0) 0 13 0) 0 14 0
theorem forget_ev (G : GG) (s : SS) : CT_forget G s = some (fgt s) := rfl
theorem within_ev (x a b : Int32) : M_within x a b = some (if x < a then 0 else if b < x then 0 else 1) := by
  unfold M_within M_within_14 M_within_15
  by_cases h1 : x < a <;> by_cases h2 : b < x <;> simp [h1, h2, nb0, nb1]
theorem noCafe_ev (G : GG) (s : SS) : CT_isNoCafe G s = some (if s 1 2 = 0 then 1 else 0, s) := by
  unfold CT_isNoCafe CT_isNoCafe_15
  by_cases h : s 1 2 = 0 <;> simp [h, nb0, nb1]
theorem isCafe_ev (m : SS) : M_isCafe m = some (if m 0 5 ≤ 0 then 0 else 1, m) := by
  unfold M_isCafe M_isCafe_12
  by_cases h : m 0 5 ≤ 0 <;> simp [h, nb0, nb1]
/-! the cafe, as both hold it -/
def RCafe (h w e : Nat → Int32) (t ru pa jo ra : Int32) (mw me : Nat → Int32) : Prop :=
  ∃ n : Nat, n ≤ 6 ∧ t = nI n ∧ h 2 = nI n ∧ (∀ j, j < n → w j = mw j ∧ e j = me j ∧ (∃ q : Nat, q ≤ 2 ∧ mw j = nI q) ∧ ∃ q : Nat, 1 ≤ q ∧ q ≤ 6 ∧ me j = nI q) ∧
  (h 3 = ru ∧ ∃ q : Nat, q ≤ 2 ∧ ru = nI q) ∧ (h 4 = pa ∧ ∃ q : Nat, q ≤ 30 ∧ pa = nI q) ∧ (h 6 = jo ∧ (jo = 0 ∨ jo = 1)) ∧ (h 5 = ra ∧ (ra = -9 ∨ ∃ q : Nat, q < 400 ∧ ra = nI q))
abbrev RCf (s m : SS) : Prop := RCafe (s 1) (s 2) (s 3) (m 0 5) (m 0 8) (m 0 9) (m 0 10) (m 0 11) (m 6) (m 7)
theorem RCf.none {s m : SS} (h : RCf s m) : s 1 2 = 0 ↔ m 0 5 ≤ 0 := by
  obtain ⟨n, hn, h1, h2, -⟩ := h
  rw [h1, h2, i_eq, i_le, nI_T (by omega), Int32.toInt_zero]; omega
theorem rule_ev (G : GG) (s m : SS) (x : Int32) (h : RCf s m) :
    (∃ r, CT_rule G s x = some (r, s) ∧ M_rule m x = some (r, m)) ∨ (0 ≤ x ∧ x ≤ 2 ∧ ¬ m 0 5 ≤ 0 ∧ CT_rule G s x = some (s 1 3, fgt (up2 s 1 3 x)) ∧ M_rule m x = some (m 0 8, up2 m 0 8 x)) := by
  have hc := h.none
  unfold CT_rule M_rule CT_rule_9
  simp only [within_ev, noCafe_ev, isCafe_ev, forget_ev, bnd_s, bnd0_s]
  by_cases h1 : x < 0
  · left; refine ⟨-2, ?_⟩; simp [h1]
  · by_cases h2 : x ≤ 2
    · have h3 : ¬ 2 < x := by rw [i_lt]; rw [i_le] at h2; omega
      by_cases h4 : s 1 2 = 0
      · left; refine ⟨-3, ?_⟩; simp [h1, h2, h3, h4, hc.mp h4]
      · have h5 : ¬ m 0 5 ≤ 0 := fun q => h4 (hc.mpr q)
        right; refine ⟨by rw [i_le]; rw [i_lt] at h1; omega, h2, h5, ?_⟩; simp [h1, h2, h3, h4, h5]
    · have h3 : 2 < x := by rw [i_lt]; rw [i_le] at h2; omega
      left; refine ⟨-2, ?_⟩; simp [h1, h2, h3]
