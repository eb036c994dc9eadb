/-! the cafe's text: the first code with which no text goes on -/
def plc (c : Int32) : Int32 := if c = 105 then 2 else if c = 115 then 0 else if c = 119 then 1 else -9
theorem plc_ev (c : Int32) : CT_placeOf c = some (plc c) := by
  unfold CT_placeOf plc
  repeat' split
  all_goals rfl
def gO (p : Nat) (c : Int32) : Bool := if p % 3 = 0 then !decide (plc c = -9) else if p % 3 = 1 then (!decide (c < 49) && !decide (54 < c)) else (decide (c = 59) && decide (p < 17))
theorem m3_tab : ∀ p, p < 41 → nI p - nI p / 3 * 3 = nI (p % 3) ∧ (nI p + 1) / 3 = nI ((p + 1) / 3) := by decide +kernel
theorem gon_ev {p : Nat} (hp : p < 40) (c : Int32) : CT_goesOn (nI p) c = some (if gO p c = true then 1 else 0) := by
  have h3 : p % 3 < 3 := Nat.mod_lt _ (by omega)
  have h0 : nI (p % 3) = 0 ↔ p % 3 = 0 := by rw [show (0 : Int32) = nI 0 from by decide, nI_eq_iff (by omega) (by omega)]
  have h1 : nI (p % 3) = 1 ↔ p % 3 = 1 := by rw [show (1 : Int32) = nI 1 from by decide, nI_eq_iff (by omega) (by omega)]
  have h17 : (17 : Int32) ≤ nI p ↔ ¬ p < 17 := by rw [show (17 : Int32) = nI 17 from by decide, nI_ge_iff (by omega) (by omega)]; omega
  unfold CT_goesOn CT_goesOn_62 CT_goesOn_63 CT_goesOn_44 CT_goesOn_45 CT_goesOn_22 gO
  rw [if_pos (by decide), (m3_tab p (by omega)).1, plc_ev, bnd0_s]
  simp only [h0, h1, h17, nb0, nb1, if_true]
  by_cases a : p % 3 = 0
  · rw [if_pos a, if_pos a]
    by_cases b : plc c = -9
    · rw [if_pos b, if_neg (by simp [b])]
    · rw [if_neg b, if_pos (by simp [b])]
  · rw [if_neg a, if_neg a]
    by_cases b : p % 3 = 1
    · rw [if_pos b, if_pos b]
      by_cases d : c < 49
      · rw [if_pos d, if_neg (by simp [d])]
      · rw [if_neg d]
        by_cases e : 54 < c
        · rw [if_pos e, if_neg (by simp [e])]
        · rw [if_neg e, if_pos (by simp [d, e])]
    · rw [if_neg b, if_neg b]
      by_cases d : c = 59
      · rw [if_pos d]
        by_cases e : p < 17
        · rw [if_neg (fun z => z e), if_pos (by simp [d, e])]
        · rw [if_pos e, if_neg (by simp [e])]
      · rw [if_neg d, if_neg (by simp [d])]
def FF (N : Nat) (cc : Nat → Int32) (e : Nat) : Prop := e ≤ N ∧ (∀ q, q < e → gO q (cc q) = true) ∧ (e < N → ¬ gO e (cc e) = true) ∧ (e = N → ¬ N % 3 = 2)
def FN (N : Nat) (cc : Nat → Int32) : Prop := N % 3 = 2 ∧ ∀ q, q < N → gO q (cc q) = true
theorem FF_u {N e e' : Nat} {cc : Nat → Int32} (h : FF N cc e) (h' : FF N cc e') : e = e' := by
  rcases Nat.lt_trichotomy e e' with q | q | q
  · exact absurd (h'.2.1 e q) (h.2.2.1 (by have := h'.1; omega))
  · exact q
  · exact absurd (h.2.1 e' q) (h'.2.2.1 (by have := h.1; omega))
theorem FF_n {N e : Nat} {cc : Nat → Int32} (h : FF N cc e) (h' : FN N cc) : False := by
  by_cases q : e < N
  · exact h.2.2.1 q (h'.2 e q)
  · exact h.2.2.2 (by have := h.1; omega) h'.1
theorem gO17 (c : Int32) : ¬ gO 17 c = true := by unfold gO; simp
theorem FN_17 {N : Nat} {cc : Nat → Int32} (h : FN N cc) : N ≤ 17 := by
  by_cases q : N ≤ 17
  · exact q
  · exact absurd (h.2 17 (by omega)) (gO17 _)
theorem first_ev {G : GG} {x0 i0 N : Nat} {s : SS} (hN : i0 + N ≤ 40) {cc : Nat → Int32} (hcc : ∀ p, p < N → s (x0 + 4) (i0 + p) = cc p) : (CT_firstFault G x0 s (nI i0) (nI N) = some (-9, s) ∧ FN N cc) ∨ ∃ e, CT_firstFault G x0 s (nI i0) (nI N) = some (nI e, s) ∧ FF N cc e := by
  unfold CT_firstFault
  refine loopQ N (fun f p (_ : Unit) => CT_firstFault_2 G x0 f (nI i0) (nI N) (nI p) s) (fun p _ => ∀ q, q < p → gO q (cc q) = true) (fun r => (r = some (-9, s) ∧ FN N cc) ∨ ∃ e, r = some (nI e, s) ∧ FF N cc e) ?_ ?_ fuel 0 () (by omega) (by have := fuel_big; omega) (fun q hq => by omega)
  · intro f p _ hp hI
    try dsimp only
    rw [CT_firstFault_2, if_neg (le_no hp (by omega)), nI_add, if_pos (inb_nI (by omega) (by omega)), cl_nI (by omega), hcc p hp, gon_ev (by omega), bnd0_s]
    by_cases q : gO p (cc p) = true
    · right
      rw [if_pos q, if_neg (by decide), nI_s]
      refine ⟨(), rfl, fun t ht => ?_⟩
      by_cases e : t = p
      · rw [e]; exact q
      · exact hI t (by omega)
    · left
      rw [if_neg q, if_pos rfl]
      exact Or.inr ⟨p, rfl, by omega, hI, fun _ => q, fun e => by omega⟩
  · intro f _ hI
    try dsimp only
    have h2 : nI (N % 3) = 2 ↔ N % 3 = 2 := by rw [show (2 : Int32) = nI 2 from by decide, nI_eq_iff (by omega) (by omega)]
    rw [CT_firstFault_2, if_pos (le_ye (Nat.le_refl N) (by omega)), if_pos (by decide), (m3_tab N (by omega)).1]
    unfold CT_firstFault_43
    by_cases q : N % 3 = 2
    · rw [if_pos (h2.mpr q)]
      exact Or.inl ⟨rfl, q, hI⟩
    · rw [if_neg (fun z => q (h2.mp z))]
      exact Or.inr ⟨N, rfl, Nat.le_refl N, hI, fun z => by omega, fun _ => q⟩
def RWs (cc : Nat → Int32) (j : Nat) (a b : Nat → Int32) : Prop := ∀ t, t < j → a t = plc (cc (3 * t)) ∧ b t = cc (3 * t + 1) - 48
theorem takeT_ev {G : GG} {x0 i0 N : Nat} {s : SS} (hx : 10 ≤ x0) (hN : i0 + N ≤ 40) {cc : Nat → Int32} (hcc : ∀ p, p < N → s (x0 + 4) (i0 + p) = cc p) (h17 : N ≤ 17) (h2 : N % 3 = 2) : ∃ s', CH_takeText G 1 x0 s (nI i0) (nI N) = some s' ∧ RWs cc ((N + 1) / 3) (s' 2) (s' 3) ∧ s' 1 2 = nI ((N + 1) / 3) ∧ s' 1 3 = 0 ∧ s' 1 4 = 0 ∧ s' 1 6 = 0 ∧ s' 1 5 = -9 ∧ ∀ a, a ≠ 1 → a ≠ 2 → a ≠ 3 → s' a = s a := by
  have hT : 3 * ((N + 1) / 3) = N + 1 := by omega
  have t6 : (N + 1) / 3 ≤ 6 := by omega
  unfold CH_takeText
  rw [if_pos (by decide), (m3_tab N (by omega)).2, if_neg (show ¬ (6 : Int32) < nI ((N + 1) / 3) by rw [show (6 : Int32) = nI 6 from by decide, nI_lt_iff (by omega) (by omega)]; omega)]
  generalize (N + 1) / 3 = T at *
  refine loopQ T (fun f t s' => CH_takeText_17 G 1 x0 f (nI i0) (nI t) s') (fun t s' => RWs cc t (s' 2) (s' 3) ∧ s' 1 2 = nI T ∧ ∀ a, a ≠ 1 → a ≠ 2 → a ≠ 3 → s' a = s a) (fun r => ∃ s', r = some s' ∧ RWs cc T (s' 2) (s' 3) ∧ s' 1 2 = nI T ∧ s' 1 3 = 0 ∧ s' 1 4 = 0 ∧ s' 1 6 = 0 ∧ s' 1 5 = -9 ∧ ∀ a, a ≠ 1 → a ≠ 2 → a ≠ 3 → s' a = s a) ?_ ?_ fuel 0 _ (by omega) (by have := fuel_big; omega) ⟨fun t ht => by omega, up2_at .., fun a h1 _ _ => up2_row h1⟩
  · rintro f t s' ht ⟨i1, i2, i3⟩
    right
    have e3 : nI i0 + 3 * nI t = nI (i0 + 3 * t) := by rw [show (3 : Int32) = nI 3 from by decide, mul_nI (by omega) (by omega), nI_add]
    refine ⟨up2 (up2 s' 2 t (plc (cc (3 * t)))) 3 t (cc (3 * t + 1) - 48), ?_, ?_, ?_, ?_⟩
    · try dsimp only
      rw [CH_takeText_17, i2, if_neg (le_no ht (by omega)), e3, nI_s, if_pos (inb_nI (by omega) (by omega)), plc_ev, bnd0_s, if_pos (inb_nI (by omega) (by omega)), if_pos (inb_nI (by omega) (by omega)), cl_nI (by omega), cl_nI (by omega), cl_nI (by omega), up2_row (show x0 + 4 ≠ 1 + 1 by omega), i3 (x0 + 4) (by omega) (by omega) (by omega), Nat.add_assoc i0, hcc (3 * t) (by omega), hcc (3 * t + 1) (by omega), if_pos (inb_nI (by omega) (by omega)), nI_s]
    · intro u hu
      rw [up2_row (show (2 : Nat) ≠ 3 by omega), up2_rowe, up2_rowe, up2_row (show (3 : Nat) ≠ 2 by omega)]
      by_cases e : u = t
      · subst e; simp [upd]
      · have := i1 u (by omega)
        simpa [upd, e] using this
    · rw [up2_row (by omega), up2_row (by omega)]; exact i2
    · intro a h1 h2 h3
      rw [up2_row h3, up2_row h2]; exact i3 a h1 h2 h3
  · rintro f s' ⟨i1, i2, i3⟩
    try dsimp only
    rw [CH_takeText_17, i2, if_pos (le_ye (Nat.le_refl T) (by omega)), nb0, if_pos rfl]
    refine ⟨_, rfl, ?_, ?_, ?_, ?_, ?_, ?_, ?_⟩
    · simpa [up2_row] using i1
    · simpa [up2_el] using i2
    · simp [up2_el]
    · simp [up2_el]
    · simp [up2_el]
    · simp [up2_el]
    · intro a h1 h2 h3
      rw [up2_row h1, up2_row h1, up2_row h1, up2_row h1]; exact i3 a h1 h2 h3
/-! the reference reads a text -/
def RF (m m' : SS) : Prop := (∀ a, a ≠ 0 → a ≠ 14 → a ≠ 15 → m' a = m a) ∧ ∀ c, c ≠ 12 → c ≠ 13 → m' 0 c = m 0 c
def RD (B N : Nat) (cc : Nat → Int32) (m0 : SS) (r : Option (Int32 × SS)) : Prop := (∃ m', r = some (1, m') ∧ RF m0 m' ∧ FN N cc ∧ m' 0 13 = nI ((N + 1) / 3) ∧ RWs cc ((N + 1) / 3) (m' 14) (m' 15)) ∨ ∃ m' e, r = some (0, m') ∧ RF m0 m' ∧ m' 0 12 = nI (B + e) ∧ FF N cc e
theorem RF.u {m0 m : SS} (h : RF m0 m) {c : Nat} (hc : c = 12 ∨ c = 13) (v : Int32) : RF m0 (up2 m 0 c v) := by
  refine ⟨fun a h1 h2 h3 => by rw [up2_row h1]; exact h.1 a h1 h2 h3, fun d h1 h2 => by rw [up2_el, if_neg (by omega)]; exact h.2 d h1 h2⟩
theorem RF.r {m0 m : SS} (h : RF m0 m) {a : Nat} (ha : a = 14 ∨ a = 15) (i : Nat) (v : Int32) : RF m0 (up2 m a i v) := by
  refine ⟨fun b h1 h2 h3 => by rw [up2_row (by omega)]; exact h.1 b h1 h2 h3, fun d h1 h2 => by rw [up2_row (by omega)]; exact h.2 d h1 h2⟩
theorem isCode_ev {m : SS} {P E : Nat} (h12 : m 0 12 = nI P) (hE : E ≤ 160) (hP : P ≤ 160) (x : Int32) : M_isCode m x (nI E) = some (if P < E ∧ m 4 P = x then 1 else 0, m) := by
  unfold M_isCode M_isCode_25 M_isCode_26
  rw [h12]
  by_cases e : E ≤ P
  · rw [if_pos (le_ye e (by omega)), nb0, if_pos rfl, if_neg (by omega)]
  · rw [if_neg (le_no (by omega) (by omega)), if_pos (inb_nI (by omega) (by omega)), cl_nI (by omega)]
    by_cases q : m 4 P = x
    · rw [if_pos q, nb1, if_pos rfl, if_pos ⟨by omega, q⟩]
    · rw [if_neg q, nb0, if_pos rfl, if_neg (fun z => q z.2)]
section rdS
variable {B N : Nat} {cc : Nat → Int32} {m0 : SS}
theorem rd129 (hB : B + N ≤ 160) (hcc : ∀ p, p < N → m0 4 (B + p) = cc p) {j : Nat} (hj : j < 6) {k5 : Int32 → SS → Option (Int32 × SS)}
    (hk : ∀ m, RF m0 m → m 0 13 = nI (j + 1) → m 0 12 = nI (B + (3 * j + 2)) → 3 * j + 2 ≤ N → (∀ q, q < 3 * j + 2 → gO q (cc q) = true) → RWs cc (j + 1) (m 14) (m 15) → RD B N cc m0 (k5 (nI (B + N)) m))
    {m : SS} (hR : RF m0 m) (h13 : m 0 13 = nI j) (h12 : m 0 12 = nI (B + 3 * j)) (hl : 3 * j < N) (hg : ∀ q, q < 3 * j + 1 → gO q (cc q) = true) (hw : RWs cc j (m 14) (m 15)) (h14 : m 14 j = plc (cc (3 * j))) : RD B N cc m0 (M_readCafe_129 k5 (nI (B + N)) m) := by
  unfold M_readCafe_129 M_readCafe_166
  rw [h12, nI_s]
  by_cases e : N ≤ 3 * j + 1
  · rw [if_pos (le_ye (by omega) (by omega)), nb0, if_pos rfl]
    refine Or.inr ⟨_, 3 * j + 1, rfl, hR.u (Or.inl rfl) _, ?_, by omega, hg, fun z => by omega, fun _ => by omega⟩
    rw [up2_at]; rfl
  · have h4 : m 4 (B + 3 * j + 1) = cc (3 * j + 1) := by
      rw [hR.1 4 (by omega) (by omega) (by omega), Nat.add_assoc]; exact hcc _ (by omega)
    have g1 : gO (3 * j + 1) (cc (3 * j + 1)) = true ↔ ¬ (cc (3 * j + 1) < 49 ∨ 54 < cc (3 * j + 1)) := by
      unfold gO
      rw [if_neg (show ¬ (3 * j + 1) % 3 = 0 by omega), if_pos (show (3 * j + 1) % 3 = 1 by omega)]
      simp
    rw [if_neg (le_no (by omega) (by omega)), if_pos (inb_nI (by omega) (by omega)), cl_nI (by omega), h4, within_ev, bnd0_s]
    by_cases q : cc (3 * j + 1) < 49 ∨ 54 < cc (3 * j + 1)
    · rw [if_pos ((wi _ _ _).mpr q), nb0, if_pos rfl]
      refine Or.inr ⟨_, 3 * j + 1, rfl, hR.u (Or.inl rfl) _, ?_, by omega, hg, fun _ z => (g1.mp z) q, fun z => by omega⟩
      rw [up2_at]; rfl
    · rw [if_neg (fun z => q ((wi _ _ _).mp z)), if_pos (inb_nI (by omega) (by omega)), h13, if_pos (inb_nI (by omega) (by omega)), cl_nI (by omega), nI_s, nI_s]
      refine hk _ ((((hR.u (Or.inl rfl) _).r (Or.inr rfl) _ _).u (Or.inr rfl) _).u (Or.inl rfl) _) ?_ ?_ (by omega) ?_ ?_
      · rw [up2_el, if_neg (by omega), up2_at]
      · rw [up2_at]; rfl
      · intro t ht
        by_cases z : t = 3 * j + 1
        · rw [z]; exact g1.mpr q
        · exact hg t (by omega)
      · intro t ht
        rw [up2_row (show (14 : Nat) ≠ 0 by omega), up2_row (show (14 : Nat) ≠ 0 by omega), up2_row (show (14 : Nat) ≠ 15 by omega), up2_row (show (14 : Nat) ≠ 0 by omega), up2_row (show (15 : Nat) ≠ 0 by omega), up2_row (show (15 : Nat) ≠ 0 by omega), up2_el, up2_row (show (15 : Nat) ≠ 0 by omega)]
        by_cases z : t = j
        · rw [if_pos ⟨rfl, z⟩, z]; exact ⟨h14, rfl⟩
        · rw [if_neg (fun y => z y.2)]; exact hw t (by omega)
theorem rd58 (hB : B + N ≤ 160) (hcc : ∀ p, p < N → m0 4 (B + p) = cc p) {j : Nat} (hj : j < 6) {k5 : Int32 → SS → Option (Int32 × SS)}
    (hk : ∀ m, RF m0 m → m 0 13 = nI (j + 1) → m 0 12 = nI (B + (3 * j + 2)) → 3 * j + 2 ≤ N → (∀ q, q < 3 * j + 2 → gO q (cc q) = true) → RWs cc (j + 1) (m 14) (m 15) → RD B N cc m0 (k5 (nI (B + N)) m))
    {m : SS} (hR : RF m0 m) (h13 : m 0 13 = nI j) (h12 : m 0 12 = nI (B + 3 * j)) (hl : 3 * j ≤ N) (hg : ∀ q, q < 3 * j → gO q (cc q) = true) (hw : RWs cc j (m 14) (m 15)) : RD B N cc m0 (M_readCafe_58 k5 (nI (B + N)) m) := by
  unfold M_readCafe_58
  have ic := fun x => isCode_ev (m := m) (x := x) h12 hB (by omega)
  by_cases e : N ≤ 3 * j
  · have no : ∀ x, ¬ (B + 3 * j < B + N ∧ m 4 (B + 3 * j) = x) := fun x z => by omega
    rw [ic, bnd_s, if_neg (no _), if_pos rfl, ic, bnd_s, if_neg (no _), if_pos rfl, ic, bnd_s, if_neg (no _), if_pos rfl, nb0, if_pos rfl]
    exact Or.inr ⟨m, 3 * j, rfl, hR, h12, hl, hg, fun z => by omega, fun _ => by omega⟩
  · have h4 : m 4 (B + 3 * j) = cc (3 * j) := by
      rw [hR.1 4 (by omega) (by omega) (by omega)]; exact hcc _ (by omega)
    have lt : B + 3 * j < B + N := by omega
    have g0 : gO (3 * j) (cc (3 * j)) = true ↔ ¬ plc (cc (3 * j)) = -9 := by
      unfold gO
      rw [if_pos (show (3 * j) % 3 = 0 by omega)]
      simp
    have go : ∀ v, plc (cc (3 * j)) = v → ¬ v = -9 → RD B N cc m0 (M_readCafe_129 k5 (nI (B + N)) (up2 m 14 j v)) := by
      intro v hv hn
      refine rd129 hB hcc hj hk (hR.r (Or.inl rfl) _ _) (by rw [up2_row (by omega)]; exact h13) (by rw [up2_row (by omega)]; exact h12) (by omega) ?_ ?_ (by rw [up2_at]; exact hv.symm)
      · intro t ht
        by_cases z : t = 3 * j
        · rw [z]; exact g0.mpr (by rw [hv]; exact hn)
        · exact hg t (by omega)
      · intro t ht
        rw [up2_el, if_neg (by omega), up2_row (by omega)]; exact hw t ht
    simp only [ic, bnd_s, h4, lt, true_and, h13, cl_nI (show j < 2147483648 by omega), inb_nI hj (show 6 < 2147483648 by omega)]
    by_cases a : cc (3 * j) = 115
    · rw [if_pos a, if_neg (by decide), if_pos trivial]
      exact go 0 (by rw [a]; decide) (by decide)
    · rw [if_neg a, if_pos rfl]
      by_cases b : cc (3 * j) = 119
      · rw [if_pos b, if_neg (by decide), if_pos trivial]
        exact go 1 (by rw [b]; decide) (by decide)
      · rw [if_neg b, if_pos rfl]
        by_cases c : cc (3 * j) = 105
        · rw [if_pos c, if_neg (by decide), if_pos trivial]
          exact go 2 (by rw [c]; decide) (by decide)
        · rw [if_neg c, if_pos rfl, nb0, if_pos rfl]
          refine Or.inr ⟨m, 3 * j, rfl, hR, h12, hl, hg, fun _ z => g0.mp z ?_, fun z => by omega⟩
          unfold plc
          rw [if_neg c, if_neg a, if_neg b]
theorem rd (hB : B + N ≤ 160) (hcc : ∀ p, p < N → m0 4 (B + p) = cc p) : ∀ (d j f : Nat) (m : SS), j + d = 6 → d < f → RF m0 m → m 0 13 = nI j → m 0 12 = nI (B + (3 * j - 1)) → 3 * j - 1 ≤ N → (∀ q, q < 3 * j - 1 → gO q (cc q) = true) → RWs cc j (m 14) (m 15) → RD B N cc m0 (M_readCafe_5 f (nI (B + N)) m) := by
  intro d
  induction d with
  | zero =>
    intro j f m hj hf hR h13 h12 hl hg hw
    obtain ⟨f, rfl⟩ : ∃ f', f = f' + 1 := ⟨f - 1, by omega⟩
    have : j = 6 := by omega
    subst this
    rw [M_readCafe_5, h13, if_neg (by decide), h12]
    by_cases e : N ≤ 17
    · rw [if_pos (le_ye (by omega) (by omega)), nb1, if_pos rfl]
      refine Or.inl ⟨m, rfl, hR, ⟨by omega, fun q hq => hg q (by omega)⟩, ?_, ?_⟩
      · rw [h13, show (N + 1) / 3 = 6 by omega]
      · rw [show (N + 1) / 3 = 6 by omega]; exact hw
    · rw [if_neg (le_no (by omega) (by omega))]
      unfold M_readCafe_20 M_readCafe_46
      rw [h13, if_neg (by decide), if_pos (by decide), nb0, if_pos rfl]
      exact Or.inr ⟨m, 17, rfl, hR, h12, hl, hg, fun _ => gO17 _, fun z => by omega⟩
  | succ d ih =>
    intro j f m hj hf hR h13 h12 hl hg hw
    obtain ⟨f, rfl⟩ : ∃ f', f = f' + 1 := ⟨f - 1, by omega⟩
    have hk : ∀ m, RF m0 m → m 0 13 = nI (j + 1) → m 0 12 = nI (B + (3 * j + 2)) → 3 * j + 2 ≤ N → (∀ q, q < 3 * j + 2 → gO q (cc q) = true) → RWs cc (j + 1) (m 14) (m 15) → RD B N cc m0 (M_readCafe_5 f (nI (B + N)) m) := by
      intro m r1 r2 r3 r4 r5 r6
      refine ih (j + 1) f m (by omega) (by omega) r1 r2 ?_ (by omega) (fun q hq => r5 q (by omega)) r6
      rw [r3]; congr 1
    rw [M_readCafe_5, h13]
    unfold M_readCafe_20 M_readCafe_46
    rw [h13]
    by_cases z : j = 0
    · subst z
      rw [if_pos nI_0, if_pos (show nI 0 ≤ 0 by decide)]
      exact rd58 hB hcc (by omega) hk hR h13 h12 (by omega) (fun q hq => by omega) hw
    · rw [if_neg (show ¬ nI j = 0 by rw [show (0 : Int32) = nI 0 from by decide, nI_eq_iff (by omega) (by omega)]; exact z), h12]
      by_cases e : N ≤ 3 * j - 1
      · rw [if_pos (le_ye (by omega) (by omega)), nb1, if_pos rfl]
        refine Or.inl ⟨m, rfl, hR, ⟨by omega, fun q hq => hg q (by omega)⟩, ?_, ?_⟩
        · rw [h13, show (N + 1) / 3 = j by omega]
        · rw [show (N + 1) / 3 = j by omega]; exact hw
      · have h4 : m 4 (B + (3 * j - 1)) = cc (3 * j - 1) := by
          rw [hR.1 4 (by omega) (by omega) (by omega)]; exact hcc _ (by omega)
        have g2 : gO (3 * j - 1) (cc (3 * j - 1)) = true ↔ cc (3 * j - 1) = 59 := by
          unfold gO
          rw [if_neg (show ¬ (3 * j - 1) % 3 = 0 by omega), if_neg (show ¬ (3 * j - 1) % 3 = 1 by omega)]
          have : 3 * j - 1 < 17 := by omega
          simp [this]
        rw [if_neg (le_no (by omega) (by omega)), if_neg (show ¬ nI j ≤ 0 by rw [show (0 : Int32) = nI 0 from by decide]; exact le_no (by omega) (by omega)), if_neg (show ¬ nI j = 6 by rw [show (6 : Int32) = nI 6 from by decide, nI_eq_iff (by omega) (by omega)]; omega), isCode_ev h12 hB (by omega), bnd_s, h4]
        by_cases q : cc (3 * j - 1) = 59
        · rw [if_pos (show B + (3 * j - 1) < B + N ∧ cc (3 * j - 1) = 59 from ⟨by omega, q⟩), if_neg (show ¬ (1 : Int32) = 0 from by decide), h12, nI_s]
          refine rd58 hB hcc (by omega) hk (hR.u (Or.inl rfl) _) (by rw [up2_el, if_neg (by omega)]; exact h13) ?_ (by omega) ?_ (by rw [up2_row (by omega), up2_row (by omega)]; exact hw)
          · rw [up2_at]; congr 1; omega
          · intro t ht
            by_cases y : t = 3 * j - 1
            · rw [y]; exact g2.mpr q
            · exact hg t (by omega)
        · rw [if_neg (show ¬ (B + (3 * j - 1) < B + N ∧ cc (3 * j - 1) = 59) from fun y => q y.2), if_pos (show (0 : Int32) = 0 from rfl), nb0, if_pos rfl]
          exact Or.inr ⟨m, 3 * j - 1, rfl, hR, h12, hl, hg, fun _ y => q (g2.mp y), fun y => by omega⟩
end rdS
theorem copyM_ev {T : Nat} (hT : T ≤ 6) {m : SS} (h5 : m 0 5 = nI T) : ∃ m', M_cafe_95 fuel 0 m = some (nI T, m') ∧ (∀ t, t < T → m' 6 t = m 14 t ∧ m' 7 t = m 15 t) ∧ (∀ a, a ≠ 0 → a ≠ 6 → a ≠ 7 → m' a = m a) ∧ m' 0 16 = 0 ∧ m' 0 8 = 0 ∧ m' 0 9 = 0 ∧ m' 0 10 = 0 ∧ m' 0 11 = -9 ∧ ∀ c, c < 8 → m' 0 c = m 0 c := by
  refine loopQ T (fun f t m' => M_cafe_95 f (nI t) m') (fun t m' => (∀ u, u < t → m' 6 u = m 14 u ∧ m' 7 u = m 15 u) ∧ ∀ a, a ≠ 6 → a ≠ 7 → m' a = m a) (fun r => ∃ m', r = some (nI T, m') ∧ (∀ t, t < T → m' 6 t = m 14 t ∧ m' 7 t = m 15 t) ∧ (∀ a, a ≠ 0 → a ≠ 6 → a ≠ 7 → m' a = m a) ∧ m' 0 16 = 0 ∧ m' 0 8 = 0 ∧ m' 0 9 = 0 ∧ m' 0 10 = 0 ∧ m' 0 11 = -9 ∧ ∀ c, c < 8 → m' 0 c = m 0 c) ?_ ?_ fuel 0 m (by omega) (by have := fuel_big; omega) ⟨fun u hu => by omega, fun _ _ _ => rfl⟩
  · rintro f t m' ht ⟨i1, i2⟩
    right
    refine ⟨up2 (up2 m' 6 t (m 14 t)) 7 t (m 15 t), ?_, ?_, ?_⟩
    · try dsimp only
      have ib := inb_nI (show t < 6 by omega) (show 6 < 2147483648 by omega)
      rw [M_cafe_95, i2 0 (by omega) (by omega), h5, if_neg (le_no ht (by omega)), if_pos ib, if_pos ib, if_pos ib, if_pos ib, cl_nI (by omega), nI_s, i2 14 (by omega) (by omega), i2 15 (by omega) (by omega)]
    · intro u hu
      rw [up2_row (show (6 : Nat) ≠ 7 by omega), up2_el, up2_el, up2_row (show (7 : Nat) ≠ 6 by omega)]
      by_cases e : u = t
      · rw [if_pos ⟨rfl, e⟩, if_pos ⟨rfl, e⟩, e]; exact ⟨rfl, rfl⟩
      · rw [if_neg (fun z => e z.2), if_neg (fun z => e z.2)]; exact i1 u (by omega)
    · intro a h1 h2
      rw [up2_row h2, up2_row h1]; exact i2 a h1 h2
  · rintro f m' ⟨i1, i2⟩
    try dsimp only
    have e0 := i2 0 (by omega) (by omega)
    rw [M_cafe_95, e0, h5, if_pos (le_ye (Nat.le_refl T) (by omega)), nb0, if_pos rfl]
    refine ⟨_, rfl, ?_, ?_, ?_, ?_, ?_, ?_, ?_, ?_⟩
    · intro t ht
      simp only [up2_el]
      simpa using i1 t ht
    · intro a h0 h6 h7
      rw [up2_row h0, up2_row h0, up2_row h0, up2_row h0, up2_row h0]; exact i2 a h6 h7
    · simp [up2_el]
    · simp [up2_el]
    · simp [up2_el]
    · simp [up2_el]
    · simp [up2_el]
    · intro c hc
      have n1 : ¬ c = 16 := by omega
      have n2 : ¬ c = 8 := by omega
      have n3 : ¬ c = 9 := by omega
      have n4 : ¬ c = 10 := by omega
      have n5 : ¬ c = 11 := by omega
      simp [up2_el, n1, n2, n3, n4, n5, e0]
