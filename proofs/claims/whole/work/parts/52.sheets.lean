/-! sheets -/
theorem ups_el {s : SS} {j a b : Nat} {f : Nat → Int32} : ups s j f a b = if a = j then f b else s a b := by
  unfold ups
  by_cases h : a = j <;> simp [h]
theorem fuel_big : 400000 < fuel := by unfold fuel; decide
theorem nI_ge_iff {a b : Nat} (ha : a < 2147483648) (hb : b < 2147483648) : nI a ≤ nI b ↔ a ≤ b := by rw [i_le, nI_T ha, nI_T hb]; omega
theorem nI_lt_iff {a b : Nat} (ha : a < 2147483648) (hb : b < 2147483648) : nI a < nI b ↔ a < b := by rw [i_lt, nI_T ha, nI_T hb]; omega
theorem nI_eq_iff {a b : Nat} (ha : a < 2147483648) (hb : b < 2147483648) : nI a = nI b ↔ a = b := by rw [i_eq, nI_T ha, nI_T hb]; omega
theorem nI_s (i : Nat) : nI i + 1 = nI (i + 1) := nI_1 i
theorem fill_loop (G : GG) (o nn : Nat) (hn : nn < 1000) (v : Int32) : ∀ n i s, i ≤ nn → nn < n + i → CJ_fill_5 G o nn n v (nI i) (nI nn) s = some (ups s o (fun j => if i ≤ j ∧ j < nn then v else s o j)) := by
  intro n
  induction n with
  | zero => intro i s h1 h2; omega
  | succ n ih =>
    intro i s h1 h2
    rw [CJ_fill_5]
    by_cases e : nn ≤ i
    · rw [if_pos ((nI_ge_iff (by omega) (by omega)).mpr e)]
      congr 1
      funext a b
      simp only [ups]
      by_cases q : a = o
      · subst q; rw [if_pos rfl, if_neg (by omega)]
      · rw [if_neg q]
    · rw [if_neg (fun h => e ((nI_ge_iff (by omega) (by omega)).mp h)), if_pos (inb_nI (by omega) (by omega)), cl_nI (by omega), nI_s, ih (i + 1) _ (by omega) (by omega)]
      congr 1
      funext a b
      simp only [ups_el, up2_el]
      by_cases q : a = o
      · subst q
        simp only [true_and, if_true]
        repeat' split
        all_goals first | rfl | (exfalso; omega)
      · simp [q]
theorem fill_ev (G : GG) (o nn : Nat) (hn : nn < 1000) (v : Int32) (s : SS) : CJ_fill G o nn s v = some (ups s o (fun j => if j < nn then v else s o j)) := by
  unfold CJ_fill
  have h := fill_loop G o nn hn v fuel 0 s (by omega) (by have := fuel_big; omega)
  rw [nI_0] at h
  rw [show (Int32.ofNat nn) = nI nn from rfl, h]
  congr 1
  funext a b
  simp only [ups]
  by_cases q : a = o
  · subst q; rw [if_pos rfl, if_pos rfl]; simp
  · rw [if_neg q, if_neg q]
def RSheet (h c : Nat → Int32) (so lo : Int32) (f : Nat → Int32) : Prop :=
  (∀ i, i < 40 → c i = f i) ∧ ((h 1 = 0 ∧ so = -9) ∨ (h 1 = 1 ∧ so = h 2 ∧ lo = h 3 ∧ (0 ≤ (h 2).toInt ∧ (h 2).toInt ≤ 2) ∧ 0 ≤ (h 3).toInt ∧ (h 3).toInt ≤ 40))
def RShs (s m : SS) : Prop := ∀ k, k < 4 → RSheet (s (10 + k)) (s (10 + k + 4)) (m 2 k) (m 3 k) (fun i => m 4 (40 * k + i))
/-- what a call on sheets may change -/
def SFr (s s' : SS) : Prop := (∀ a, ((1 ≤ a ∧ a < 10) ∨ 18 ≤ a) → s' a = s a) ∧ ∀ b, b ≠ 10 → s' 0 b = s 0 b
def MFr (m m' : SS) : Prop := (∀ a, 5 ≤ a → m' a = m a) ∧ ∀ b, b ≠ 0 → m' 0 b = m 0 b
theorem SFr.f (s : SS) (v : Int32) : SFr s (up2 s 0 10 v) := by
  refine ⟨fun a h => up2_row (by omega), fun b h => by rw [up2_el, if_neg (by omega)]⟩
theorem MFr.f (m : SS) (v : Int32) : MFr m (up2 m 0 0 v) := by
  refine ⟨fun a h => up2_row (by omega), fun b h => by rw [up2_el, if_neg (by omega)]⟩
theorem SFr.up {s s' : SS} {a b : Nat} {v : Int32} (h : SFr s s') (ha : 10 ≤ a ∧ a < 18) : SFr s (up2 s' a b v) := by
  refine ⟨fun c hc => by rw [up2_row (by omega)]; exact h.1 c hc, fun c hc => by rw [up2_el, if_neg (by omega)]; exact h.2 c hc⟩
theorem SFr.ups {s s' : SS} {a : Nat} {f : Nat → Int32} (h : SFr s s') (ha : 10 ≤ a ∧ a < 18) : SFr s (ups s' a f) := by
  refine ⟨fun c hc => by rw [ups_row (by omega)]; exact h.1 c hc, fun c hc => by rw [ups_row (by omega)]; exact h.2 c hc⟩
theorem MFr.up {m m' : SS} {a b : Nat} {v : Int32} (h : MFr m m') (ha : 2 ≤ a ∧ a < 5) : MFr m (up2 m' a b v) := by
  refine ⟨fun c hc => by rw [up2_row (by omega)]; exact h.1 c hc, fun c hc => by rw [up2_el, if_neg (by omega)]; exact h.2 c hc⟩
theorem MFr.ups {m m' : SS} {a : Nat} {f : Nat → Int32} (h : MFr m m') (ha : 2 ≤ a ∧ a < 5) : MFr m (ups m' a f) := by
  refine ⟨fun c hc => by rw [ups_row (by omega)]; exact h.1 c hc, fun c hc => by rw [ups_row (by omega)]; exact h.2 c hc⟩
theorem RShs.f {s m : SS} (h : RShs s m) (v w : Int32) : RShs (up2 s 0 10 v) (up2 m 0 0 w) := fun k hk => by
  rw [up2_row (by omega), up2_row (by omega)]
  exact h k hk
/-- a sheet's number: one of four, or refused by both -/
theorem sh_cases (x : Int32) : (CT_isNoSheet x = some 1 ∧ M_isSheet x = some 0) ∨ ∃ k, k < 4 ∧ x = nI k ∧ CT_isNoSheet x = some 0 ∧ M_isSheet x = some 1 ∧ inb x 4 = true ∧ x.toNatClampNeg = k := by
  rw [noSheet_ev, isSheet_ev]
  by_cases a : x < 0
  · left; simp [a]
  · by_cases b : x < 4
    · right
      have a' := a; have b' := b
      rw [i_lt, t0] at a'; rw [i_lt, t4] at b'
      have c : ¬ 3 < x := by rw [i_lt, t3]; omega
      refine ⟨x.toInt.toNat, by omega, i_nat (by omega), ?_, ?_, by rw [inb_iff]; omega, rfl⟩
      · simp [a, b]
      · simp [a, c]
    · left
      have b' := b
      rw [i_lt, t4] at b'
      have c : 3 < x := by rw [i_lt, t3]; omega
      simp [a, b, c]
theorem sort_cases (x : Int32) : (CT_isNoSort x = some 1 ∧ M_isSort x = some 0) ∨ (CT_isNoSort x = some 0 ∧ M_isSort x = some 1 ∧ 0 ≤ x.toInt ∧ x.toInt ≤ 2) := by
  rw [noSort_ev, isSort_ev]
  by_cases a : x < 0
  · left; simp [a]
  · by_cases b : x ≤ 2
    · right
      have a' := a; have b' := b
      rw [i_lt, t0] at a'; rw [i_le, t2] at b'
      have c : ¬ 2 < x := by rw [i_lt, t2]; omega
      refine ⟨by simp [a, b], by simp [a, c], by omega, by omega⟩
    · left
      have b' := b
      rw [i_le, t2] at b'
      have c : 2 < x := by rw [i_lt, t2]; omega
      simp [a, b, c]
theorem lose_ev (G : GG) (s m : SS) (x : Int32) (h : RShs s m) (hf : s 0 10 = m 0 0) : ∃ r s' m', CT_lose G s x = some (r, s') ∧ M_lose m x = some (r, m') ∧ RShs s' m' ∧ SFr s s' ∧ MFr m m' ∧ s' 0 10 = m' 0 0 := by
  have s0 : SFr s s := ⟨fun _ _ => rfl, fun _ _ => rfl⟩
  have m0 : MFr m m := ⟨fun _ _ => rfl, fun _ _ => rfl⟩
  unfold CT_lose M_lose M_lose_25
  rcases sh_cases x with ⟨a, b⟩ | ⟨k, hk, hx, a, b, c, d⟩
  · exact ⟨-1, s, m, by simp [a, bnd0_s], by simp [b, bnd0_s], h, s0, m0, hf⟩
  · simp only [a, b, c, d, bnd0_s, nb0]
    obtain ⟨g1, g2⟩ := h k hk
    rcases g2 with ⟨e1, e2⟩ | ⟨e1, e2, e3, e4, e5⟩
    · refine ⟨0, s, up2 m 2 k (-9), by simp [e1], by simp [e2], ?_, s0, m0.up (by omega), ?_⟩
      · intro j hj
        obtain ⟨p1, p2⟩ := h j hj
        rw [up2_row (show (3 : Nat) ≠ 2 by omega), up2_row (show (4 : Nat) ≠ 2 by omega), up2_el]
        by_cases e : j = k
        · subst e; rw [if_pos ⟨rfl, rfl⟩]; exact ⟨p1, Or.inl ⟨e1, rfl⟩⟩
        · rw [if_neg (by omega)]; exact ⟨p1, p2⟩
      · rw [up2_el, if_neg (by omega)]; exact hf
    · have ne : ¬ m 2 k = -9 := by rw [e2, i_eq, tm9]; omega
      refine ⟨1, up2 s (10 + k) 1 0, up2 m 2 k (-9), by simp [e1], by simp [ne], ?_, s0.up (by omega), m0.up (by omega), ?_⟩
      · intro j hj
        obtain ⟨p1, p2⟩ := h j hj
        rw [up2_row (show (3 : Nat) ≠ 2 by omega), up2_row (show (4 : Nat) ≠ 2 by omega), up2_el (s := m), up2_row (show 10 + j + 4 ≠ 10 + k by omega)]
        by_cases e : j = k
        · subst e; rw [if_pos ⟨rfl, rfl⟩]; refine ⟨p1, Or.inl ⟨?_, rfl⟩⟩; rw [up2_el, if_pos ⟨rfl, rfl⟩]
        · rw [if_neg (by omega), up2_row (show 10 + j ≠ 10 + k by omega)]; exact ⟨p1, p2⟩
      · rw [up2_el, up2_el, if_neg (by omega), if_neg (by omega)]; exact hf
theorem lin40 {k i : Nat} (hk : k < 4) (hi : i < 41) : (40 : Int32) * nI k + nI i = nI (40 * k + i) := by
  rw [show (40 : Int32) = nI 40 from by decide, pk_mul, nI_add]
theorem uu (q : SS) (j i : Nat) (a b : Int32) : up2 (up2 q j i a) j i b = up2 q j i b := by
  funext c d
  simp only [up2_el]
  by_cases e : c = j ∧ d = i <;> simp [e]
theorem cut_ev (G : GG) (o : Nat) (s : SS) (x : Int32) : CE_cut G o s x = some (if s o 2 = 0 then x.toInt8.toInt32 else if s o 2 = 1 then x.toInt16.toInt32 else x, s) := by
  unfold CE_cut CE_cut_24
  by_cases a : s o 2 = 0 <;> by_cases b : s o 2 = 1 <;> simp [a, b]
theorem put_ev (G : GG) (s m : SS) (x y z : Int32) (h : RShs s m) : ∃ r s' m', CT_put G s x y z = some (r, s') ∧ M_put m x y z = some (r, m') ∧ RShs s' m' ∧ SFr s s' ∧ MFr m m' ∧ s' 0 10 = m' 0 0 := by
  have fl : ∀ v, RShs (up2 s 0 10 v) (up2 m 0 0 v) ∧ SFr s (up2 s 0 10 v) ∧ MFr m (up2 m 0 0 v) ∧ (up2 s 0 10 v) 0 10 = (up2 m 0 0 v) 0 0 := fun v => ⟨h.f v v, SFr.f s v, MFr.f m v, by rw [up2_at, up2_at]⟩
  unfold CT_put M_put CT_put_49 M_put_93 CT_failed M_fails
  rcases sh_cases x with ⟨a, b⟩ | ⟨k, hk, hx, a, b, c, d⟩
  · exact ⟨-1, _, _, by simp [a, bnd0_s], by simp [b, bnd0_s], fl 0⟩
  · simp only [a, b, c, d, bnd0_s, bnd_s, within_ev, cut_ev, uu]
    rw [up2_row (show 10 + k ≠ 0 by omega)]
    obtain ⟨g1, g2⟩ := h k hk
    rcases g2 with ⟨e1, e2⟩ | ⟨e1, e2, e3, e4, e5, e6⟩
    · exact ⟨-11, _, _, by simp [e1], by simp [e2], fl 1⟩
    · have ne : ¬ m 2 k = -9 := by rw [e2, i_eq, tm9]; omega
      have n1 : ¬ s (10 + k) 1 = 0 := by rw [e1]; decide
      have tl : (m 3 k - 1).toInt = (m 3 k).toInt - 1 := by rw [i_sub (by rw [e3, t1]; omega) (by rw [e3, t1]; omega), t1]
      by_cases y0 : y < 0
      · exact ⟨-13, _, _, by simp [e1, y0], by simp [ne, y0], fl 3⟩
      · by_cases y1 : y < s (10 + k) 3
        · have y2 : ¬ m 3 k - 1 < y := by rw [i_lt, tl, e3]; rw [i_lt] at y1; omega
          have y0' := y0; have y1' := y1
          rw [i_lt, t0] at y0'; rw [i_lt] at y1'
          have hy := i_nat (x := y) (by omega)
          have hi : y.toNatClampNeg < 40 := by rw [i_cl]; omega
          have hy' : y = nI y.toNatClampNeg := hy
          generalize y.toNatClampNeg = i at hi hy' 
          have hb : inb y 40 = true := by rw [inb_iff]; omega
          have hcl : y.toNatClampNeg = i := by rw [hy', cl_nI (by omega)]
          have hl : (40 : Int32) * x + y = nI (40 * k + i) := by rw [hx, hy', lin40 hk (by omega)]
          have hb2 : inb (nI (40 * k + i)) 160 = true := inb_nI (by omega) (by omega)
          obtain ⟨v, hv⟩ : ∃ v, v = (if s (10 + k) 2 = 0 then z.toInt8.toInt32 else if s (10 + k) 2 = 1 then z.toInt16.toInt32 else z) := ⟨_, rfl⟩
          refine ⟨1, up2 (up2 s 0 10 0) (10 + k + 4) i v, up2 (up2 m 0 0 0) 4 (40 * k + i) v, ?_, ?_, ?_, (SFr.f s 0).up (by omega), (MFr.f m 0).up (by omega), ?_⟩
          · simp [n1, y0, y1, hb, hcl, ← hv]
          · simp only [hl, hb2, cl_nI (show 40 * k + i < 2147483648 by omega)]
            rw [← e2] at hv
            by_cases p0 : m 2 k = 0
            · simp [y0, y2, p0, hv]
            · by_cases p1 : m 2 k = 1
              · simp [y0, y2, p1, hv]
              · simp [ne, y0, y2, p0, p1, hv]
          · intro j hj
            obtain ⟨p1, p2⟩ := h j hj
            rw [up2_row (show 10 + j ≠ 10 + k + 4 by omega), up2_row (show 10 + j ≠ 0 by omega), up2_row (show (2 : Nat) ≠ 4 by omega), up2_row (show (3 : Nat) ≠ 4 by omega), up2_row (show (2 : Nat) ≠ 0 by omega), up2_row (show (3 : Nat) ≠ 0 by omega)]
            refine ⟨fun q hq => ?_, p2⟩
            show _ = up2 (up2 m 0 0 0) 4 (40 * k + i) v 4 (40 * j + q)
            rw [up2_el, up2_el (s := up2 m 0 0 0), up2_row (show 10 + j + 4 ≠ 0 by omega), up2_row (show (4 : Nat) ≠ 0 by omega)]
            by_cases e : j = k ∧ q = i
            · rw [if_pos (by omega), if_pos (by omega)]
            · rw [if_neg (by omega), if_neg (by omega)]; exact p1 q hq
          · rw [up2_el, if_neg (by omega), up2_el (s := up2 m 0 0 0), if_neg (by omega), up2_at, up2_at]
        · have y2 : m 3 k - 1 < y := by rw [i_lt, tl, e3]; rw [i_lt] at y1; omega
          exact ⟨-13, _, _, by simp [e1, y0, y1], by simp [ne, y0, y2], fl 3⟩
theorem reaches_ev (G : GG) (o : Nat) (s : SS) (x y : Int32) : CE_reaches G o s x y = some (if x < 0 then 0 else if s o 3 < x then 0 else if y < 0 then 0 else if s o 3 - x < y then 0 else 1, s) := by
  unfold CE_reaches CE_reaches_30 CE_reaches_31
  by_cases a : x < 0 <;> by_cases b : s o 3 < x <;> by_cases c : y < 0 <;> by_cases d : s o 3 - x < y <;> simp [a, b, c, d, nb0, nb1]
theorem sheet_loop (k : Nat) (hk : k < 4) : ∀ n i m, i ≤ 40 → 40 < n + i → M_sheet_57 n (nI k) (nI i) m = some (1, ups m 4 (fun j => if 40 * k + i ≤ j ∧ j < 40 * k + 40 then 0 else m 4 j)) := by
  intro n
  induction n with
  | zero => intro i s h1 h2; omega
  | succ n ih =>
    intro i m h1 h2
    rw [M_sheet_57, lin40 hk (by omega)]
    by_cases e : 40 ≤ i
    · rw [if_pos (by rw [show (40 : Int32) = nI 40 from by decide]; exact (nI_ge_iff (by omega) (by omega)).mpr e)]
      congr 2
      funext a b
      simp only [ups_el]
      by_cases q : a = 4
      · subst q; rw [if_pos rfl, if_neg (by omega)]
      · rw [if_neg q]
    · rw [if_neg (by rw [show (40 : Int32) = nI 40 from by decide]; exact fun h => e ((nI_ge_iff (by omega) (by omega)).mp h)), if_pos (inb_nI (by omega) (by omega)), cl_nI (by omega), nI_s, ih (i + 1) _ (by omega) (by omega)]
      congr 2
      funext a b
      simp only [ups_el, up2_el]
      by_cases q : a = 4
      · subst q
        simp only [true_and, if_true]
        repeat' split
        all_goals first | rfl | (exfalso; omega)
      · simp [q]
theorem sheet_ev (G : GG) (s m : SS) (x y z : Int32) (h : RShs s m) : ∃ r s' m', CT_sheet G s x y z = some (r, s') ∧ M_sheet m x y z = some (r, m') ∧ RShs s' m' ∧ SFr s s' ∧ MFr m m' ∧ s' 0 10 = m' 0 0 := by
  have fl : ∀ v, RShs (up2 s 0 10 v) (up2 m 0 0 v) ∧ SFr s (up2 s 0 10 v) ∧ MFr m (up2 m 0 0 v) ∧ (up2 s 0 10 v) 0 10 = (up2 m 0 0 v) 0 0 := fun v => ⟨h.f v v, SFr.f s v, MFr.f m v, by rw [up2_at, up2_at]⟩
  unfold CT_sheet M_sheet CT_sheet_27 M_sheet_27 CE_renew CT_failed M_fails
  rcases sh_cases x with ⟨a, b⟩ | ⟨k, hk, hx, a, b, c, d⟩
  · exact ⟨-1, _, _, by simp [a, bnd0_s], by simp [b, bnd0_s], fl 0⟩
  rcases sort_cases y with ⟨a2, b2⟩ | ⟨a2, b2, y1, y2⟩
  · exact ⟨-2, _, _, by simp [a, a2, bnd0_s], by simp [b, b2, bnd0_s], fl 0⟩
  simp only [a, b, c, d, a2, b2, bnd0_s, bnd_s, uu, nb1, fill_ev G _ 40 (by omega)]
  by_cases z1 : z ≤ 40
  · by_cases z2 : 0 ≤ z
    · have z1' := z1; have z2' := z2
      rw [i_le, t40] at z1'; rw [i_le, t0] at z2'
      have hl := sheet_loop k hk fuel 0 (up2 (up2 (up2 m 0 0 0) 2 k y) 3 k z) (by omega) (by have := fuel_big; omega)
      rw [nI_0, ← hx] at hl
      refine ⟨1, _, _, by simp [z1, z2, bnd0_s]; rfl, by simp only [z1, z2, if_true, if_neg (show ¬ (1 : Int32) = 0 by decide)]; exact hl, ?_, ?_, ?_, ?_⟩
      · intro j hj
        obtain ⟨p1, p2⟩ := h j hj
        refine ⟨fun q hq => ?_, ?_⟩
        · have e1 := p1 q hq
          simp only [ups_el, up2_el, if_true]
          by_cases e : j = k
          · subst e
            repeat' split
            all_goals first | rfl | (exfalso; omega)
          · repeat' split
            all_goals first | rfl | exact e1 | (exfalso; omega)
        · simp only [ups_el, up2_el]
          by_cases e : j = k
          · subst e
            right
            simp
            exact ⟨⟨y1, y2⟩, z2', z1'⟩
          · have n1 : ¬ 10 + j = 10 + k := by omega
            have n2 : ¬ 10 + j = 10 + k + 4 := by omega
            have n3 : ¬ 10 + j = 0 := by omega
            simp only [n1, n2, n3, e, false_and, and_false, if_false, show ¬ (2 : Nat) = 4 by omega, show ¬ (3 : Nat) = 4 by omega, show ¬ (2 : Nat) = 3 by omega, show ¬ (2 : Nat) = 0 by omega, show ¬ (3 : Nat) = 0 by omega]
            exact p2
      · exact ((((SFr.f s 0).ups (a := 10 + k + 4) (by omega)).up (by omega)).up (by omega)).up (by omega)
      · exact (((MFr.f m 0).up (by omega)).up (by omega)).ups (by omega)
      · simp only [ups_el, up2_el]
        have n1 : ¬ 0 = 10 + k := by omega
        have n2 : ¬ 0 = 10 + k + 4 := by omega
        simp [n1, n2]
    · exact ⟨-14, _, _, by simp [z1, z2], by simp [z1, z2], fl 4⟩
  · exact ⟨-2, _, _, by simp [z1], by simp [z1], fl 0⟩
theorem cell_ev (G : GG) (s m : SS) (x y z : Int32) (h : RShs s m) : ∃ (r : Int64) (v : Int32), CT_cell G s x y z = some (r, up2 s 0 10 v) ∧ M_cell m x y z = some (r, up2 m 0 0 v) := by
  unfold CT_cell M_cell CT_cell_19 M_cell_19 CT_cell_54 M_cell_50 CT_cell_81 CT_lostBy M_lost
  rcases sh_cases x with ⟨a, b⟩ | ⟨k, hk, hx, a, b, c, d⟩
  · exact ⟨_, 0, by simp [a, bnd0_s]; rfl, by simp [b, bnd0_s]⟩
  rcases sort_cases z with ⟨a2, b2⟩ | ⟨a2, b2, z1, z2⟩
  · exact ⟨_, 0, by simp [a, a2, bnd0_s]; rfl, by simp [b, b2, bnd0_s]⟩
  have iS : isS (10 + k) = true := by simp [isS]; omega
  simp only [a, b, c, d, a2, b2, bnd0_s, bnd_s, uu, within_ev, iS]
  rw [up2_row (show 10 + k ≠ 0 by omega), up2_row (show 10 + k + 4 ≠ 0 by omega), up2_row (show (2 : Nat) ≠ 0 by omega), up2_row (show (3 : Nat) ≠ 0 by omega), up2_row (show (4 : Nat) ≠ 0 by omega)]
  obtain ⟨g1, g2⟩ := h k hk
  rcases g2 with ⟨e1, e2⟩ | ⟨e1, e2, e3, e4, e5, e6⟩
  · exact ⟨_, 1, by simp [e1]; rfl, by simp [e2]⟩
  · have ne : ¬ m 2 k = -9 := by rw [e2, i_eq, tm9]; omega
    have n1 : ¬ s (10 + k) 1 = 0 := by rw [e1]; decide
    have tl : (m 3 k - 1).toInt = (m 3 k).toInt - 1 := by rw [i_sub (by rw [e3, t1]; omega) (by rw [e3, t1]; omega), t1]
    by_cases q : s (10 + k) 2 = z
    · have q' : m 2 k = z := by rw [e2]; exact q
      have nz : ¬ z = -9 := by rw [i_eq, tm9]; omega
      by_cases y0 : y < 0
      · exact ⟨_, 3, by simp [n1, q, y0]; rfl, by simp [nz, q', y0]⟩
      · by_cases y1 : y < s (10 + k) 3
        · have y2 : ¬ m 3 k - 1 < y := by rw [i_lt, tl, e3]; rw [i_lt] at y1; omega
          have y0' := y0; have y1' := y1
          rw [i_lt, t0] at y0'; rw [i_lt] at y1'
          have hy := i_nat (x := y) (by omega)
          have hi : y.toNatClampNeg < 40 := by rw [i_cl]; omega
          have hy' : y = nI y.toNatClampNeg := hy
          generalize y.toNatClampNeg = i at hi hy'
          have hb : inb y 40 = true := by rw [inb_iff]; omega
          have hcl : y.toNatClampNeg = i := by rw [hy', cl_nI (by omega)]
          have hl : (40 : Int32) * x + y = nI (40 * k + i) := by rw [hx, hy', lin40 hk (by omega)]
          have hb2 : inb (nI (40 * k + i)) 160 = true := inb_nI (by omega) (by omega)
          refine ⟨(m 4 (40 * k + i)).toInt64, 0, ?_, ?_⟩
          · simp [n1, q, y0, y1, hb, hcl, g1 i hi]
          · simp [nz, q', y0, y2, hl, hb2, cl_nI (show 40 * k + i < 2147483648 by omega)]
        · have y2 : m 3 k - 1 < y := by rw [i_lt, tl, e3]; rw [i_lt] at y1; omega
          exact ⟨_, 3, by simp [n1, q, y0, y1]; rfl, by simp [nz, q', y0, y2]⟩
    · have q' : ¬ m 2 k = z := by rw [e2]; exact q
      exact ⟨_, 2, by simp [n1, q]; rfl, by simp [ne, q']⟩
/-- the reference's copying loops, forward and backward, say what a copy of the old row says -/
def cpv (f : Nat → Int32) (a b n : Nat) : Nat → Int32 := fun p => if b ≤ p ∧ p < b + n then f (a + (p - b)) else f p
theorem copy_fwd {k1 k2 i j n : Nat} (h1 : k1 < 4) (h2 : k2 < 4) (hi : i + n ≤ 40) (hj : j + n ≤ 40) (ho : k1 = k2 → j ≤ i) (f : Nat → Int32) :
    ∀ u q m, q ≤ n → n < u + q → m 4 = cpv f (40 * k1 + i) (40 * k2 + j) q → M_copy_166 u (nI k1) (nI i) (nI k2) (nI j) (nI n) 0 (nI q) m = some (nI n, ups m 4 (cpv f (40 * k1 + i) (40 * k2 + j) n)) := by
  intro u
  induction u with
  | zero => intro q m a b; omega
  | succ u ih =>
    intro q m hq hu hm
    rw [M_copy_166]
    by_cases e : n ≤ q
    · rw [if_pos ((nI_ge_iff (by omega) (by omega)).mpr e)]
      have : q = n := by omega
      subst this
      congr 2
      funext a b
      rw [ups_el]
      by_cases w : a = 4
      · subst w; rw [if_pos rfl, hm]
      · rw [if_neg w]
    · rw [if_neg (fun h => e ((nI_ge_iff (by omega) (by omega)).mp h)), if_pos rfl, M_copy_190]
      rw [lin40 h1 (by omega), lin40 h2 (by omega), nI_add, nI_add, if_pos (inb_nI (by omega) (by omega)), if_pos (inb_nI (by omega) (by omega)), cl_nI (by omega), cl_nI (by omega), nI_s]
      rw [ih (q + 1) _ (by omega) (by omega)]
      · congr 2
        funext a b
        simp only [ups_el, up2_el]
        by_cases w : a = 4
        · simp [w]
        · simp [w]
      · funext b
        rw [up2_el, hm]
        unfold cpv
        by_cases w : b = 40 * k2 + j + q
        · subst w
          rw [if_pos ⟨rfl, rfl⟩, if_neg (by omega), if_pos (by omega)]
          congr 1; omega
        · rw [if_neg (by omega)]
          repeat' split
          all_goals first | rfl | (exfalso; omega)
theorem copy_bwd {k1 k2 i j n : Nat} (h1 : k1 < 4) (h2 : k2 < 4) (hi : i + n ≤ 40) (hj : j + n ≤ 40) (ho : k1 = k2 → i ≤ j) (f : Nat → Int32) :
    ∀ u q m, q ≤ n → n < u + q → m 4 = (fun p => if 40 * k2 + j + (n - q) ≤ p ∧ p < 40 * k2 + j + n then f (40 * k1 + i + (p - (40 * k2 + j))) else f p) → M_copy_166 u (nI k1) (nI i) (nI k2) (nI j) (nI n) 1 (nI q) m = some (nI n, ups m 4 (cpv f (40 * k1 + i) (40 * k2 + j) n)) := by
  intro u
  induction u with
  | zero => intro q m a b; omega
  | succ u ih =>
    intro q m hq hu hm
    rw [M_copy_166]
    by_cases e : n ≤ q
    · rw [if_pos ((nI_ge_iff (by omega) (by omega)).mpr e)]
      have : q = n := by omega
      subst this
      congr 2
      funext a b
      rw [ups_el]
      by_cases w : a = 4
      · subst w; rw [if_pos rfl, hm]; simp only [cpv, Nat.sub_self, Nat.add_zero]
      · rw [if_neg w]
    · have hx : nI n - 1 - nI q = nI (n - 1 - q) := by
        rw [show (1 : Int32) = nI 1 from by decide, pk_sub (by omega), pk_sub (by omega)]
      rw [if_neg (fun h => e ((nI_ge_iff (by omega) (by omega)).mp h)), if_neg (by decide), M_copy_190, hx]
      rw [lin40 h1 (by omega), lin40 h2 (by omega), nI_add, nI_add, if_pos (inb_nI (by omega) (by omega)), if_pos (inb_nI (by omega) (by omega)), cl_nI (by omega), cl_nI (by omega), nI_s]
      rw [ih (q + 1) _ (by omega) (by omega)]
      · congr 2
        funext a b
        simp only [ups_el, up2_el]
        by_cases w : a = 4
        · simp [w]
        · simp [w]
      · funext b
        rw [up2_el, hm]
        dsimp only
        by_cases w : b = 40 * k2 + j + (n - 1 - q)
        · subst w
          rw [if_pos ⟨rfl, rfl⟩, if_neg (by omega), if_pos (by omega)]
          congr 1; omega
        · rw [if_neg (by omega)]
          repeat' split
          all_goals first | rfl | (exfalso; omega)
theorem copy_ev (G : GG) (s m : SS) (x y z w v : Int32) (h : RShs s m) : ∃ r s' m', CT_copy G s x y z w v = some (r, s') ∧ M_copy m x y z w v = some (r, m') ∧ RShs s' m' ∧ SFr s s' ∧ MFr m m' ∧ s' 0 10 = m' 0 0 := by
  have fl : ∀ v, RShs (up2 s 0 10 v) (up2 m 0 0 v) ∧ SFr s (up2 s 0 10 v) ∧ MFr m (up2 m 0 0 v) ∧ (up2 s 0 10 v) 0 10 = (up2 m 0 0 v) 0 0 := fun v => ⟨h.f v v, SFr.f s v, MFr.f m v, by rw [up2_at, up2_at]⟩
  unfold CT_copy M_copy CT_copy_19 M_copy_19 CT_copy_53 M_copy_43 CT_copy_101 M_copy_109 M_copy_110 M_copy_144 M_copy_161 CT_failed M_fails
  rcases sh_cases x with ⟨a, b⟩ | ⟨k, hk, hx, a, b, c, d⟩
  · exact ⟨-1, _, _, by simp [a, bnd0_s], by simp [b, bnd0_s], fl 0⟩
  rcases sh_cases z with ⟨a2, b2⟩ | ⟨l, hl, hz, a2, b2, c2, d2⟩
  · exact ⟨-1, _, _, by simp [a, a2, bnd0_s], by simp [b, b2, bnd0_s], fl 0⟩
  simp only [a, b, c, d, a2, b2, c2, d2, bnd0_s, bnd_s, uu, reaches_ev]
  rw [up2_row (show 10 + k ≠ 0 by omega), up2_row (show 10 + l ≠ 0 by omega), up2_row (show 10 + k + 4 ≠ 0 by omega), up2_row (show 10 + l + 4 ≠ 0 by omega), up2_row (show (3 : Nat) ≠ 0 by omega)]
  obtain ⟨g1, g2⟩ := h k hk
  obtain ⟨f1, f2⟩ := h l hl
  rcases g2 with ⟨e1, e2⟩ | ⟨e1, e2, e3, e4, e5, e6⟩
  · exact ⟨-11, _, _, by simp [e1], by simp [e2], fl 1⟩
  have ne : ¬ m 2 k = -9 := by rw [e2, i_eq, tm9]; omega
  have n1 : ¬ s (10 + k) 1 = 0 := by rw [e1]; decide
  rcases f2 with ⟨r1, r2⟩ | ⟨r1, r2, r3, r4, r5, r6⟩
  · exact ⟨-11, _, _, by simp [n1, r1], by simp [ne, r2], fl 1⟩
  have ne2 : ¬ m 2 l = -9 := by rw [r2, i_eq, tm9]; omega
  have n2 : ¬ s (10 + l) 1 = 0 := by rw [r1]; decide
  by_cases q : ¬ s (10 + k) 2 = s (10 + l) 2
  · have q' : ¬ m 2 k = m 2 l := by rw [e2, r2]; exact q
    exact ⟨-12, _, _, by simp [n1, n2, q], by simp [ne, ne2, q'], fl 2⟩
  have q := Classical.not_not.mp q
  have q' : m 2 k = m 2 l := by rw [e2, r2]; exact q
  rw [e3, r3]
  have ns : ∀ (A : Int32) (t : Int32), 0 ≤ A.toInt → A.toInt ≤ 40 → 0 ≤ t.toInt → (A - t).toInt = A.toInt - t.toInt := fun A t p1 p2 p3 => by have := i_rng t; exact i_sub (by omega) (by omega)
  by_cases y0 : y < 0
  · exact ⟨-13, _, _, by simp [n1, n2, q, y0], by simp [ne2, q', y0], fl 3⟩
  by_cases y1 : s (10 + k) 3 < y
  · refine ⟨-13, _, _, by simp [n1, n2, q, y0, y1], ?_, fl 3⟩
    by_cases w0 : w < 0 <;> by_cases v0 : v < 0 <;> simp [ne2, q', y0, y1, w0, v0]
  by_cases v0 : v < 0
  · refine ⟨-13, _, _, by simp [n1, n2, q, y0, y1, v0], ?_, fl 3⟩
    by_cases w0 : w < 0 <;> simp [ne2, q', y0, y1, w0, v0]
  have y0' := y0; have y1' := y1; have v0' := v0
  rw [i_lt, t0] at y0' v0'; rw [i_lt] at y1'
  have s1 := ns (s (10 + k) 3) y e5 e6 (by omega)
  by_cases v1 : s (10 + k) 3 - y < v
  · refine ⟨-13, _, _, by simp [n1, n2, q, y0, y1, v0, v1], ?_, fl 3⟩
    by_cases w0 : w < 0 <;> by_cases w1 : s (10 + l) 3 < w <;> simp [ne2, q', y0, y1, w0, v0, w1, v1]
  have v1' := v1
  rw [i_lt, s1] at v1'
  by_cases w0 : w < 0
  · exact ⟨-13, _, _, by simp [n1, n2, q, y0, y1, v0, v1, w0], by simp [ne2, q', y0, y1, w0, v0], fl 3⟩
  by_cases w1 : s (10 + l) 3 < w
  · exact ⟨-13, _, _, by simp [n1, n2, q, y0, y1, v0, v1, w0, w1], by simp [ne2, q', y0, y1, w0, v0, w1], fl 3⟩
  have w0' := w0; have w1' := w1
  rw [i_lt, t0] at w0'; rw [i_lt] at w1'
  have s2 := ns (s (10 + l) 3) w r5 r6 (by omega)
  by_cases v2 : s (10 + l) 3 - w < v
  · have v3 : ¬ v ≤ s (10 + l) 3 - w := by rw [i_le]; rw [i_lt] at v2; omega
    exact ⟨-13, _, _, by simp [n1, n2, q, y0, y1, v0, v1, w0, w1, v2], by simp [ne2, q', y0, y1, w0, v0, w1, v1, v3], fl 3⟩
  have v3 : v ≤ s (10 + l) 3 - w := by rw [i_le]; rw [i_lt] at v2; omega
  have v2' := v2
  rw [i_lt, s2] at v2'
  have hy : y = nI y.toNatClampNeg := i_nat (x := y) (by omega)
  have hw : w = nI w.toNatClampNeg := i_nat (x := w) (by omega)
  have hv : v = nI v.toNatClampNeg := i_nat (x := v) (by omega)
  have b1 : y.toNatClampNeg + v.toNatClampNeg ≤ 40 := by rw [i_cl, i_cl]; omega
  have b3 : w.toNatClampNeg + v.toNatClampNeg ≤ 40 := by rw [i_cl, i_cl]; omega
  have hcp : cpk y w v = true := by simp [cpk, y0, w0, v0, b1, b3]
  have hle : w ≤ y ↔ w.toNatClampNeg ≤ y.toNatClampNeg := by rw [i_le, i_cl, i_cl]; omega
  generalize y.toNatClampNeg = i at *
  generalize w.toNatClampNeg = j at *
  generalize v.toNatClampNeg = n at *
  have hloop : (if w ≤ y then M_copy_166 fuel x y z w v 0 0 (up2 m 0 0 0) else M_copy_166 fuel x y z w v 1 0 (up2 m 0 0 0)) = some (v, ups (up2 m 0 0 0) 4 (cpv (m 4) (40 * k + i) (40 * l + j) n)) := by
    rw [hx, hz, hy, hw, hv, ← nI_0] at *
    by_cases o : j ≤ i
    · rw [if_pos (by rw [← hw, ← hy] at *; exact hle.mpr o)]
      exact copy_fwd hk hl b1 b3 (fun _ => o) (m 4) fuel 0 _ (by omega) (by have := fuel_big; omega) (by funext p; simp only [cpv]; rw [if_neg (by omega), up2_row (by omega)])
    · rw [if_neg (fun t => o (hle.mp t))]
      exact copy_bwd hk hl b1 b3 (fun _ => by omega) (m 4) fuel 0 _ (by omega) (by have := fuel_big; omega) (by funext p; rw [if_neg (by omega), up2_row (by omega)])
  refine ⟨v, ups (up2 s 0 10 0) (10 + l + 4) (va_cpy (s (10 + k + 4)) (s (10 + l + 4)) i j n), ups (up2 m 0 0 0) 4 (cpv (m 4) (40 * k + i) (40 * l + j) n), ?_, ?_, ?_, (SFr.f s 0).ups (by omega), (MFr.f m 0).ups (by omega), ?_⟩
  · simp [n1, n2, q, y0, y1, v0, v1, w0, w1, v2, hcp]
  · rw [← hloop]
    simp [ne2, q', y0, y1, w0, v0, w1, v1, v3]
  · intro t ht
    obtain ⟨p1, p2⟩ := h t ht
    rw [ups_row (show 10 + t ≠ 10 + l + 4 by omega), up2_row (show 10 + t ≠ 0 by omega), ups_row (show (2 : Nat) ≠ 4 by omega), ups_row (show (3 : Nat) ≠ 4 by omega), up2_row (show (2 : Nat) ≠ 0 by omega), up2_row (show (3 : Nat) ≠ 0 by omega)]
    refine ⟨fun c hc => ?_, p2⟩
    simp only [ups_el]
    rw [up2_row (show 10 + t + 4 ≠ 0 by omega)]
    by_cases o : t = l
    · subst o
      rw [if_pos rfl, if_pos trivial]
      simp only [va_cpy, cpv]
      by_cases u : j ≤ c ∧ c < j + n
      · rw [if_pos u, if_pos (by omega), g1 _ (by omega)]
        show m 4 (40 * k + (i + (c - j))) = _
        congr 1; omega
      · rw [if_neg u, if_neg (by omega)]; exact p1 c hc
    · rw [if_neg (by omega), if_pos trivial]
      simp only [cpv]
      rw [if_neg (by omega)]; exact p1 c hc
  · rw [ups_el, if_neg (by omega), ups_el, if_neg (by omega), up2_at, up2_at]
