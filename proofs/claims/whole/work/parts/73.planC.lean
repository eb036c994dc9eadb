/-! the best plan: the search, and the class's rows for it -/
def updN (f : Nat → Nat) (i v : Nat) : Nat → Nat := fun j => if j = i then v else f j
def stay0 (K : SS) (g : Nat) : Int32 := if K 3 g = 0 then K 6 g else 2 * K 6 g
def ccI (K : SS) (g : Nat) : Int32 := K 4 g * (5 + stay0 K g / (if K 3 g = 0 then 10 else 20))
def cN (K : SS) (g : Nat) : Nat := (ccI K g).toInt.toNat
def ovB (K : SS) (g x : Nat) : Bool := !decide (K 5 x + stay0 K x ≤ K 5 g) && !decide (K 5 g + stay0 K g ≤ K 5 x)
def okP (K : SS) (g : Nat) (ch : Nat → Nat) (t : Nat) : Bool := !decide (K 2 t < K 4 g) && (List.range g).all (fun x => !(decide (ch x = t) && ovB K g x))
def okT (n : Nat) (K : SS) (g : Nat) (ch : Nat → Nat) (t : Nat) : Bool := decide (t = n) || okP K g ch t
def cT (n : Nat) (K : SS) (g t : Nat) : Nat := if t = n then 0 else cN K g
def plS (n : Nat) (K : SS) : Nat → Nat → (Nat → Nat) → Nat → (Int × (Nat → Nat)) → (Int × (Nat → Nat))
  | 0, _, ch, S, B => if (S : Int) ≤ B.1 then B else ((S : Int), ch)
  | r + 1, g, ch, S, B => (List.range (n + 1)).foldl (fun B t => if okT n K g ch t = true then plS n K r (g + 1) (updN ch g t) (S + cT n K g t) B else B) B
def fitB (n : Nat) (K : SS) (g : Nat) : Bool := (List.range n).any (fun t => !decide (K 2 t < K 4 g))
def hN (n : Nat) (K : SS) : Nat → Nat → Nat
  | 0, _ => 0
  | r + 1, g => hN n K r (g + 1) + (if fitB n K g = true then cN K g else 0)
theorem prune {n : Nat} {K : SS} : ∀ (r g : Nat) (ch : Nat → Nat) (S : Nat) (B : Int × (Nat → Nat)), ((S + hN n K r g : Nat) : Int) ≤ B.1 → plS n K r g ch S B = B
  | 0, g, ch, S, B, h => by
    unfold hN at h
    rw [plS, if_pos (by omega)]
  | r + 1, g, ch, S, B, h => by
    rw [plS]
    apply fold_id
    intro t ht
    rw [List.mem_range] at ht
    by_cases q : okT n K g ch t = true
    · rw [if_pos q]
      apply prune r
      rw [hN] at h
      unfold cT
      by_cases e : t = n
      · rw [if_pos e]; omega
      · rw [if_neg e]
        have : fitB n K g = true := by
          unfold okT okP at q
          simp [e] at q
          unfold fitB
          rw [List.any_eq_true]
          refine ⟨t, List.mem_range.mpr (by omega), ?_⟩
          simpa using q.1
        rw [if_pos this] at h
        omega
    · rw [if_neg q]
theorem div10b : ∀ y, y < 61 → nI y / 10 = nI (y / 10) := by decide +kernel
theorem div20b : ∀ y, y < 121 → nI y / 20 = nI (y / 20) := by decide +kernel
theorem cc_b {n k : Nat} {K : SS} (ok : KOk n k K) {g : Nat} (hg : g < k) : ccI K g = nI (cN K g) ∧ cN K g ≤ 66 := by
  obtain ⟨-, ⟨s1, s2⟩, -, ⟨y, y1, y2, ey⟩, -⟩ := ok.2.2.2 g hg
  obtain ⟨z, hz, ez⟩ : ∃ z, z ≤ 6 ∧ K 4 g = nI z := ⟨_, by omega, i_nat (by omega)⟩
  have key : ∃ w, w ≤ 66 ∧ ccI K g = nI w := by
    unfold ccI stay0
    have e5 : (5 : Int32) = nI 5 := by decide
    rw [ez, ey]
    split
    · rw [div10b y (by omega), e5, nI_add, mul_nI (by omega) (by omega)]
      refine ⟨_, ?_, rfl⟩
      calc z * (5 + y / 10) ≤ 6 * 11 := Nat.mul_le_mul hz (by omega)
        _ = 66 := by omega
    · rw [two_mul_nI y (by omega), div20b _ (by omega), e5, nI_add, mul_nI (by omega) (by omega)]
      refine ⟨_, ?_, rfl⟩
      calc z * (5 + 2 * y / 20) ≤ 6 * 11 := Nat.mul_le_mul hz (by omega)
        _ = 66 := by omega
  obtain ⟨w, hw, e⟩ := key
  unfold cN
  rw [e, nI_T (by omega)]
  exact ⟨by simp, by omega⟩
def mkN (p : Nat → Bool) : Nat → Nat
  | 0 => 0
  | i + 1 => mkN p i ||| (if p i = true then 2 ^ i else 0)
theorem mkN_tb (p : Nat → Bool) (j : Nat) : ∀ i, (mkN p i).testBit j = (decide (j < i) && p j)
  | 0 => by simp [mkN]
  | i + 1 => by
    rw [mkN, Nat.testBit_or, mkN_tb p j i]
    by_cases q : p i = true
    · rw [if_pos q, Nat.testBit_two_pow]
      by_cases e : i = j
      · subst e; simp [q]
      · have : (j < i + 1) ↔ (j < i) := by omega
        simp [e, this]
    · rw [if_neg q, Nat.zero_testBit]
      by_cases e : i = j
      · subst e; simp at q; simp [q]
      · have : (j < i + 1) ↔ (j < i) := by omega
        simp [this]
theorem or64 : ∀ r, r < 64 → ∀ i, i < 6 → r ||| 2 ^ i < 64 := by decide +kernel
theorem mkN_lt (p : Nat → Bool) : ∀ i, i ≤ 6 → mkN p i < 64
  | 0, _ => by simp [mkN]
  | i + 1, h => by
    have ih := mkN_lt p i (by omega)
    rw [mkN]
    split
    · exact or64 _ ih i (by omega)
    · simpa using ih
theorem and0 : ∀ r, r < 64 → ∀ c, c < 64 → ((nI r &&& nI c = 0) ↔ ∀ j, j < 6 → ¬ (r.testBit j = true ∧ c.testBit j = true)) := by decide +kernel
theorem clr : ∀ r, r < 64 → ∀ i, i < 6 → r.testBit i = false → nI (r ||| 2 ^ i) &&& (((1 : Int32) <<< (nI i &&& 31)) ^^^ (-1)) = nI r := by decide +kernel
theorem ok_bits {K : SS} {g t N : Nat} {ch : Nat → Nat} (hN : N ≤ 6) (hg : g < N) : (nI (mkN (fun x => decide (ch x = t)) g) &&& nI (mkN (ovB K g) N) = 0) ↔ (List.range g).all (fun x => !(decide (ch x = t) && ovB K g x)) = true := by
  rw [and0 _ (mkN_lt _ g (by omega)) _ (mkN_lt _ N hN), List.all_eq_true]
  constructor
  · intro h x hx
    rw [List.mem_range] at hx
    have := h x (by omega)
    rw [mkN_tb, mkN_tb] at this
    simp [hx, show x < N by omega] at this
    by_cases q : ch x = t
    · simp [q, this q]
    · simp [q]
  · intro h j hj
    rw [mkN_tb, mkN_tb]
    by_cases q : j < g
    · have := h j (List.mem_range.mpr q)
      simp at this
      simp [q, show j < N by omega]
      rcases this with z | z
      · exact fun w => absurd w z
      · exact fun _ => z
    · simp [q]
def enc (n t : Nat) : Int32 := if t = n then -9 else nI t
/-- what the search doesn't change -/
def PSt (n N : Nat) (K s : SS) : Prop := s 35 10 = nI N ∧ s 1 2 = nI n ∧ (∀ t, t < n → s 3 t = K 2 t) ∧ (∀ g, g < N → s 38 g = K 4 g ∧ s 39 g = nI (cN K g) ∧ s 40 g = nI (mkN (ovB K g) N)) ∧ ∀ g, g ≤ N → s 41 g = nI (hN n K (N - g) g)
def PFr (s s' : SS) : Prop := (∀ a, a ≠ 35 → a ≠ 36 → a ≠ 37 → a ≠ 42 → s' a = s a) ∧ ∀ c, c ≠ 1 → s' 35 c = s 35 c
theorem PFr.rf (s : SS) : PFr s s := ⟨fun _ _ _ _ _ => rfl, fun _ _ => rfl⟩
theorem PFr.tr {a b c : SS} (h1 : PFr a b) (h2 : PFr b c) : PFr a c := ⟨fun i p q r t => (h2.1 i p q r t).trans (h1.1 i p q r t), fun i p => (h2.2 i p).trans (h1.2 i p)⟩
theorem PSt.fr {n N : Nat} {K s s' : SS} (h : PSt n N K s) (f : PFr s s') : PSt n N K s' := by
  unfold PSt at h ⊢
  rw [f.2 10 (by omega), f.1 1 (by omega) (by omega) (by omega) (by omega), f.1 3 (by omega) (by omega) (by omega) (by omega), f.1 38 (by omega) (by omega) (by omega) (by omega), f.1 39 (by omega) (by omega) (by omega) (by omega), f.1 40 (by omega) (by omega) (by omega) (by omega), f.1 41 (by omega) (by omega) (by omega) (by omega)]
  exact h
def PB (n N : Nat) (s : SS) (B : Int × (Nat → Nat)) : Prop := (s 35 1).toInt = B.1 ∧ -1 ≤ B.1 ∧ (0 ≤ B.1 → ∀ x, x < N → s 36 x = enc n (B.2 x))
def PD (n N g : Nat) (ch : Nat → Nat) (s : SS) (B : Int × (Nat → Nat)) : Prop := (∀ t, t < n → s 42 t = nI (mkN (fun x => decide (ch x = t)) g)) ∧ (∀ x, x < g → s 37 x = enc n (ch x)) ∧ PB n N s B
theorem mkN_same {p q : Nat → Bool} : ∀ i, (∀ x, x < i → p x = q x) → mkN p i = mkN q i
  | 0, _ => rfl
  | i + 1, h => by rw [mkN, mkN, mkN_same i (fun x hx => h x (by omega)), h i (by omega)]
theorem updN_lt {ch : Nat → Nat} {g t x : Nat} (h : x ≠ g) : updN ch g t x = ch x := by unfold updN; rw [if_neg h]
theorem updN_at {ch : Nat → Nat} {g t : Nat} : updN ch g t g = t := by unfold updN; rw [if_pos rfl]
theorem mkN_up {ch : Nat → Nat} {g t t' : Nat} : mkN (fun x => decide (updN ch g t x = t')) (g + 1) = mkN (fun x => decide (ch x = t')) g ||| (if t = t' then 2 ^ g else 0) := by
  rw [mkN, updN_at, mkN_same g (q := fun x => decide (ch x = t'))]
  · by_cases e : t = t' <;> simp [e]
  · intro x hx
    rw [updN_lt (by omega)]
theorem place_ev {G : GG} {n k N : Nat} {K : SS} (ok : KOk n k K) (hN6 : N ≤ 6) (hNk : N ≤ k) : ∀ (r g f : Nat) (ch : Nat → Nat) (S : Nat) (B : Int × (Nat → Nat)) (s : SS), g + r = N → r < f → S ≤ 66 * g → PSt n N K s → PD n N g ch s B → (∀ x, x < g → ch x ≤ n) →
    ∃ s', CP_place G f s (nI g) (nI S) = some s' ∧ PFr s s' ∧ (∀ t, t < n → s' 42 t = s 42 t) ∧ (∀ x, x < g → s' 37 x = s 37 x) ∧ PB n N s' (plS n K r g ch S B) := by
  have hn := ok.1
  have hNb : ∀ r g, g + r = N → hN n K r g ≤ 66 * r := by
    intro r
    induction r with
    | zero => intro g _; rw [hN]; omega
    | succ r ih =>
      intro g hg
      rw [hN]
      have := ih (g + 1) (by omega)
      have := (cc_b ok (show g < k by omega)).2
      split <;> omega
  intro r
  induction r with
  | zero =>
    intro g f ch S B s hg hf hS hP hD hch
    obtain ⟨f, rfl⟩ : ∃ f', f = f' + 1 := ⟨f - 1, by omega⟩
    have eg : g = N := by omega
    subst eg
    obtain ⟨p1, p2, p3, p4, p5⟩ := hP
    have h41 : s 41 g = nI 0 := by rw [p5 g (Nat.le_refl g), Nat.sub_self]; rfl
    rw [CP_place]
    unfold CP_place_b CP_place_23
    rw [p1, if_neg (show ¬ nI g < nI g by rw [nI_lt_iff (by omega) (by omega)]; omega), if_pos (inb_nI (by omega) (by omega)), cl_nI (by omega), h41, nI_add, Nat.add_zero, plS]
    have iff : s 35 1 < nI S ↔ ¬ (S : Int) ≤ B.1 := by rw [i_lt, hD.2.2.1, nI_T (by omega)]; omega
    by_cases q : (S : Int) ≤ B.1
    · rw [if_neg (fun z => (iff.mp z) q), if_pos q]
      exact ⟨s, rfl, PFr.rf s, fun _ _ => rfl, fun _ _ => rfl, hD.2.2⟩
    · rw [if_pos (iff.mpr q), if_neg q, if_pos rfl]
      refine loopQ g (fun f' i s' => CP_place_39 G (fun s a b => CP_place G f s a b) f' (nI i) s') (fun i s' => PFr s s' ∧ (s' 35 1 = nI S) ∧ s' 37 = s 37 ∧ s' 42 = s 42 ∧ ∀ x, x < i → s' 36 x = s 37 x) (fun r => ∃ s', r = some s' ∧ PFr s s' ∧ (∀ t, t < n → s' 42 t = s 42 t) ∧ (∀ x, x < g → s' 37 x = s 37 x) ∧ PB n g s' ((S : Int), ch)) ?_ ?_ fuel 0 (up2 s 35 1 (nI S)) (by omega) (by have := fuel_big; omega) ?_
      · rintro f' i s' hi ⟨h1, h2, h3, h4, h5⟩
        right
        have i6 : inb (nI i) 6 = true := inb_nI (by omega) (by omega)
        refine ⟨_, by try dsimp only
                      rw [CP_place_39, h1.2 10 (by omega), p1, if_neg (le_no hi (by omega)), if_pos i6, if_pos i6, cl_nI (by omega), nI_s], ⟨?_, ?_⟩, ?_, ?_, ?_, ?_⟩
        · intro a q1 q2 q3 q4
          rw [up2_row q2]; exact h1.1 a q1 q2 q3 q4
        · intro c hc
          rw [up2_row (by omega)]; exact h1.2 c hc
        · rw [up2_row (by omega)]; exact h2
        · rw [up2_row (by omega)]; exact h3
        · rw [up2_row (by omega)]; exact h4
        · intro x hx
          by_cases e : x = i
          · subst e; rw [up2_at, h3]
          · rw [up2_el, if_neg (fun z => e z.2)]; exact h5 x (by omega)
      · rintro f' s' ⟨h1, h2, h3, h4, h5⟩
        try dsimp only
        rw [CP_place_39, h1.2 10 (by omega), p1, if_pos (le_ye (Nat.le_refl g) (by omega))]
        refine ⟨s', rfl, h1, fun t _ => by rw [h4], fun x _ => by rw [h3], ?_, ?_, ?_⟩
        · rw [h2, nI_T (by omega)]
        · show -1 ≤ (S : Int); omega
        · intro _ x hx
          rw [h5 x hx]; exact hD.2.1 x hx
      · refine ⟨⟨fun a q1 _ _ _ => up2_row q1, fun c hc => by rw [up2_el, if_neg (fun z => hc z.2)]⟩, up2_at .., up2_row (by omega), up2_row (by omega), fun x hx => by omega⟩
  | succ r ih =>
    intro g f ch S B s hg hf hS hP hD hch
    obtain ⟨f, rfl⟩ : ∃ f', f = f' + 1 := ⟨f - 1, by omega⟩
    have hP' := hP
    obtain ⟨p1, p2, p3, p4, p5⟩ := hP
    have h41 : s 41 g = nI (hN n K (r + 1) g) := by rw [p5 g (by omega), show N - g = r + 1 by omega]
    have hb := hNb (r + 1) g hg
    rw [CP_place]
    unfold CP_place_b CP_place_23
    rw [p1, if_neg (show ¬ nI N < nI g by rw [nI_lt_iff (by omega) (by omega)]; omega), if_pos (inb_nI (by omega) (by omega)), cl_nI (by omega), h41, nI_add]
    have iff : s 35 1 < nI (S + hN n K (r + 1) g) ↔ ¬ ((S + hN n K (r + 1) g : Nat) : Int) ≤ B.1 := by rw [i_lt, hD.2.2.1, nI_T (by omega)]; omega
    by_cases q : ((S + hN n K (r + 1) g : Nat) : Int) ≤ B.1
    · rw [if_neg (fun z => (iff.mp z) q), prune _ _ _ _ _ q]
      exact ⟨s, rfl, PFr.rf s, fun _ _ => rfl, fun _ _ => rfl, hD.2.2⟩
    · rw [if_pos (iff.mpr q), if_neg (show ¬ nI g = nI N by rw [nI_eq_iff (by omega) (by omega)]; omega), plS, List.range_succ, List.foldl_append]
      have g6 : inb (nI g) 6 = true := inb_nI (by omega) (by omega)
      obtain ⟨p41, p42, p43⟩ := p4 g (by omega)
      have cb := cc_b ok (show g < k by omega)
      refine loopQ n (fun f' i s' => CP_place_68 G (fun s a b => CP_place G f s a b) f' (nI g) (nI S) (nI i) s') (fun i s' => PFr s s' ∧ PD n N g ch s' ((List.range i).foldl (fun B t => if okT n K g ch t = true then plS n K r (g + 1) (updN ch g t) (S + cT n K g t) B else B) B) ∧ (∀ t, t < n → s' 42 t = s 42 t) ∧ ∀ x, x < g → s' 37 x = s 37 x) (fun rr => ∃ s', rr = some s' ∧ PFr s s' ∧ (∀ t, t < n → s' 42 t = s 42 t) ∧ (∀ x, x < g → s' 37 x = s 37 x) ∧ PB n N s' ([n].foldl (fun B t => if okT n K g ch t = true then plS n K r (g + 1) (updN ch g t) (S + cT n K g t) B else B) ((List.range n).foldl (fun B t => if okT n K g ch t = true then plS n K r (g + 1) (updN ch g t) (S + cT n K g t) B else B) B))) ?_ ?_ fuel 0 s (by omega) (by have := fuel_big; omega) ⟨PFr.rf s, hD, fun _ _ => rfl, fun _ _ => rfl⟩
      · rintro f' i s' hi ⟨h1, h2, h3, h4⟩
        right
        have i6 : inb (nI i) 6 = true := inb_nI (by omega) (by omega)
        have hPs := hP'.fr h1
        obtain ⟨u1, u2, u3, u4, u5⟩ := hPs
        obtain ⟨u41, u42, u43⟩ := u4 g (by omega)
        rw [List.range_succ, List.foldl_append]
        generalize (List.range i).foldl (fun B t => if okT n K g ch t = true then plS n K r (g + 1) (updN ch g t) (S + cT n K g t) B else B) B = B' at h2
        show ∃ st', _ ∧ PFr s st' ∧ PD n N g ch st' (if okT n K g ch i = true then plS n K r (g + 1) (updN ch g i) (S + cT n K g i) B' else B') ∧ _
        have ein : ¬ i = n := by omega
        have bits := ok_bits (K := K) (t := i) (ch := ch) hN6 (show g < N by omega)
        have eok : okT n K g ch i = (!decide (K 2 i < K 4 g) && (List.range g).all (fun x => !(decide (ch x = i) && ovB K g x))) := by
          unfold okT okP; simp [ein]
        try dsimp only
        rw [CP_place_68, u2, if_neg (le_no hi (by omega))]
        unfold CP_place_161
        simp only [i6, g6, if_true, cl_nI (show i < 2147483648 by omega), cl_nI (show g < 2147483648 by omega), u3 i hi, u41, u42, u43, h2.1 i hi, nI_s]
        by_cases q1 : K 2 i < K 4 g
        · rw [if_pos q1]
          have : ¬ okT n K g ch i = true := by rw [eok]; simp [q1]
          rw [if_neg this]
          exact ⟨s', rfl, h1, h2, h3, h4⟩
        · rw [if_neg q1]
          by_cases q2 : (List.range g).all (fun x => !(decide (ch x = i) && ovB K g x)) = true
          · rw [if_pos (bits.mpr q2)]
            have : okT n K g ch i = true := by rw [eok]; simp only [q1, decide_false, Bool.not_false, Bool.true_and]; exact q2
            rw [if_pos this, or_bit _ (by have := mkN_lt (fun x => decide (ch x = i)) g (by omega); omega) g (by omega), nI_add]
            have ct : cT n K g i = cN K g := by unfold cT; rw [if_neg ein]
            rw [ct]
            have hPu : PSt n N K (up2 (up2 s' 42 i (nI (mkN (fun x => decide (ch x = i)) g ||| 2 ^ g))) 37 g (nI i)) := by
              refine (hP'.fr h1).fr ⟨fun a q1 q2 q3 q4 => by rw [up2_row q3, up2_row q4], fun c hc => by rw [up2_row (by omega), up2_row (by omega)]⟩
            have hDu : PD n N (g + 1) (updN ch g i) (up2 (up2 s' 42 i (nI (mkN (fun x => decide (ch x = i)) g ||| 2 ^ g))) 37 g (nI i)) B' := by
              refine ⟨?_, ?_, ?_⟩
              · intro t ht
                rw [mkN_up, up2_row (by omega), up2_el]
                by_cases e : t = i
                · subst e; simp
                · rw [if_neg (fun z => e z.2), if_neg (fun z => e z.symm), Nat.or_zero]; exact h2.1 t ht
              · intro x hx
                by_cases e : x = g
                · subst e; rw [up2_at, updN_at]; unfold enc; rw [if_neg ein]
                · rw [up2_el, if_neg (fun z => e z.2), up2_row (by omega), updN_lt e]; exact h2.2.1 x (by omega)
              · have := h2.2.2
                unfold PB at this ⊢
                rw [up2_row (by omega), up2_row (by omega), up2_row (by omega), up2_row (by omega)]
                exact this
            obtain ⟨s23, e23, f23, w42, w37, wB⟩ := ih (g + 1) f (updN ch g i) (S + cN K g) B' _ (by omega) (by omega) (by omega) hPu hDu (by
              intro x hx
              by_cases e : x = g
              · subst e; rw [updN_at]; omega
              · rw [updN_lt e]; exact hch x (by omega))
            rw [e23, bnd0_s]
            have v42 : s23 42 i = nI (mkN (fun x => decide (ch x = i)) g ||| 2 ^ g) := by rw [w42 i hi, up2_row (by omega), up2_at]
            rw [v42, clr _ (mkN_lt _ g (by omega)) g (by omega) (by rw [mkN_tb]; simp)]
            refine ⟨_, rfl, ⟨?_, ?_⟩, ⟨?_, ?_, ?_⟩, ?_, ?_⟩
            · intro a q1 q2 q3 q4
              rw [up2_row q4, f23.1 a q1 q2 q3 q4, up2_row q3, up2_row q4]; exact h1.1 a q1 q2 q3 q4
            · intro c hc
              rw [up2_row (by omega), f23.2 c hc, up2_row (by omega), up2_row (by omega)]; exact h1.2 c hc
            · intro t ht
              rw [up2_el]
              by_cases e : t = i
              · subst e; simp
              · rw [if_neg (fun z => e z.2), w42 t ht, up2_row (by omega), up2_el, if_neg (fun z => e z.2)]; exact h2.1 t ht
            · intro x hx
              rw [up2_row (by omega), w37 x (by omega), up2_el, if_neg (by omega), up2_row (by omega)]
              exact h2.2.1 x hx
            · unfold PB at wB ⊢
              rw [up2_row (by omega), up2_row (by omega)]
              exact wB
            · intro t ht
              rw [up2_el]
              by_cases e : t = i
              · subst e
                rw [if_pos ⟨rfl, rfl⟩, ← h3 t ht, h2.1 t ht]
              · rw [if_neg (fun z => e z.2), w42 t ht, up2_row (by omega), up2_el, if_neg (fun z => e z.2)]; exact h3 t ht
            · intro x hx
              rw [up2_row (by omega), w37 x (by omega), up2_el, if_neg (by omega), up2_row (by omega)]
              exact h4 x hx
          · rw [if_neg (fun z => q2 (bits.mp z))]
            have : ¬ okT n K g ch i = true := by rw [eok]; simp only [q1, decide_false, Bool.not_false, Bool.true_and]; exact q2
            rw [if_neg this]
            exact ⟨s', rfl, h1, h2, h3, h4⟩
      · rintro f' s' ⟨h1, h2, h3, h4⟩
        have hPs := hP'.fr h1
        obtain ⟨u1, u2, u3, u4, u5⟩ := hPs
        generalize (List.range n).foldl (fun B t => if okT n K g ch t = true then plS n K r (g + 1) (updN ch g t) (S + cT n K g t) B else B) B = B' at h2
        try dsimp only
        rw [CP_place_68, u2, if_pos (le_ye (Nat.le_refl n) (by omega)), if_pos g6, cl_nI (by omega), nI_s]
        have hPu : PSt n N K (up2 s' 37 g (-9)) := (hP'.fr h1).fr ⟨fun a q1 q2 q3 q4 => by rw [up2_row q3], fun c hc => by rw [up2_row (by omega)]⟩
        have hDu : PD n N (g + 1) (updN ch g n) (up2 s' 37 g (-9)) B' := by
          refine ⟨?_, ?_, ?_⟩
          · intro t ht
            rw [mkN_up, up2_row (by omega), if_neg (by omega), Nat.or_zero]; exact h2.1 t ht
          · intro x hx
            by_cases e : x = g
            · subst e; rw [up2_at, updN_at]; unfold enc; rw [if_pos rfl]
            · rw [up2_el, if_neg (fun z => e z.2), updN_lt e]; exact h2.2.1 x (by omega)
          · have := h2.2.2
            unfold PB at this ⊢
            rw [up2_row (by omega), up2_row (by omega)]
            exact this
        obtain ⟨s11, e11, f11, w42, w37, wB⟩ := ih (g + 1) f (updN ch g n) S B' _ (by omega) (by omega) (by omega) hPu hDu (by
          intro x hx
          by_cases e : x = g
          · subst e; rw [updN_at]; exact Nat.le_refl n
          · rw [updN_lt e]; exact hch x (by omega))
        rw [e11, bnd0_s]
        refine ⟨s11, rfl, ⟨?_, ?_⟩, ?_, ?_, ?_⟩
        · intro a q1 q2 q3 q4
          rw [f11.1 a q1 q2 q3 q4, up2_row q3]; exact h1.1 a q1 q2 q3 q4
        · intro c hc
          rw [f11.2 c hc, up2_row (by omega)]; exact h1.2 c hc
        · intro t ht
          rw [w42 t ht, up2_row (by omega)]; exact h3 t ht
        · intro x hx
          rw [w37 x (by omega), up2_el, if_neg (by omega)]; exact h4 x hx
        · show PB n N s11 (if okT n K g ch n = true then plS n K r (g + 1) (updN ch g n) (S + cT n K g n) B' else B')
          have o1 : okT n K g ch n = true := by unfold okT; simp
          have o2 : cT n K g n = 0 := by unfold cT; rw [if_pos rfl]
          rw [if_pos o1, o2]
          exact wB
