section planF
variable {G : GG} {n k N : Nat} {K : SS}
theorem clash_ev (ok : KOk n k K) (hg : CBg G k K) (hN6 : N ≤ 6) (hNk : N ≤ k) {s : SS} (h10 : s 35 10 = nI N) {g : Nat} (hgk : g < k) : CP_clashesOf G s (nI g) = some (nI (mkN (ovB K g) N), s) := by
  have hk := ok.2.1
  obtain ⟨a, ha, hm, hk2, z0, z1, z2, z3, -⟩ := hg g hgk
  have st : ∀ h b, h < k → gr G h = some b → ∃ hb : True, gm G b = true ∧ gv G b 2 = K 5 h ∧ Cv_staysFor G b s 0 = some (stay0 K h, s) := by
    intro h b hh hb
    obtain ⟨b', hb', hm', hk', y0, y1, y2, y3, -⟩ := hg h hh
    rw [hb] at hb'
    injection hb' with hb'
    subst hb'
    refine ⟨trivial, hm', y2, ?_⟩
    rw [staysC s hk']
    unfold stay0
    have k0 : nI (gk G b) = 0 ↔ gk G b = 0 := by rw [show (0 : Int32) = nI 0 from by decide, nI_eq_iff (by omega) (by omega)]
    rw [y0, y3, if_pos rfl]
    simp only [k0]
    by_cases q : gk G b = 0
    · rw [if_pos q, if_pos q]
    · rw [if_neg q, if_neg q]
      split <;> rfl
  obtain ⟨-, -, -, sa⟩ := st g a hgk ha
  unfold CP_clashesOf
  rw [if_pos (inb_nI (by omega) (by omega)), cl_nI (by omega), ha]
  simp only [gld]
  refine loopQ N (fun f i (c : Nat) => CP_clashesOf_15 G f a (nI c) (nI i) s) (fun i c => c = mkN (ovB K g) i) (fun r => r = some (nI (mkN (ovB K g) N), s)) ?_ ?_ fuel 0 0 (by omega) (by have := fuel_big; omega) rfl
  · intro f i c hi hc
    right
    refine ⟨mkN (ovB K g) (i + 1), ?_, rfl⟩
    obtain ⟨b, hb, -⟩ := hg i (by omega)
    obtain ⟨-, bm, b2, sb⟩ := st i b (by omega) hb
    have cl := mkN_lt (ovB K g) i (by omega)
    try dsimp only
    rw [CP_clashesOf_15, h10, if_neg (le_no hi (by omega)), if_pos (inb_nI (by omega) (by omega)), cl_nI (by omega), hb]
    unfold CP_clashesOf_60 CP_clashesOf_85 CP_clashesOf_104
    simp only [gld, sb, bnd_s, hm, bm, if_true, sa, z2, b2, nI_s]
    rw [hc, or_bit _ (by omega) i (by omega), mkN]
    have n1 : K 5 g < K 5 i + stay0 K i ↔ ¬ K 5 i + stay0 K i ≤ K 5 g := by rw [i_lt, i_le]; omega
    have n2 : K 5 i < K 5 g + stay0 K g ↔ ¬ K 5 g + stay0 K g ≤ K 5 i := by rw [i_lt, i_le]; omega
    by_cases q1 : K 5 i + stay0 K i ≤ K 5 g
    · have : ¬ ovB K g i = true := by unfold ovB; simp [q1]
      rw [if_neg (fun z => (n1.mp z) q1), if_neg this]
      by_cases q2 : K 5 g + stay0 K g ≤ K 5 i
      · rw [if_neg (fun z => (n2.mp z) q2), if_neg (by decide), Nat.or_zero]
      · rw [if_pos (n2.mpr q2), if_neg (by decide), Nat.or_zero]
    · rw [if_pos (n1.mpr q1)]
      by_cases q2 : K 5 g + stay0 K g ≤ K 5 i
      · have : ¬ ovB K g i = true := by unfold ovB; simp [q2]
        rw [if_neg (fun z => (n2.mp z) q2), if_neg (by decide), if_neg this, Nat.or_zero]
      · have : ovB K g i = true := by unfold ovB; simp only [q1, q2, decide_false, Bool.not_false, Bool.and_self]
        rw [if_pos (n2.mpr q2), if_pos this]
  · intro f c hc
    try dsimp only
    rw [CP_clashesOf_15, h10, if_pos (le_ye (Nat.le_refl N) (by omega)), hc]
theorem fits_ev (hn : n ≤ 6) {s : SS} (h2 : s 1 2 = nI n) (h3 : ∀ t, t < n → s 3 t = K 2 t) {g : Nat} (hg6 : g < 6) (h38 : s 38 g = K 4 g) : CP_fitsSomewhere G s (nI g) = some (if fitB n K g = true then 1 else 0, s) := by
  unfold CP_fitsSomewhere
  refine loopQ n (fun f i (_ : Unit) => CP_fitsSomewhere_2 G f (nI g) (nI i) s) (fun i _ => (List.range i).any (fun t => !decide (K 2 t < K 4 g)) = false) (fun r => r = some (if fitB n K g = true then 1 else 0, s)) ?_ ?_ fuel 0 () (by omega) (by have := fuel_big; omega) (by simp)
  · intro f i _ hi hA
    try dsimp only
    rw [CP_fitsSomewhere_2, h2, if_neg (le_no hi (by omega)), if_pos (inb_nI (by omega) (by omega)), if_pos (inb_nI (by omega) (by omega)), cl_nI (by omega), cl_nI (by omega), h3 i hi, h38, nI_s]
    by_cases q : K 2 i < K 4 g
    · right
      rw [if_pos q]
      refine ⟨(), rfl, ?_⟩
      rw [List.range_succ, List.any_append, hA]
      simp [q]
    · left
      have : fitB n K g = true := by
        unfold fitB
        rw [List.any_eq_true]
        exact ⟨i, List.mem_range.mpr hi, by simp only [q, decide_false, Bool.not_false]⟩
      rw [if_neg q, nb1, if_pos rfl, if_pos this]
  · intro f _ hA
    try dsimp only
    rw [CP_fitsSomewhere_2, h2, if_pos (le_ye (Nat.le_refl n) (by omega)), nb0, if_pos rfl, if_neg]
    unfold fitB
    rw [hA]
    decide
def pPla (a : Nat) : Prop := 35 ≤ a ∧ a ≤ 42
theorem hope_ev (ok : KOk n k K) (hN6 : N ≤ 6) (hNk : N ≤ k) {s0 : SS} (h10 : s0 35 10 = nI N) (h2 : s0 1 2 = nI n) (h3 : ∀ t, t < n → s0 3 t = K 2 t) (h4 : ∀ g, g < N → s0 38 g = K 4 g ∧ s0 39 g = nI (cN K g) ∧ s0 40 g = nI (mkN (ovB K g) N)) :
    ∀ (j f : Nat) (s : SS), j ≤ N → j < f → (∀ a, a ≠ 41 → s a = s0 a) → (∀ g, j ≤ g → g ≤ N → s 41 g = nI (hN n K (N - g) g)) → ∃ s', CP_find_95 G f (nI j - 1) s = some s' ∧ (∀ a, a < 35 ∨ 42 < a → s' a = s0 a) ∧ PB n N s' (plS n K N 0 (fun _ => 0) 0 (-1, fun _ => 0)) := by
  have hn := ok.1
  have hk := ok.2.1
  intro j
  induction j with
  | zero =>
    intro f s hj hf hs h41
    obtain ⟨f, rfl⟩ : ∃ f', f = f' + 1 := ⟨f - 1, by omega⟩
    rw [CP_find_95, if_pos (show nI 0 - 1 < 0 by decide), fill_ev G 42 6 (by omega), bnd0_s]
    have hP : PSt n N K (up2 (ups s 42 (fun j => if j < 6 then 0 else s 42 j)) 35 1 (-1)) := by
      refine ⟨?_, ?_, ?_, ?_, ?_⟩
      · rw [up2_el, if_neg (by omega), ups_row (by omega), hs 35 (by omega)]; exact h10
      · rw [up2_row (by omega), ups_row (by omega), hs 1 (by omega)]; exact h2
      · rw [up2_row (by omega), ups_row (by omega), hs 3 (by omega)]; exact h3
      · rw [up2_row (by omega), ups_row (by omega), hs 38 (by omega), up2_row (by omega), ups_row (by omega), hs 39 (by omega), up2_row (by omega), ups_row (by omega), hs 40 (by omega)]; exact h4
      · intro g hg
        rw [up2_row (by omega), ups_row (by omega)]; exact h41 g (by omega) hg
    have hD : PD n N 0 (fun _ => 0) (up2 (ups s 42 (fun j => if j < 6 then 0 else s 42 j)) 35 1 (-1)) (-1, fun _ => 0) := by
      refine ⟨?_, fun x hx => by omega, ?_, ?_, ?_⟩
      · intro t ht
        rw [up2_row (by omega), ups_at, if_pos (by omega)]; rfl
      · rw [up2_at]; decide
      · exact Int.le_refl _
      · intro z; exact absurd z (by show ¬ (0 : Int) ≤ -1; omega)
    obtain ⟨s', e, f1, -, -, hB⟩ := place_ev (G := G) ok hN6 hNk N 0 9 (fun _ => 0) 0 (-1, fun _ => 0) _ (by omega) (by omega) (by omega) hP hD (fun x hx => by omega)
    rw [show (0 : Int32) = nI 0 from by decide]
    rw [show (fun j => if j < 6 then (0 : Int32) else s 42 j) = (fun j => if j < 6 then nI 0 else s 42 j) from rfl] at e
    refine ⟨s', ?_, ?_, hB⟩
    · rw [e, bnd0_s]
    · intro a ha
      rw [f1.1 a (by omega) (by omega) (by omega) (by omega), up2_row (by omega), ups_row (by omega), hs a (by omega)]
  | succ j ih =>
    intro f s hj hf hs h41
    obtain ⟨f, rfl⟩ : ∃ f', f = f' + 1 := ⟨f - 1, by omega⟩
    have e1 : nI (j + 1) - 1 = nI j := nI_pred j
    have em : nI j + (-1) = nI j - 1 := by rw [Int32.sub_eq_add_neg]
    have j6 : inb (nI j) 6 = true := inb_nI (by omega) (by omega)
    obtain ⟨q38, q39, q40⟩ := h4 j (by omega)
    have fe := fits_ev (G := G) (K := K) hn (s := s) (by rw [hs 1 (by omega)]; exact h2) (by rw [hs 3 (by omega)]; exact h3) (g := j) (by omega) (by rw [hs 38 (by omega)]; exact q38)
    have v41 : s 41 (j + 1) = nI (hN n K (N - (j + 1)) (j + 1)) := h41 (j + 1) (Nat.le_refl _) (by omega)
    have eh : hN n K (N - j) j = hN n K (N - (j + 1)) (j + 1) + (if fitB n K j = true then cN K j else 0) := by
      rw [show N - j = (N - (j + 1)) + 1 by omega, hN]
    obtain ⟨s', r1, r2, r3⟩ := ih f (up2 s 41 j (nI (hN n K (N - j) j))) (by omega) (by omega) (fun a ha => by rw [up2_row ha]; exact hs a ha) (by
      intro g h1 h2
      by_cases e : g = j
      · subst e; rw [up2_at]
      · rw [up2_el, if_neg (fun z => e z.2)]; exact h41 g (by omega) h2)
    refine ⟨s', ?_, r2, r3⟩
    rw [e1, CP_find_95, if_neg (nI_n0 (by omega)), nI_s, if_pos (inb_nI (by omega) (by omega)), fe, bnd_s]
    unfold CP_find_130
    rw [if_pos j6, if_pos (inb_nI (by omega) (by omega)), if_pos (inb_nI (by omega) (by omega)), cl_nI (by omega), cl_nI (by omega), v41, hs 39 (by omega), q39, em, nI_add]
    by_cases q : fitB n K j = true
    · rw [if_pos q, if_neg (by decide)]
      rw [if_pos q] at eh
      rw [← eh]; exact r1
    · rw [if_neg q, if_pos rfl, Int32.add_zero]
      rw [if_neg q, Nat.add_zero] at eh
      rw [← eh]; exact r1
theorem findC (ok : KOk n k K) (hg : CBg G k K) {s : SS} (h7 : s 7 1 = nI k) (h2 : s 1 2 = nI n) (h3 : ∀ t, t < n → s 3 t = K 2 t) : ∃ s', CP_find G s = some s' ∧ (∀ a, a < 35 ∨ 42 < a → s' a = s a) ∧ PB n (min k 6) s' (plS n K (min k 6) 0 (fun _ => 0) 0 (-1, fun _ => 0)) := by
  have hn := ok.1
  have hk := ok.2.1
  have eN : (if (6 : Int32) < s 7 1 then (6 : Int32) else s 7 1) = nI (min k 6) := by
    rw [h7]
    by_cases e : 6 < k
    · rw [if_pos (show (6 : Int32) < nI k by rw [show (6 : Int32) = nI 6 from by decide, nI_lt_iff (by omega) (by omega)]; exact e), show min k 6 = 6 by omega]; rfl
    · rw [if_neg (show ¬ (6 : Int32) < nI k by rw [show (6 : Int32) = nI 6 from by decide, nI_lt_iff (by omega) (by omega)]; exact e), show min k 6 = k by omega]
  unfold CP_find
  rw [eN]
  have hN6 : min k 6 ≤ 6 := by omega
  have hNk : min k 6 ≤ k := by omega
  generalize min k 6 = N at *
  refine loopQ N (fun f i s' => CP_find_18 G f (nI i) s') (fun i s' => (∀ a, a < 35 ∨ 42 < a → s' a = s a) ∧ s' 35 10 = nI N ∧ ∀ g, g < i → s' 38 g = K 4 g ∧ s' 39 g = nI (cN K g) ∧ s' 40 g = nI (mkN (ovB K g) N)) (fun r => ∃ s', r = some s' ∧ (∀ a, a < 35 ∨ 42 < a → s' a = s a) ∧ PB n N s' (plS n K N 0 (fun _ => 0) 0 (-1, fun _ => 0))) ?_ ?_ fuel 0 _ (by omega) (by have := fuel_big; omega) ⟨fun a ha => up2_row (by omega), up2_at .., fun g hg => by omega⟩
  · rintro f i s' hi ⟨f1, f2, f3⟩
    right
    obtain ⟨a, ha, hm, hk2, z0, z1, z2, z3, -⟩ := hg i (by omega)
    have i6 : inb (nI i) 6 = true := inb_nI (by omega) (by omega)
    have k0 : nI (gk G a) = 0 ↔ gk G a = 0 := by rw [show (0 : Int32) = nI 0 from by decide, nI_eq_iff (by omega) (by omega)]
    have est : (if gk G a = 0 then gv G a 3 else if gk G a = 1 then 2 * gv G a 3 else if (0 : Int32) = 0 then 2 * gv G a 3 else 2 * gv G a 3 + 2 * gv G a 3 / 9) = stay0 K i := by
      unfold stay0
      rw [z0, z3, if_pos rfl]
      simp only [k0]
      by_cases q : gk G a = 0
      · rw [if_pos q, if_pos q]
      · rw [if_neg q, if_neg q]
        split <;> rfl
    have eco : gv G a 1 * (5 + stay0 K i / (if gk G a = 0 then 10 else 20)) = nI (cN K i) := by
      rw [← (cc_b ok (show i < k by omega)).1]
      unfold ccI
      rw [z0, z1]
      simp only [k0]
    have cl := fun s1 (h : s1 35 10 = nI N) => clash_ev (G := G) ok hg hN6 hNk (s := s1) h (g := i) (by omega)
    refine ⟨_, by try dsimp only
                  rw [CP_find_18, f2, if_neg (le_no hi (by omega)), if_pos (inb_nI (by omega) (by omega)), cl_nI (by omega), ha]
                  simp only [gld]
                  rw [if_pos i6, staysC _ hk2, est, bnd_s, coinC _ hk2, eco, bnd_s, if_pos i6, cl _ (by rw [up2_row (by omega), up2_row (by omega)]; exact f2), bnd_s, if_pos i6, nI_s], ?_, ?_, ?_⟩
    · intro b hb
      rw [up2_row (by omega), up2_row (by omega), up2_row (by omega)]; exact f1 b hb
    · rw [up2_row (by omega), up2_row (by omega), up2_row (by omega)]; exact f2
    · intro g hg'
      by_cases e : g = i
      · subst e
        simp only [up2_el]
        simp [z1]
      · simp only [up2_el, e]
        simpa using f3 g (by omega)
  · rintro f s' ⟨f1, f2, f3⟩
    try dsimp only
    rw [CP_find_18, f2, if_pos (le_ye (Nat.le_refl N) (by omega)), if_pos (inb_nI (by omega) (by omega)), cl_nI (by omega)]
    obtain ⟨s2, e2, g1, g2⟩ := hope_ev (G := G) ok hN6 hNk (s0 := up2 s' 41 N 0) (by rw [up2_row (by omega)]; exact f2) (by rw [up2_row (by omega), f1 1 (by omega)]; exact h2) (by rw [up2_row (by omega), f1 3 (by omega)]; exact h3) (by rw [up2_row (by omega), up2_row (by omega), up2_row (by omega)]; exact f3) N fuel (up2 s' 41 N 0) (Nat.le_refl N) (by have := fuel_big; omega) (fun a _ => rfl) (by
      intro g h1 h2
      have : g = N := by omega
      subst this
      rw [up2_at, Nat.sub_self]; rfl)
    refine ⟨s2, e2, ?_, g2⟩
    intro a ha
    rw [g1 a ha, up2_row (by omega)]; exact f1 a ha
theorem plS_ge : ∀ (r g : Nat) (ch : Nat → Nat) (S : Nat) (B : Int × (Nat → Nat)), (S : Int) ≤ (plS n K r g ch S B).1
  | 0, g, ch, S, B => by
    rw [plS]
    split
    · rename_i q; exact q
    · exact Int.le_refl _
  | r + 1, g, ch, S, B => by
    rw [plS, List.range_succ, List.foldl_append]
    have o1 : okT n K g ch n = true := by unfold okT; simp
    have o2 : cT n K g n = 0 := by unfold cT; rw [if_pos rfl]
    show (S : Int) ≤ (if okT n K g ch n = true then plS n K r (g + 1) (updN ch g n) (S + cT n K g n) _ else _).1
    rw [if_pos o1, o2]
    exact plS_ge r (g + 1) _ S _
end planF
def PlOk (s m : SS) (n k : Nat) : Prop := PB n (min k 6) s (plS n (Kof m) (min k 6) 0 (fun _ => 0) 0 (-1, fun _ => 0))
def POk (s m : SS) (n k : Nat) : Prop := s 0 12 = 0 ∨ (s 0 12 = 1 ∧ PlOk s m n k)
theorem plan_ev {G : GG} {s m : SS} {n k : Nat} (h : Cfg G s m n k) (hp : POk s m n k) (x : Int32) : ∃ r s' m', CT_plan G s x = some (r, s') ∧ M_plan m x = some (r, m') ∧ FC pPla (fun c => c = 12) s s' ∧ FM m m' ∧ POk s' m n k := by
  obtain ⟨n1, n2⟩ := none_iff h
  obtain ⟨h5, h16, h2, h7, ok, hC, hg, -⟩ := h
  have hn := ok.1
  have hk := ok.2.1
  have eN : (if (6 : Int32) < s 7 1 then (6 : Int32) else s 7 1) = nI (min k 6) := by
    rw [h7]
    by_cases e : 6 < k
    · rw [if_pos (show (6 : Int32) < nI k by rw [show (6 : Int32) = nI 6 from by decide, nI_lt_iff (by omega) (by omega)]; exact e), show min k 6 = 6 by omega]; rfl
    · rw [if_neg (show ¬ (6 : Int32) < nI k by rw [show (6 : Int32) = nI 6 from by decide, nI_lt_iff (by omega) (by omega)]; exact e), show min k 6 = k by omega]
  have hpl : M_planned m = some (nI (min k 6), m) := by
    unfold M_planned M_planned_18
    rw [h16]
    by_cases e : 6 ≤ k
    · rw [if_pos (show (6 : Int32) ≤ nI k by rw [show (6 : Int32) = nI 6 from by decide]; exact le_ye e (by omega)), show min k 6 = 6 by omega]; rfl
    · rw [if_neg (show ¬ (6 : Int32) ≤ nI k by rw [show (6 : Int32) = nI 6 from by decide]; exact le_no (by omega) (by omega)), show min k 6 = k by omega]
  have tN : (nI (min k 6)).toInt = (min k 6 : Nat) := nI_T (by omega)
  have tN1 : (nI (min k 6) - 1).toInt = (min k 6 : Nat) - 1 := by rw [i_sub (by rw [tN, t1]; omega) (by rw [tN, t1]; omega), tN, t1]
  unfold CT_plan M_plan CT_plan_21
  rw [eN, hpl, bnd_s]
  simp only [noCafe_ev, isCafe_ev, bnd_s, within_ev, bnd0_s, wi]
  by_cases a1 : x < -1
  · exact ⟨-1, s, m, by simp [a1], by simp [a1], FC.rf _ _ s, FM.rf m, hp⟩
  by_cases a2 : ¬ x < nI (min k 6)
  · have a2' : nI (min k 6) - 1 < x := by rw [i_lt, tN1]; rw [i_lt, tN] at a2; omega
    exact ⟨-1, s, m, by simp [a1, a2], by simp [a1, a2'], FC.rf _ _ s, FM.rf m, hp⟩
  have a2 := Classical.not_not.mp a2
  have a2' : ¬ nI (min k 6) - 1 < x := by rw [i_lt, tN1]; rw [i_lt, tN] at a2; omega
  by_cases z : n = 0
  · exact ⟨-3, s, m, by simp [a1, a2, n1.mpr z], by simp [a1, a2', n2.mpr z], FC.rf _ _ s, FM.rf m, hp⟩
  have z1 : ¬ s 1 2 = 0 := fun w => z (n1.mp w)
  have z2 : ¬ m 0 5 ≤ 0 := fun w => z (n2.mp w)
  obtain ⟨m', e3, g1, g2⟩ := findPlan_ev ok h5 h16
  have fm : FM m m' := by
    refine ⟨fun a ha hb => g1.1 a (by omega) (by omega) (by omega), fun c hc => g1.2 c (by omega)⟩
  have pos := plS_ge (n := n) (K := Kof m) (min k 6) 0 (fun _ => 0) 0 (-1, fun _ => 0)
  have main : ∀ s1 : SS, PlOk s1 m n k → ∃ r, CT_plan_52 G x s1 = some (r, s1) ∧ (if (0 : Int32) ≤ x then (if inb x 6 = true then M_plan_47 (m' 42 x.toNatClampNeg) m' else none) else M_plan_47 (m' 0 43) m') = some (r, m') := by
    intro s1 hp1
    unfold PlOk at hp1
    generalize plS n (Kof m) (min k 6) 0 (fun _ => 0) 0 (-1, fun _ => 0) = B at hp1 g2 pos
    unfold CT_plan_52 CT_plan_76 M_plan_47
    rw [i_lt, tm1] at a1
    rw [i_lt, tN] at a2
    by_cases q : x = -1
    · rw [if_pos q, q, if_neg (by decide)]
      refine ⟨s1 35 1, rfl, ?_⟩
      have : m' 0 43 = s1 35 1 := by rw [i_eq, g2.1, hp1.1]
      rw [this]
    · have q' : ¬ x.toInt = -1 := by rw [i_eq, tm1] at q; exact q
      have x6 : inb x 6 = true := by rw [inb_iff]; omega
      have xc : x.toNatClampNeg < min k 6 := by rw [i_cl]; omega
      rw [if_neg q, if_pos x6, if_pos (show (0 : Int32) ≤ x by rw [i_le, t0]; omega), if_pos x6]
      refine ⟨_, rfl, ?_⟩
      rw [g2.2.2 (by omega) _ xc, hp1.2.2 (by omega) _ xc]
  have MM : ∀ r, (if (0 : Int32) ≤ x then (if inb x 6 = true then M_plan_47 (m' 42 x.toNatClampNeg) m' else none) else M_plan_47 (m' 0 43) m') = some (r, m') → (if x < -1 ∨ nI (min k 6) - 1 < x then some ((-1 : Int32), m) else if (if m 0 5 ≤ 0 then (0 : Int32) else 1) = 0 then some (-3, m) else bnd0 (M_findPlan m) fun s12 => if (0 : Int32) ≤ x then (if inb x 6 = true then M_plan_47 (s12 42 x.toNatClampNeg) s12 else none) else M_plan_47 (s12 0 43) s12) = some (r, m') := by
    intro r hr
    rw [if_neg (by simp [a1, a2']), if_neg z2, if_neg (by decide), e3, bnd0_s]
    exact hr
  rcases hp with e | ⟨e, hp⟩
  · obtain ⟨s1, e1, f1, hB⟩ := findC (G := G) ok hg h7 h2 (fun t ht => (hC.2.2.2.2.2 t ht).2)
    have hp1 : PlOk (up2 s1 0 12 1) m n k := by
      unfold PlOk PB at *
      rw [up2_row (by omega), up2_row (by omega)]
      exact hB
    obtain ⟨r, c1, c2⟩ := main _ hp1
    refine ⟨r, up2 s1 0 12 1, m', ?_, MM r c2, ⟨?_, ?_⟩, fm, Or.inr ⟨up2_at .., hp1⟩⟩
    · rw [if_neg a1, if_pos a2, if_neg z1, if_pos rfl, if_pos e, e1, bnd0_s, nb1, if_pos rfl]
      exact c1
    · intro a ha hpp
      unfold pPla at hpp
      rw [up2_row (by omega), f1 a (by omega)]
    · intro c hc
      rw [up2_el, if_neg (fun z => hc z.2), f1 0 (by omega)]
  · obtain ⟨r, c1, c2⟩ := main s hp
    refine ⟨r, s, m', ?_, MM r c2, FC.rf _ _ s, fm, Or.inr ⟨e, hp⟩⟩
    rw [if_neg a1, if_pos a2, if_neg z1, if_pos rfl, if_neg (by rw [e]; decide)]
    exact c1
