section dayV
variable {n k : Nat} {K b m D : SS} {lo : Int32} {mm : Nat}
theorem over_3 {n : Nat} {x : Int32} {g : Nat} : ∀ (l : List Nat) (D : SS), D 1 g = 3 → l.foldl (overStep n x) D 1 g = 3
  | [], _, h => h
  | a :: l, D, h => by
    rw [List.foldl_cons]
    apply over_3 l
    rw [ov_1, if_neg]
    · exact h
    · intro z
      rw [← z.1, h] at z
      exact absurd z.2.1 (by decide)
theorem call_3 {x : Int32} {L : List Nat} {g : Nat} : ∀ (l : List Nat) (D : SS), D 1 g = 3 → l.foldl (callStep n K L x) D 1 g = 3
  | [], _, h => h
  | a :: l, D, h => by
    rw [List.foldl_cons]
    apply call_3 l
    unfold callStep
    by_cases e : g = a
    · subst e
      rw [if_neg (by rw [h]; decide)]; exact h
    · repeat' split
      · exact h
      · rw [up2_row (by omega), up2_el, if_neg (fun z => e z.2)]; exact h
      · rw [(sitD_rows D a x g).1, if_neg e]; exact h
      · exact h
theorem drive_3 (ok : KOk n k K) (hm : mm < 1000) (hJ : JJ n k K lo mm D) (hU : UU k mm D) {g : Nat} (h : D 1 g = 3) : driveD n K (nI mm) D 1 g = 3 := by
  have key : ∀ i, i ≤ 8 → (List.range i).foldl (riseStep n K (nI mm) (fun g => sunH K D (nI g) n)) (dr2 K (dr1 n K D n) n) 1 g = 3 := by
    intro i
    induction i with
    | zero =>
      intro _
      show dr2 K (dr1 n K D n) n 1 g = 3
      unfold dr2 dr1
      simp [h]
    | succ i ih =>
      intro hi
      have i' := ih (by omega)
      rw [List.range_succ, List.foldl_append]
      show riseStep n K (nI mm) (fun g => sunH K D (nI g) n) _ i 1 g = 3
      have hS := (drive_inv ok hm hJ hU (show i ≤ 8 by omega)).2.2 i (Nat.le_refl i) (by omega)
      generalize (List.range i).foldl (riseStep n K (nI mm) (fun g => sunH K D (nI g) n)) (dr2 K (dr1 n K D n) n) = D' at *
      unfold riseStep
      split
      · rename_i q
        have h5 := (hS q).2.1
        have e : ¬ g = i := by
          intro z
          rw [z, h5] at i'; exact absurd i' (by decide)
        split
        · rw [up2_row (by omega), up2_el, if_neg (fun z => e z.2)]; exact i'
        · rw [fpD_row (by omega)]; exact i'
      · exact i'
  exact key 8 (Nat.le_refl 8)
theorem minute_M (ok : KOk n k K) (hM : MB n k K lo b) (hm : mm < 1000) (hJ : JJ n k K lo mm D) (h3 : ∀ g, g < k → K 5 g = nI mm → D 1 g = 3) (hR : RM n k K b m D) :
    ∃ f m', M_goMinute m (nI mm) = some m' ∧ RM n k K (ups b 40 f) m' (minD n K (ordL K lo k) (nI mm) D) := by
  have hk := ok.2.1
  have hL : ∀ g, g ∈ ordL K lo k ↔ g < k ∧ ¬ nI g = lo := fun g => ordL_mem ok.ck
  obtain ⟨m1, hR1, e1⟩ := over_M ok hM hR hm hJ
  have ol := ov_LR (n := n) (x := nI mm) (D := D) (show k < 1000 by omega) ok.ck (fun g hg z => (hJ.1 g hg).2.2.2.2.2.2.2.1 z)
  rw [← ol] at hR1
  have hO := over_all ok.2.1 hL hm hJ
  have ho3 : ∀ g, g < k → K 5 g = nI mm → (ordL K lo k).foldl (overStep n (nI mm)) D 1 g = 3 := fun g h1 h2 => over_3 _ _ (h3 g h1 h2)
  unfold minD
  generalize (ordL K lo k).foldl (overStep n (nI mm)) D = D1 at *
  have rest : ∀ (b2 m2 D2 : SS), MB n k K lo b2 → RM n k K b2 m2 D2 → JJ n k K lo mm D2 → UU k mm D2 → (∀ g, g < k → K 5 g = nI mm → D2 1 g = 3) → ∃ m', M_goMinute_60 (nI mm) m2 = some m' ∧ RM n k K b2 m' ((ordL K lo k).foldl (comeStep n K (ordL K lo k) (nI mm)) ((ordL K lo k).foldl (callStep n K (ordL K lo k) (nI mm)) D2)) := by
    intro b2 m2 D2 hM2 hR2 hJ2 hU2 h32
    obtain ⟨m3, e3, hR3⟩ := call_M ok hM2 hm hJ2 hU2 hR2
    have hC := call_all ok hL hm hJ2 hU2
    have hc3 : ∀ g, g < k → K 5 g = nI mm → (ordL K lo k).foldl (callStep n K (ordL K lo k) (nI mm)) D2 1 g = 3 := fun g h1 h2 => call_3 _ _ (h32 g h1 h2)
    obtain ⟨m4, e4, hR4⟩ := come_M ok hM2 hm hC.1 hC.2.1 hC.2.2 hc3 hR3
    refine ⟨m4, ?_, hR4⟩
    unfold M_goMinute_60
    rw [e3, bnd0_s, e4]
  by_cases q : nI mm = K 0 4
  · rw [if_pos q] at e1 ⊢
    obtain ⟨f, m2, e2, hR2⟩ := rainM ok hM hm hO.1 hO.2 hR1
    have hD := drive_all ok hm hO.1 hO.2
    obtain ⟨m', e', hR'⟩ := rest _ _ _ (hM.w f (by omega)) hR2 hD.1 hD.2 (fun g h1 h2 => drive_3 ok hm hO.1 hO.2 (ho3 g h1 h2))
    exact ⟨f, m', by rw [e1, e2, bnd0_s, e'], hR'⟩
  · rw [if_neg q] at e1 ⊢
    obtain ⟨m', e', hR'⟩ := rest _ _ _ hM hR1 hO.1 hO.2 ho3
    refine ⟨b 40, m', by rw [e1, e'], ?_⟩
    have : ups b 40 (b 40) = b := by
      funext a
      unfold ups
      split
      · rename_i z; rw [z]
      · rfl
    rw [this]
    exact hR'
theorem goDay_ev (ok : KOk n k K) {m0 D0 : SS} (hM : MB n k K lo m0) (h0 : Init k D0) : ∃ m', M_goDay m0 = some m' ∧ (∀ a, a < 30 ∨ 40 < a → m' a = m0 a) ∧ (∃ b', RM n k K b' m' (itD n K (ordL K lo k) D0 400)) ∧ ∀ j, j < 400 → m' 38 j = takenN (itD n K (ordL K lo k) D0 (j + 1)) n ∧ m' 39 j = sumL (List.range k) (wv (itD n K (ordL K lo k) D0 (j + 1)) (-9)) := by
  have hn := ok.1
  have hk := ok.2.1
  have hL : ∀ g, g ∈ ordL K lo k ↔ g < k ∧ ¬ nI g = lo := fun g => ordL_mem ok.ck
  have lp : ∀ m2, (∀ a, a < 30 ∨ 40 < a → m2 a = m0 a) → RM n k K m2 m2 D0 → ∃ m', M_goDay_90 fuel 0 m2 = some m' ∧ (∀ a, a < 30 ∨ 40 < a → m' a = m0 a) ∧ (∃ b', RM n k K b' m' (itD n K (ordL K lo k) D0 400)) ∧ ∀ j, j < 400 → m' 38 j = takenN (itD n K (ordL K lo k) D0 (j + 1)) n ∧ m' 39 j = sumL (List.range k) (wv (itD n K (ordL K lo k) D0 (j + 1)) (-9)) := by
    intro m2 hf hR2
    have hM2 : MB n k K lo m2 := by
      unfold MB at hM ⊢
      rw [hf 0 (by omega), hf 24 (by omega), hf 25 (by omega), hf 17 (by omega), hf 18 (by omega), hf 19 (by omega), hf 20 (by omega), hf 21 (by omega), hf 22 (by omega)]
      exact hM
    refine loopQ 400 (fun f i m' => M_goDay_90 f (nI i) m') (fun i m' => (∀ a, a < 30 ∨ 40 < a → m' a = m0 a) ∧ (∃ b', MB n k K lo b' ∧ RM n k K b' m' (itD n K (ordL K lo k) D0 i)) ∧ ∀ j, j < i → m' 38 j = takenN (itD n K (ordL K lo k) D0 (j + 1)) n ∧ m' 39 j = sumL (List.range k) (wv (itD n K (ordL K lo k) D0 (j + 1)) (-9))) (fun r => ∃ m', r = some m' ∧ (∀ a, a < 30 ∨ 40 < a → m' a = m0 a) ∧ (∃ b', RM n k K b' m' (itD n K (ordL K lo k) D0 400)) ∧ ∀ j, j < 400 → m' 38 j = takenN (itD n K (ordL K lo k) D0 (j + 1)) n ∧ m' 39 j = sumL (List.range k) (wv (itD n K (ordL K lo k) D0 (j + 1)) (-9))) ?_ ?_ fuel 0 m2 (by omega) (by have := fuel_big; omega) ⟨hf, ⟨m2, hM2, hR2⟩, fun j hj => by omega⟩
    · rintro f i m' hi ⟨hf', ⟨b', hM', hR'⟩, ht⟩
      right
      have hJ := it_J ok hL h0 i (by omega)
      have h3 : ∀ g, g < k → K 5 g = nI i → itD n K (ordL K lo k) D0 i 1 g = 3 := by
        intro g hg e
        cases i with
        | zero => exact (h0.1 g hg).1
        | succ i =>
          have := it_E ok hL h0 i (by omega)
          exact (this.1.1 g hg).2.2.2.2.2.2.1 (by rw [e, nI_T (by omega)]; omega)
      obtain ⟨fw, m3, e3, hR3⟩ := minute_M ok hM' (by omega) hJ h3 hR'
      have hM3 := hM'.w fw (show 30 ≤ 40 by omega)
      have hE := it_E ok hL h0 i (by omega)
      have eI : minD n K (ordL K lo k) (nI i) (itD n K (ordL K lo k) D0 i) = itD n K (ordL K lo k) D0 (i + 1) := rfl
      rw [eI] at hR3
      have c4 : inb (nI i) 400 = true := inb_nI (by omega) (by omega)
      have hR4 := hR3.w (upd (m3 38) i (takenN (itD n K (ordL K lo k) D0 (i + 1)) n)) (show 37 < 38 by omega)
      have hM4 := hM3.w (upd (m3 38) i (takenN (itD n K (ordL K lo k) D0 (i + 1)) n)) (show 30 ≤ 38 by omega)
      have hR5 := hR4.w (upd (ups m3 38 (upd (m3 38) i (takenN (itD n K (ordL K lo k) D0 (i + 1)) n)) 39) i (sumL (List.range k) (wv (itD n K (ordL K lo k) D0 (i + 1)) (-9)))) (show 37 < 39 by omega)
      have hM5 := hM4.w (upd (ups m3 38 (upd (m3 38) i (takenN (itD n K (ordL K lo k) D0 (i + 1)) n)) 39) i (sumL (List.range k) (wv (itD n K (ordL K lo k) D0 (i + 1)) (-9)))) (show 30 ≤ 39 by omega)
      refine ⟨_, ?_, ?_, ⟨_, hM5, hR5⟩, ?_⟩
      · try dsimp only
        rw [M_goDay_90, if_neg (show ¬ (400 : Int32) ≤ nI i by rw [show (400 : Int32) = nI 400 from by decide]; exact le_no hi (by omega)), e3, bnd0_s, takenM ok hM3 hR3 hE.1.2.hv, bnd_s, if_pos c4, cl_nI (by omega), up2_ups, waitM ok hM4 hR4, bnd_s, if_pos c4, up2_ups, nI_s]
      · intro a ha
        rw [ups_row (by omega), ups_row (by omega)]
        rw [hR3.1 a (by omega), ups_row (by omega), ← hR'.1 a (by omega)]
        exact hf' a ha
      · intro j hj
        have e38 : m3 38 = m' 38 := by rw [hR3.1 38 (by omega), ups_row (by omega), ← hR'.1 38 (by omega)]
        have e39 : m3 39 = m' 39 := by rw [hR3.1 39 (by omega), ups_row (by omega), ← hR'.1 39 (by omega)]
        rw [ups_row (show 38 ≠ 39 by omega), ups_at, ups_at, ups_row (show 39 ≠ 38 by omega), e38, e39]
        unfold upd
        by_cases z : j = i
        · subst z; simp
        · rw [if_neg z, if_neg z]; exact ht j (by omega)
    · rintro f m' ⟨hf', ⟨b', hM', hR'⟩, ht⟩
      try dsimp only
      rw [M_goDay_90, if_pos (by decide)]
      exact ⟨m', rfl, hf', ⟨b', hR'⟩, ht⟩
  have l2 : ∀ m1, (∀ a, a < 30 ∨ 40 < a → m1 a = m0 a) → (∀ t, t < 6 → m1 30 t = -9 ∧ m1 31 t = 0) → ∃ m', M_goDay_31 fuel 0 m1 = some m' ∧ (∀ a, a < 30 ∨ 40 < a → m' a = m0 a) ∧ (∃ b', RM n k K b' m' (itD n K (ordL K lo k) D0 400)) ∧ ∀ j, j < 400 → m' 38 j = takenN (itD n K (ordL K lo k) D0 (j + 1)) n ∧ m' 39 j = sumL (List.range k) (wv (itD n K (ordL K lo k) D0 (j + 1)) (-9)) := by
    intro m1 hf ht
    refine loopQ 8 (fun f i m' => M_goDay_31 f (nI i) m') (fun i m' => (∀ a, a < 30 ∨ 40 < a → m' a = m0 a) ∧ (∀ t, t < 6 → m' 30 t = -9 ∧ m' 31 t = 0) ∧ ∀ g, g < i → m' 32 g = 0 ∧ m' 33 g = -9 ∧ m' 34 g = -9 ∧ m' 35 g = -9 ∧ m' 36 g = 0 ∧ m' 37 g = 0) (fun r => ∃ m', r = some m' ∧ (∀ a, a < 30 ∨ 40 < a → m' a = m0 a) ∧ (∃ b', RM n k K b' m' (itD n K (ordL K lo k) D0 400)) ∧ ∀ j, j < 400 → m' 38 j = takenN (itD n K (ordL K lo k) D0 (j + 1)) n ∧ m' 39 j = sumL (List.range k) (wv (itD n K (ordL K lo k) D0 (j + 1)) (-9))) ?_ ?_ fuel 0 m1 (by omega) (by have := fuel_big; omega) ⟨hf, ht, fun g hg => by omega⟩
    · rintro f i m' hi ⟨h1, h2, h3⟩
      right
      have i8 : inb (nI i) 8 = true := inb_nI hi (by omega)
      refine ⟨_, by try dsimp only
                    rw [M_goDay_31, if_neg (show ¬ (8 : Int32) ≤ nI i by rw [show (8 : Int32) = nI 8 from by decide]; exact le_no hi (by omega)), if_pos i8, if_pos i8, if_pos i8, if_pos i8, if_pos i8, if_pos i8, cl_nI (by omega), nI_s], ?_, ?_, ?_⟩
      · intro a ha
        rw [up2_row (by omega), up2_row (by omega), up2_row (by omega), up2_row (by omega), up2_row (by omega), up2_row (by omega)]
        exact h1 a ha
      · intro t ht
        rw [up2_row (by omega), up2_row (by omega), up2_row (by omega), up2_row (by omega), up2_row (by omega), up2_row (by omega)]
        rw [up2_row (by omega), up2_row (by omega), up2_row (by omega), up2_row (by omega), up2_row (by omega), up2_row (by omega)]
        exact h2 t ht
      · intro g hg
        by_cases e : g = i
        · subst e; simp [up2_el]
        · simpa [up2_el, e] using h3 g (by omega)
    · rintro f m' ⟨h1, h2, h3⟩
      try dsimp only
      rw [M_goDay_31, if_pos (by decide)]
      refine lp m' h1 ⟨fun a _ => rfl, ?_, ?_⟩
      · intro t ht
        obtain ⟨e1, e2⟩ := h2 t (by omega)
        unfold RMt
        rw [e1, e2, h0.2 t (by omega)]
        exact ⟨by decide, by decide, fun z => absurd z (by decide)⟩
      · intro g hg
        obtain ⟨e1, e2, e3, e4, e5, e6⟩ := h3 g (by omega)
        obtain ⟨d1, d2, d3, d4, d5⟩ := h0.1 g hg
        unfold RMg
        rw [e1, e2, e3, e4, e5, e6, d1, d2, d3, d4, d5, if_neg (by decide)]
        exact ⟨by decide, rfl, rfl, rfl, rfl, rfl, fun _ => rfl⟩
  unfold M_goDay
  refine loopQ 6 (fun f i m' => M_goDay_2 f (nI i) m') (fun i m' => (∀ a, a < 30 ∨ 40 < a → m' a = m0 a) ∧ (∀ t, t < i → m' 30 t = -9 ∧ m' 31 t = 0)) (fun r => ∃ m', r = some m' ∧ (∀ a, a < 30 ∨ 40 < a → m' a = m0 a) ∧ (∃ b', RM n k K b' m' (itD n K (ordL K lo k) D0 400)) ∧ ∀ j, j < 400 → m' 38 j = takenN (itD n K (ordL K lo k) D0 (j + 1)) n ∧ m' 39 j = sumL (List.range k) (wv (itD n K (ordL K lo k) D0 (j + 1)) (-9))) ?_ ?_ fuel 0 m0 (by omega) (by have := fuel_big; omega) ⟨fun a _ => rfl, fun t ht => by omega⟩
  · rintro f i m' hi ⟨h1, h2⟩
    right
    have i6 : inb (nI i) 6 = true := inb_nI hi (by omega)
    have c0 : (0 : Int32) &&& 1 = 0 := by decide
    refine ⟨_, by try dsimp only
                  rw [M_goDay_2, if_neg (show ¬ (6 : Int32) ≤ nI i by rw [show (6 : Int32) = nI 6 from by decide]; exact le_no hi (by omega)), if_pos i6, if_pos i6, cl_nI (by omega), nI_s, c0], ?_, ?_⟩
    · intro a ha
      rw [up2_row (by omega), up2_row (by omega)]
      exact h1 a ha
    · intro t ht
      by_cases e : t = i
      · subst e; simp [up2_el]
      · simpa [up2_el, e] using h2 t (by omega)
  · rintro f m' ⟨h1, h2⟩
    try dsimp only
    rw [M_goDay_2, if_pos (by decide)]
    exact l2 m' h1 h2
theorem it_end (ok : KOk n k K) {D0 : SS} (h0 : Init k D0) {g : Nat} (hg : g < k) : ¬ itD n K (ordL K lo k) D0 400 1 g = 5 ∧ ¬ itD n K (ordL K lo k) D0 400 1 g = 4 ∧ (itD n K (ordL K lo k) D0 400 1 g = 3 → nI g = lo) := by
  have hL : ∀ g, g ∈ ordL K lo k ↔ g < k ∧ ¬ nI g = lo := fun g => ordL_mem ok.ck
  have hE := it_E ok hL h0 399 (by omega)
  obtain ⟨-, -, ⟨c, hc, ec⟩, -⟩ := ok.2.2.2 g hg
  have tc : (K 5 g).toInt = c := by rw [ec, nI_T (by omega)]
  have hp := ok.2.2.1
  refine ⟨fun z => ?_, fun z => ?_, fun z => ?_⟩
  · have h1 := ((hE.1.1 g hg).1 z).2.1
    have h2 := hE.2.1 g hg z
    omega
  · have := (hE.2.2.1 g hg z).2
    omega
  · by_cases w : nI g = lo
    · exact w
    · have := hE.2.2.2 g hg z w
      omega
theorem end_coin (ok : KOk n k K) {D0 b' : SS} (h0 : Init k D0) (hR : RM n k K b' m (itD n K (ordL K lo k) D0 400)) {g : Nat} (hg : g < k) : m 36 g = cv K (itD n K (ordL K lo k) D0 400) g := by
  have hL : ∀ g, g ∈ ordL K lo k ↔ g < k ∧ ¬ nI g = lo := fun g => ordL_mem ok.ck
  have hE := it_E ok hL h0 399 (by omega)
  have e := (hR.2.2 g hg).2.2.2.2.1
  have en := it_end (lo := lo) ok h0 hg
  rw [e]
  obtain ⟨p1, p2, p3, p4, p5, p6, -⟩ := hE.1.1 g hg
  generalize itD n K (ordL K lo k) D0 (399 + 1) = D at *
  unfold cv cvM
  rcases p6 with z | z | z | z | z | z
  · rw [if_pos z, if_neg (p4 z)]
  · rw [if_pos (p5 (Or.inl z)), if_neg (by rw [z]; decide)]
  · rw [if_pos (p5 (Or.inr z)), if_neg (by rw [z]; decide)]
  · rw [if_pos (p3 z), if_neg (by rw [z]; decide)]
  · exact absurd z en.2.1
  · exact absurd z en.1
theorem allCoin_ev (hk : k ≤ 8) (h16 : m 0 16 = nI k) : M_allCoin m = some (sumL (List.range k) (m 36), m) := by
  unfold M_allCoin sumL
  refine loopQ k (fun f i c => M_allCoin_4 f c (nI i) m) (fun i c => c = (List.range i).foldl (fun c g => c + m 36 g) 0) (fun r => r = some ((List.range k).foldl (fun c g => c + m 36 g) 0, m)) ?_ ?_ fuel 0 0 (by omega) (by have := fuel_big; omega) rfl
  · intro f i c hi hc
    right
    try dsimp only
    refine ⟨c + m 36 i, ?_, by rw [hc, List.range_succ, List.foldl_append]; rfl⟩
    rw [M_allCoin_4, h16, if_neg (le_no hi (by omega)), if_pos (inb_nI (by omega) (by omega)), cl_nI (by omega), nI_s]
  · intro f c hc
    try dsimp only
    rw [M_allCoin_4, h16, if_pos (le_ye (Nat.le_refl k) (by omega)), hc]
theorem end_sum (ok : KOk n k K) {D0 b' : SS} (h0 : Init k D0) (hR : RM n k K b' m (itD n K (ordL K lo k) D0 400)) : sumL (List.range k) (m 36) = sumL (ordL K lo k) (cv K (itD n K (ordL K lo k) D0 400)) := by
  have hL : ∀ g, g ∈ ordL K lo k ↔ g < k ∧ ¬ nI g = lo := fun g => ordL_mem ok.ck
  rw [sumL_ord _ ok.ck]
  · apply sumL_same
    intro g hg
    rw [List.mem_range] at hg
    exact end_coin ok h0 hR hg
  · intro g hg e
    have hE := it_E ok hL h0 399 (by omega)
    have h3 := (hE.1.1 g hg).2.2.2.2.2.2.2.1 e
    have := (hE.1.1 g hg).2.2.1 h3
    unfold cv
    rw [if_pos this]
end dayV
