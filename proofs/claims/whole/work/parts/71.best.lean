theorem sub64 {a b : Int32} (h1 : -2147483648 ≤ a.toInt - b.toInt) (h2 : a.toInt - b.toInt < 2147483648) : a.toInt64 - b.toInt64 = (a - b).toInt64 := by
  apply Int64.toInt_inj.mp
  rw [Int64.toInt_sub, Int32.toInt_toInt64, Int32.toInt_toInt64, Int32.toInt_toInt64, i_sub h1 h2]
  exact Int.bmod_eq_of_le (by omega) (by omega)
theorem grp_lt {G : GG} {s m : SS} {n k j : Nat} (h : Cfg G s m n k) (hj : j < 8) (h2 : M_isGroup m (nI j) = some (1, m)) : j < k := by
  have hk8 := h.2.2.2.2.1.2.1
  unfold M_isGroup at h2
  rw [h.2.1] at h2
  by_cases z : j < k
  · exact z
  · exfalso
    rw [if_neg (nI_n0 (by omega)), if_pos (le_ye (by omega) (by omega))] at h2
    unfold M_isGroup_16 M_isGroup_17 at h2
    rw [nb0, if_pos rfl] at h2
    injection h2 with h2
    injection h2 with h2
    exact absurd h2 (by decide)
theorem Cfg.fm {G : GG} {s m m' : SS} {n k : Nat} (h : Cfg G s m n k) (f : FM m m') : Cfg G s m' n k := by
  unfold Cfg at h ⊢
  rw [f.kof, f.2 5 (by omega), f.2 16 (by omega)]
  exact h
theorem Cfg.fc {G : GG} {s s' m : SS} {n k : Nat} (h : Cfg G s m n k) (h1 : s' 1 = s 1) (h2 : s' 2 = s 2) (h3 : s' 3 = s 3) (h7 : s' 7 = s 7) : Cfg G s' m n k := by
  unfold Cfg CBh at h ⊢
  rw [h1, h2, h3, h7]
  exact h
theorem worth_ev {G : GG} {s m : SS} {n k : Nat} (h : Cfg G s m n k) (hR : RGr G s m) (hd : DOk G s m n k) (x : Int32) : ∃ r s' m', CT_worth G s x = some (r, s') ∧ M_worth m x = some (r, m') ∧ FC (fun a => pDay a ∨ pTri a) (fun c => c = 11) s s' ∧ FM m m' ∧ DOk G s' m n k := by
  rcases grp_cases x hR with ⟨h1, h2⟩ | ⟨j, a, hx, hj8, hb, hcl, hg, hm, h1, h2, -⟩
  · refine ⟨-9223372036854775808, s, m, ?_, ?_, FC.rf _ _ s, FM.rf m, hd⟩
    · unfold CT_worth; rw [h1, bnd_s]; rfl
    · unfold M_worth; rw [h2, bnd_s, if_pos rfl]
  · have hjk : j < k := grp_lt h hj8 (by rw [← hx]; exact h2)
    have ok := h.2.2.2.2.1
    have hk8 := ok.2.1
    obtain ⟨s', e1, f1, f2, f3⟩ := reckonDay_ev h hd
    have hc' : Cfg G s' m n k := h.fc (f1.1 1 (by omega) (by unfold pDay; omega)) (f1.1 2 (by omega) (by unfold pDay; omega)) (f1.1 3 (by omega) (by unfold pDay; omega)) (f1.1 7 (by omega) (by unfold pDay; omega))
    obtain ⟨-, -, -, h7, -, hC, hgg, hra⟩ := hc'
    obtain ⟨s2, e2, r2⟩ := run_coin (G := G) (o := 27) (h := 1) (nI j) (by omega) (by omega) (Or.inl rfl) hC hgg ok hra h7
    have f4 : DayOk G s2 m n k := f3.fr (fun a h1 h2 => r2 a (by omega)) (r2 1 (by omega)) (r2 2 (by omega)) (r2 3 (by omega))
    have f4' := f4
    obtain ⟨D0, h0, hB, eL⟩ := f4
    have cI := coins_ev hB (itD n (Kof m) (ordL (Kof m) (-1) k) D0 400)
    rw [← eL, coin_any ok (-1) h0] at cI
    obtain ⟨m1, e3, g1, -, -, hM⟩ := coinNow_ev h (DZ_init k)
    have hM2 : MB n k (Kof m) (nI j) (up2 m1 0 29 (nI j)) := by
      obtain ⟨a1, a2, a3, a4, a5, a6, -, a8, a9⟩ := hM
      refine ⟨?_, ?_, ?_, ?_, ?_, ?_, ?_, ?_, ?_⟩
      · rw [up2_el, if_neg (by omega)]; exact a1
      · rw [up2_el, if_neg (by omega)]; exact a2
      · rw [up2_el, if_neg (by omega)]; exact a3
      · rw [up2_el, if_neg (by omega)]; exact a4
      · rw [up2_el, if_neg (by omega)]; exact a5
      · rw [up2_el, if_neg (by omega)]; exact a6
      · intro g _; rw [up2_at]
      · rw [up2_row (by omega), up2_row (by omega)]; exact a8
      · rw [up2_row (by omega), up2_row (by omega), up2_row (by omega), up2_row (by omega), up2_row (by omega), up2_row (by omega)]; exact a9
    obtain ⟨m2, e4, e5, g2, -⟩ := goDay_coin ok hM2 (DZ_init k)
    obtain ⟨Z1, z1, ez1⟩ := coinK_b ok (-1)
    obtain ⟨Z2, z2, ez2⟩ := coinK_b ok (nI j)
    refine ⟨(coinK n k (Kof m) (-1) - coinK n k (Kof m) (nI j)).toInt64, s2, m2, ?_, ?_, ⟨?_, ?_⟩, ⟨?_, ?_⟩, ?_⟩
    · unfold CT_worth
      rw [h1, bnd_s]
      simp only [oc]
      rw [if_pos hm, e1, bnd0_s, hx, e2, bnd_s, cI, bnd_s]
      rw [sub64]
      · rw [ez1, ez2, nI_T (by omega), nI_T (by omega)]; omega
      · rw [ez1, ez2, nI_T (by omega), nI_T (by omega)]; omega
    · unfold M_worth
      rw [h2, bnd_s, if_neg (by decide), e3, bnd_s, hx, e4, bnd0_s, e5, bnd_s]
    · intro a ha hp
      rw [r2 a (by unfold pTri at hp; omega)]
      exact f1.1 a ha (fun z => hp (Or.inl z))
    · intro c hc
      rw [r2 0 (by omega)]
      exact f1.2 c hc
    · intro a ha hb
      rw [g2 a (by omega), up2_row (by omega)]
      exact g1.1 a ha hb
    · intro c hc
      rw [g2 0 (by omega), up2_el, if_neg (by omega)]
      exact g1.2 c hc
    · right
      exact ⟨by rw [r2 0 (by omega)]; exact f2, f4'⟩
theorem copyH_ev {G : GG} {n : Nat} {K s : SS} (hC : CBh 1 n K s) (hn : n ≤ 6) (hj : nb (s 1 6) = true) : ∃ s', CH_copyOf G 4 1 s = some s' ∧ CBh 4 n K s' ∧ ∀ a, a ≠ 4 → a ≠ 5 → a ≠ 6 → s' a = s a := by
  unfold CH_copyOf
  refine loopQ 6 (fun f i s' => CH_copyOf_10 G 4 1 f (nI i) s') (fun i s' => (∀ a, a ≠ 5 → a ≠ 6 → s' a = up2 s 4 2 (s 1 2) a) ∧ ∀ t, t < i → s' 5 t = s 2 t ∧ s' 6 t = s 3 t) (fun r => ∃ s', r = some s' ∧ CBh 4 n K s' ∧ ∀ a, a ≠ 4 → a ≠ 5 → a ≠ 6 → s' a = s a) ?_ ?_ fuel 0 _ (by omega) (by have := fuel_big; omega) ⟨fun a _ _ => rfl, fun t ht => by omega⟩
  · rintro f i s' hi ⟨h1, h2⟩
    right
    have i6 : inb (nI i) 6 = true := inb_nI (by omega) (by omega)
    refine ⟨_, by try dsimp only
                  rw [CH_copyOf_10, if_neg (show ¬ (6 : Int32) ≤ nI i by rw [show (6 : Int32) = nI 6 from by decide]; exact le_no hi (by omega)), if_pos i6, if_pos i6, if_pos i6, if_pos i6, cl_nI (by omega), nI_s], ?_, ?_⟩
    · intro a h5 h6
      rw [up2_row (by omega), up2_row (by omega)]; exact h1 a h5 h6
    · intro t ht
      have e2 : s' 2 = s 2 := by rw [h1 2 (by omega) (by omega), up2_row (by omega)]
      have e3 : s' 3 = s 3 := by rw [h1 3 (by omega) (by omega), up2_row (by omega)]
      by_cases e : t = i
      · subst e
        simp only [up2_el]
        simp [e2, e3]
      · simp only [up2_el, e]
        simpa using h2 t (by omega)
  · rintro f s' ⟨h1, h2⟩
    have e1 : s' 1 = s 1 := by rw [h1 1 (by omega) (by omega), up2_row (by omega)]
    have e4 : s' 4 2 = s 1 2 := by rw [h1 4 (by omega) (by omega), up2_at]
    try dsimp only
    rw [CH_copyOf_10, if_pos (by decide)]
    have en : nb ((up2 (up2 s' 4 3 (s' 1 3)) 4 4 ((up2 s' 4 3 (s' 1 3)) 1 4)) 1 6) = true := by
      rw [up2_row (by omega), up2_row (by omega), e1]; exact hj
    rw [if_pos en]
    refine ⟨_, rfl, ?_, ?_⟩
    · obtain ⟨c2, c3, c4, c6, c5, ct⟩ := hC
      refine ⟨?_, ?_, ?_, ?_, ?_, ?_⟩
      · simp only [up2_el]; simp [e4, c2]
      · simp only [up2_el]; simp [e1, c3]
      · simp only [up2_el]; simp [e1, c4]
      · simp only [up2_el]; simp [e1, c6]
      · simp only [up2_el]; simp [e1, c5]
      · intro t ht
        simp only [up2_el]
        have := h2 t (by omega)
        have := ct t ht
        simp_all
    · intro a a4 a5 a6
      rw [up2_row a4, up2_row a4, up2_row a4, up2_row a4, h1 a a5 a6, up2_row a4]
theorem KOk.ch {n k : Nat} {K K' : SS} (ok : KOk n k K) (h : ∀ a, 3 ≤ a → K' a = K a) (hp : 0 ≤ (K' 0 2).toInt ∧ (K' 0 2).toInt ≤ 30) : KOk n k K' := by
  refine ⟨ok.1, ok.2.1, hp, ?_⟩
  intro g hg
  rw [h 3 (by omega), h 4 (by omega), h 5 (by omega), h 6 (by omega), h 7 (by omega)]
  exact ok.2.2.2 g hg
theorem CBg.ch {G : GG} {k : Nat} {K K' : SS} (h : CBg G k K) (e : ∀ a, 3 ≤ a → K' a = K a) : CBg G k K' := by
  unfold CBg
  rw [e 3 (by omega), e 4 (by omega), e 5 (by omega), e 6 (by omega), e 7 (by omega), e 8 (by omega)]
  exact h
theorem up2_sm (K : SS) (j i : Nat) (v : Int32) (h : K j i = v) : up2 K j i v = K := by
  funext a c
  rw [up2_el]
  split
  · rename_i e; rw [e.1, e.2, h]
  · rfl
theorem CBh.ru {n : Nat} {K s : SS} {ru v : Int32} (h : CBh 4 n (up2 K 0 1 ru) s) : CBh 4 n (up2 K 0 1 v) (up2 s 4 3 v) := by
  obtain ⟨c2, c3, c4, c6, c5, ct⟩ := h
  refine ⟨?_, ?_, ?_, ?_, ?_, ?_⟩
  · rw [up2_el, if_neg (by omega)]; exact c2
  · rw [up2_at, up2_at]
  · rw [up2_el, if_neg (by omega)] at c4; rw [up2_el, if_neg (by omega), up2_el, if_neg (by omega)]; exact c4
  · rw [up2_el, if_neg (by omega)] at c6; rw [up2_el, if_neg (by omega), up2_el, if_neg (by omega)]; exact c6
  · rw [up2_el, if_neg (by omega)] at c5; rw [up2_el, if_neg (by omega), up2_el, if_neg (by omega)]; exact c5
  · intro t ht
    rw [up2_row (by omega), up2_row (by omega), up2_row (by omega), up2_row (by omega)]
    have := ct t ht
    rw [up2_row (by omega), up2_row (by omega)] at this
    exact this
theorem CBh.pa {n : Nat} {K s : SS} {pa v : Int32} (h : CBh 4 n (up2 K 0 2 pa) s) : CBh 4 n (up2 K 0 2 v) (up2 s 4 4 v) := by
  obtain ⟨c2, c3, c4, c6, c5, ct⟩ := h
  refine ⟨?_, ?_, ?_, ?_, ?_, ?_⟩
  · rw [up2_el, if_neg (by omega)]; exact c2
  · rw [up2_el, if_neg (by omega)] at c3; rw [up2_el, if_neg (by omega), up2_el, if_neg (by omega)]; exact c3
  · rw [up2_at, up2_at]
  · rw [up2_el, if_neg (by omega)] at c6; rw [up2_el, if_neg (by omega), up2_el, if_neg (by omega)]; exact c6
  · rw [up2_el, if_neg (by omega)] at c5; rw [up2_el, if_neg (by omega), up2_el, if_neg (by omega)]; exact c5
  · intro t ht
    rw [up2_row (by omega), up2_row (by omega), up2_row (by omega), up2_row (by omega)]
    have := ct t ht
    rw [up2_row (by omega), up2_row (by omega)] at this
    exact this
theorem CBh.fr {h n : Nat} {K s s' : SS} (hC : CBh h n K s) (h1 : s' h = s h) (h2 : s' (h + 1) = s (h + 1)) (h3 : s' (h + 2) = s (h + 2)) : CBh h n K s' := by
  unfold CBh at hC ⊢
  rw [h1, h2, h3]
  exact hC
def bsF (c : Int32 → Int32) (p : Int32 × Int32) (v : Nat) : Int32 × Int32 := if c (nI v) ≤ p.2 then p else (nI v, c (nI v))
def pOth (a : Nat) : Prop := (4 ≤ a ∧ a ≤ 6) ∨ pTri a
theorem bestC {G : GG} {s m : SS} {n k : Nat} (h : Cfg G s m n k) (hj : nb (s 1 6) = true) (c : Int32 → Int32) (hc : ∀ i, i < 3 → coinK n k (up2 (Kof m) 0 1 (nI i)) (-1) = c (nI i)) (x : Int32) : ∃ s8 s', CH_copyOf G 4 1 s = some s8 ∧ CT_bestRule_40 G fuel x 0 (-1) 0 s8 = some (if x = 0 then ((List.range 3).foldl (bsF c) (0, -1)).1 else ((List.range 3).foldl (bsF c) (0, -1)).2, s') ∧ FC pOth NO s s' := by
  obtain ⟨-, -, -, h7, ok, hC, hg, hra⟩ := h
  obtain ⟨s8, e8, c8, f8⟩ := copyH_ev (G := G) hC ok.1 hj
  refine ⟨s8, ?_⟩
  have := loopQ 3 (fun f i (st : (Int32 × Int32) × SS) => CT_bestRule_40 G f x st.1.1 st.1.2 (nI i) st.2) (fun i st => st.1 = (List.range i).foldl (bsF c) (0, -1) ∧ (∃ ru, CBh 4 n (up2 (Kof m) 0 1 ru) st.2) ∧ FC pOth NO s st.2) (fun r => ∃ s', r = some (if x = 0 then ((List.range 3).foldl (bsF c) (0, -1)).1 else ((List.range 3).foldl (bsF c) (0, -1)).2, s') ∧ FC pOth NO s s') ?_ ?_ fuel 0 ((0, -1), s8) (by omega) (by have := fuel_big; omega) ⟨rfl, ⟨Kof m 0 1, by rw [up2_sm (Kof m) 0 1 (Kof m 0 1) rfl]; exact c8⟩, fun a _ hp => f8 a (fun z => hp (Or.inl (by omega))) (fun z => hp (Or.inl (by omega))) (fun z => hp (Or.inl (by omega))), fun q _ => by show s8 0 q = s 0 q; rw [f8 0 (by omega) (by omega) (by omega)]⟩
  · obtain ⟨s', e, f⟩ := this
    exact ⟨s', e8, e, f⟩
  · rintro f i ⟨p, s'⟩ hi ⟨h1, ⟨ru, h2⟩, h3⟩
    right
    try dsimp only at h1 h2 h3 ⊢
    have hK : KOk n k (up2 (Kof m) 0 1 (nI i)) := ok.ch (fun a ha => up2_row (by omega)) (by rw [up2_el, if_neg (by omega)]; exact ok.2.2.1)
    obtain ⟨s2, e2, r2⟩ := run_coin (G := G) (o := 27) (h := 4) (-1) (by omega) (by omega) (Or.inr rfl) (h2.ru (v := nI i)) (hg.ch (fun a ha => up2_row (by omega))) hK (by unfold RainOk at hra; rw [up2_el, if_neg (by omega)]; exact hra) (by rw [up2_row (by omega), h3.1 7 (by omega) (by unfold pOth pTri; omega)]; exact h7)
    refine ⟨(bsF c p i, s2), ?_, ?_, ⟨nI i, ?_⟩, ⟨?_, ?_⟩⟩
    · rw [CT_bestRule_40, if_neg (show ¬ (2 : Int32) < nI i by rw [show (2 : Int32) = nI 2 from by decide, nI_lt_iff (by omega) (by omega)]; omega), e2, bnd_s, hc i hi]
      unfold CT_bestRule_84 bsF
      rw [nI_s]
      by_cases q : c (nI i) ≤ p.2
      · rw [if_pos q, if_pos q]
      · rw [if_neg q, if_neg q]
    · rw [List.range_succ, List.foldl_append, ← h1]
      rfl
    · refine (h2.ru (v := nI i)).fr ?_ ?_ ?_
      · exact r2 4 (by omega)
      · exact r2 5 (by omega)
      · exact r2 6 (by omega)
    · intro a ha hp
      show s2 a = s a
      rw [r2 a (by unfold pOth pTri at hp; omega), up2_row (by unfold pOth at hp; omega)]
      exact h3.1 a ha hp
    · intro q hq
      show s2 0 q = s 0 q
      rw [r2 0 (by omega), up2_row (by omega)]
      exact h3.2 q hq
  · rintro f ⟨p, s'⟩ ⟨h1, h2, h3⟩
    try dsimp only at h1 h2 h3 ⊢
    refine ⟨s', ?_, h3⟩
    rw [CT_bestRule_40, if_pos (by decide), h1]
    unfold CT_bestRule_99
    split <;> rfl
theorem bestM {G : GG} {s m : SS} {n k : Nat} (h : Cfg G s m n k) (c : Int32 → Int32) (hc : ∀ i, i < 3 → coinK n k (up2 (Kof m) 0 1 (nI i)) (-1) = c (nI i)) (x : Int32) : ∃ m', M_bestRule_29 fuel x 0 (-1) 0 m = some (if x = 0 then ((List.range 3).foldl (bsF c) (0, -1)).1 else ((List.range 3).foldl (bsF c) (0, -1)).2, m') ∧ FM m m' := by
  have ok := h.2.2.2.2.1
  refine loopQ 3 (fun f i (st : (Int32 × Int32) × SS) => M_bestRule_29 f x st.1.1 st.1.2 (nI i) st.2) (fun i st => st.1 = (List.range i).foldl (bsF c) (0, -1) ∧ FM m st.2) (fun r => ∃ m', r = some (if x = 0 then ((List.range 3).foldl (bsF c) (0, -1)).1 else ((List.range 3).foldl (bsF c) (0, -1)).2, m') ∧ FM m m') ?_ ?_ fuel 0 ((0, -1), m) (by omega) (by have := fuel_big; omega) ⟨rfl, FM.rf m⟩
  · rintro f i ⟨p, m'⟩ hi ⟨h1, h2⟩
    right
    try dsimp only at h1 h2 ⊢
    have hK : KOk n k (up2 (up2 (Kof m') 0 1 (nI i)) 0 2 (m' 0 9)) := by
      rw [h2.kof]
      refine ok.ch (fun a ha => by rw [up2_row (by omega), up2_row (by omega)]) ?_
      rw [up2_at, h2.2 9 (by omega)]
      exact ok.2.2.1
    obtain ⟨m2, e2, g2⟩ := coinBy_ev (h.fm h2) (nI i) (m' 0 9) hK
    rw [up2_sm (up2 (Kof m') 0 1 (nI i)) 0 2 (m' 0 9) (by rw [up2_el, if_neg (by omega)]; rfl), h2.kof] at e2
    refine ⟨(bsF c p i, m2), ?_, ?_, h2.tr g2⟩
    · rw [M_bestRule_29, if_neg (show ¬ (3 : Int32) ≤ nI i by rw [show (3 : Int32) = nI 3 from by decide]; exact le_no hi (by omega)), e2, bnd_s, hc i hi]
      unfold M_bestRule_59 bsF
      rw [nI_s]
      by_cases q : c (nI i) ≤ p.2
      · rw [if_pos q, if_pos q]
      · rw [if_neg q, if_neg q]
    · rw [List.range_succ, List.foldl_append, ← h1]
      rfl
  · rintro f ⟨p, m'⟩ ⟨h1, h2⟩
    try dsimp only at h1 h2 ⊢
    refine ⟨m', ?_, h2⟩
    rw [M_bestRule_29, if_pos (by decide), h1]
    unfold M_bestRule_74
    split <;> rfl
theorem bestRule_ev {G : GG} {s m : SS} {n k : Nat} (h : Cfg G s m n k) (hj : nb (s 1 6) = true) (x : Int32) : ∃ r s' m', CT_bestRule G s x = some (r, s') ∧ M_bestRule m x = some (r, m') ∧ FC pOth NO s s' ∧ FM m m' := by
  obtain ⟨n1, n2⟩ := none_iff h
  unfold CT_bestRule M_bestRule CT_bestRule_9
  simp only [noCafe_ev, isCafe_ev, bnd_s, within_ev, bnd0_s, wi]
  by_cases a1 : x < 0
  · exact ⟨-2, s, m, by simp [a1], by simp [a1], FC.rf _ _ s, FM.rf m⟩
  by_cases a2 : ¬ x ≤ 1
  · have a2' : 1 < x := by rw [i_lt]; rw [i_le] at a2; omega
    exact ⟨-2, s, m, by simp [a1, a2], by simp [a1, a2'], FC.rf _ _ s, FM.rf m⟩
  have a2 := Classical.not_not.mp a2
  have a2' : ¬ 1 < x := by rw [i_lt]; rw [i_le] at a2; omega
  by_cases z : n = 0
  · exact ⟨-3, s, m, by simp [a1, a2, n1.mpr z], by simp [a1, a2', n2.mpr z], FC.rf _ _ s, FM.rf m⟩
  have z1 : ¬ s 1 2 = 0 := fun w => z (n1.mp w)
  have z2 : ¬ m 0 5 ≤ 0 := fun w => z (n2.mp w)
  obtain ⟨c, hc⟩ : ∃ c : Int32 → Int32, ∀ i, i < 3 → coinK n k (up2 (Kof m) 0 1 (nI i)) (-1) = c (nI i) := ⟨fun v => coinK n k (up2 (Kof m) 0 1 v) (-1), fun i _ => rfl⟩
  obtain ⟨s8, s', e1, e2, f⟩ := bestC h hj c hc x
  obtain ⟨m', e3, g⟩ := bestM h c hc x
  exact ⟨_, s', m', by rw [if_neg a1, if_pos a2, if_neg z1, if_pos rfl, e1, bnd0_s, e2], by rw [if_neg (by simp [a1, a2']), if_neg z2, if_neg (by decide), e3], f, g⟩
def CoinsOk (s m : SS) (n k : Nat) : Prop := ∀ v, v < 31 → s 43 v = coinK n k (up2 (Kof m) 0 2 (nI v)) (-1)
def COk (s m : SS) (n k : Nat) : Prop := s 0 13 = 0 ∨ (s 0 13 = 1 ∧ CoinsOk s m n k)
def pCoi (a : Nat) : Prop := pOth a ∨ a = 43
theorem coins_rk {G : GG} {s m : SS} {n k : Nat} (h : Cfg G s m n k) (hj : nb (s 1 6) = true) (hc : COk s m n k) : ∃ s', CT_reckonCoins G s = some s' ∧ FC pCoi (fun c => c = 13) s s' ∧ s' 0 13 = 1 ∧ CoinsOk s' m n k := by
  unfold CT_reckonCoins
  rcases hc with e | ⟨e, hc⟩
  · rw [if_pos e]
    obtain ⟨-, -, -, h7, ok, hC, hg, hra⟩ := h
    obtain ⟨s8, e8, c8, f8⟩ := copyH_ev (G := G) hC ok.1 hj
    rw [e8, bnd0_s]
    refine loopQ 31 (fun f i s' => CT_reckonCoins_21 G f (nI i) s') (fun i s' => (∃ pa, CBh 4 n (up2 (Kof m) 0 2 pa) s') ∧ FC pCoi NO s s' ∧ ∀ v, v < i → s' 43 v = coinK n k (up2 (Kof m) 0 2 (nI v)) (-1)) (fun r => ∃ s', r = some s' ∧ FC pCoi (fun c => c = 13) s s' ∧ s' 0 13 = 1 ∧ CoinsOk s' m n k) ?_ ?_ fuel 0 s8 (by omega) (by have := fuel_big; omega) ⟨⟨Kof m 0 2, by rw [up2_sm _ _ _ _ rfl]; exact c8⟩, ⟨fun a _ hp => f8 a (fun z => hp (Or.inl (Or.inl (by omega)))) (fun z => hp (Or.inl (Or.inl (by omega)))) (fun z => hp (Or.inl (Or.inl (by omega)))), fun c _ => by rw [f8 0 (by omega) (by omega) (by omega)]⟩, fun v hv => by omega⟩
    · rintro f i s' hi ⟨⟨pa, h2⟩, h3, h4⟩
      right
      have hK : KOk n k (up2 (Kof m) 0 2 (nI i)) := ok.ch (fun a ha => up2_row (by omega)) (by rw [up2_at, nI_T (by omega)]; omega)
      obtain ⟨s2, e2, r2⟩ := run_coin (G := G) (o := 27) (h := 4) (-1) (by omega) (by omega) (Or.inr rfl) (h2.pa (v := nI i)) (hg.ch (fun a ha => up2_row (by omega))) hK (by unfold RainOk at hra; rw [up2_el, if_neg (by omega)]; exact hra) (by rw [up2_row (by omega), h3.1 7 (by omega) (by unfold pCoi pOth pTri; omega)]; exact h7)
      refine ⟨_, by try dsimp only
                    rw [CT_reckonCoins_21, if_neg (show ¬ (30 : Int32) < nI i by rw [show (30 : Int32) = nI 30 from by decide, nI_lt_iff (by omega) (by omega)]; omega), e2, bnd_s, if_pos (inb_nI hi (by omega)), cl_nI (by omega), nI_s], ⟨nI i, ?_⟩, ⟨?_, ?_⟩, ?_⟩
      · refine (h2.pa (v := nI i)).fr ?_ ?_ ?_
        · rw [up2_row (by omega)]; exact r2 4 (by omega)
        · rw [up2_row (by omega)]; exact r2 5 (by omega)
        · rw [up2_row (by omega)]; exact r2 6 (by omega)
      · intro a ha hp
        rw [up2_row (fun z => hp (Or.inr z)), r2 a (by unfold pCoi pOth pTri at hp; omega), up2_row (by unfold pCoi pOth at hp; omega)]
        exact h3.1 a ha hp
      · intro c hc
        rw [up2_row (by omega), r2 0 (by omega), up2_row (by omega)]
        exact h3.2 c hc
      · intro v hv
        by_cases z : v = i
        · subst z; rw [up2_at]
        · rw [up2_el, if_neg (fun w => z w.2), r2 43 (by omega), up2_row (by omega)]
          exact h4 v (by omega)
    · rintro f s' ⟨h2, h3, h4⟩
      try dsimp only
      rw [CT_reckonCoins_21, if_pos (by decide), nb1, if_pos rfl]
      refine ⟨_, rfl, ⟨?_, ?_⟩, up2_at .., ?_⟩
      · intro a ha hp
        rw [up2_row (by omega)]; exact h3.1 a ha hp
      · intro c hc
        rw [up2_el, if_neg (fun z => hc z.2)]
        exact h3.2 c (fun z => z)
      · intro v hv
        rw [up2_row (by omega)]; exact h4 v hv
  · rw [if_neg (by rw [e]; decide)]
    exact ⟨s, rfl, FC.rf _ _ s, e, hc⟩
def tlF (c : Int32 → Int32) (w : Int32) (p : Int32 × Int32 × Int32) (v : Nat) : Int32 × Int32 × Int32 := if c (nI v) = w then (p.1 + 1, (if p.2.1 = -9 then nI v else p.2.1), nI v) else p
def tlR (y : Int32) (p : Int32 × Int32 × Int32) : Int32 := if y = 0 then p.1 else if y = 1 then p.2.1 else p.2.2
theorem tillC {G : GG} {s : SS} (c : Int32 → Int32) (hc : ∀ i, i < 31 → s 43 i = c (nI i)) (x y : Int32) : CT_till_39 G fuel x y 0 (-9) (-9) 0 s = some (tlR y ((List.range 31).foldl (tlF c x) (0, -9, -9)), s) := by
  refine loopQ 31 (fun f i (p : Int32 × Int32 × Int32) => CT_till_39 G f x y p.1 p.2.1 p.2.2 (nI i) s) (fun i p => p = (List.range i).foldl (tlF c x) (0, -9, -9)) (fun r => r = some (tlR y ((List.range 31).foldl (tlF c x) (0, -9, -9)), s)) ?_ ?_ fuel 0 (0, -9, -9) (by omega) (by have := fuel_big; omega) rfl
  · intro f i p hi hp
    right
    refine ⟨tlF c x p i, ?_, by rw [hp, List.range_succ, List.foldl_append]; rfl⟩
    try dsimp only
    rw [CT_till_39, if_neg (show ¬ (30 : Int32) < nI i by rw [show (30 : Int32) = nI 30 from by decide, nI_lt_iff (by omega) (by omega)]; omega), if_pos (inb_nI hi (by omega)), cl_nI (by omega), hc i hi]
    unfold CT_till_74 CT_till_80 tlF
    rw [nI_s]
    by_cases q : c (nI i) = x
    · rw [if_pos q, if_pos q]
      by_cases q2 : p.2.1 = -9
      · simp only [if_pos q2]
      · simp only [if_neg q2]
    · rw [if_neg q, if_neg q]
  · intro f p hp
    try dsimp only
    rw [CT_till_39, if_pos (by decide), hp]
    unfold CT_till_104 tlR
    repeat' split
    all_goals rfl
theorem tillM {G : GG} {s m : SS} {n k : Nat} (h : Cfg G s m n k) (c : Int32 → Int32) (hc : ∀ i, i < 31 → coinK n k (up2 (Kof m) 0 2 (nI i)) (-1) = c (nI i)) (x y : Int32) : ∃ m', M_till_35 fuel x y 0 (-9) (-9) 0 m = some (tlR y ((List.range 31).foldl (tlF c x) (0, -9, -9)), m') ∧ FM m m' := by
  have ok := h.2.2.2.2.1
  refine loopQ 31 (fun f i (st : (Int32 × Int32 × Int32) × SS) => M_till_35 f x y st.1.1 st.1.2.1 st.1.2.2 (nI i) st.2) (fun i st => st.1 = (List.range i).foldl (tlF c x) (0, -9, -9) ∧ FM m st.2) (fun r => ∃ m', r = some (tlR y ((List.range 31).foldl (tlF c x) (0, -9, -9)), m') ∧ FM m m') ?_ ?_ fuel 0 ((0, -9, -9), m) (by omega) (by have := fuel_big; omega) ⟨rfl, FM.rf m⟩
  · rintro f i ⟨p, m'⟩ hi ⟨h1, h2⟩
    right
    try dsimp only at h1 h2 ⊢
    have hK : KOk n k (up2 (up2 (Kof m') 0 1 (m' 0 8)) 0 2 (nI i)) := by
      rw [h2.kof]
      refine ok.ch (fun a ha => by rw [up2_row (by omega), up2_row (by omega)]) ?_
      rw [up2_at, nI_T (by omega)]; omega
    obtain ⟨m2, e2, g2⟩ := coinBy_ev (h.fm h2) (m' 0 8) (nI i) hK
    rw [up2_sm (Kof m') 0 1 (m' 0 8) rfl, h2.kof] at e2
    refine ⟨(tlF c x p i, m2), ?_, ?_, h2.tr g2⟩
    · rw [M_till_35, if_neg (show ¬ (30 : Int32) < nI i by rw [show (30 : Int32) = nI 30 from by decide, nI_lt_iff (by omega) (by omega)]; omega), e2, bnd_s, hc i hi]
      unfold M_till_73 M_till_79 tlF
      rw [nI_s]
      by_cases q : c (nI i) = x
      · rw [if_pos q, if_pos q]
        by_cases q2 : p.2.1 = -9
        · simp only [if_pos q2]
        · simp only [if_neg q2]
      · rw [if_neg q, if_neg q]
    · rw [List.range_succ, List.foldl_append, ← h1]
      rfl
  · rintro f ⟨p, m'⟩ ⟨h1, h2⟩
    try dsimp only at h1 h2 ⊢
    refine ⟨m', ?_, h2⟩
    rw [M_till_35, if_pos (by decide), h1]
    unfold M_till_105 tlR
    repeat' split
    all_goals rfl
theorem till_ev {G : GG} {s m : SS} {n k : Nat} (h : Cfg G s m n k) (hj : nb (s 1 6) = true) (hc : COk s m n k) (x y : Int32) : ∃ r s' m', CT_till G s x y = some (r, s') ∧ M_till m x y = some (r, m') ∧ FC pCoi (fun c => c = 13) s s' ∧ FM m m' ∧ COk s' m n k := by
  obtain ⟨n1, n2⟩ := none_iff h
  unfold CT_till M_till CT_till_9
  simp only [noCafe_ev, isCafe_ev, bnd_s, within_ev, bnd0_s, wi]
  by_cases a1 : y < 0
  · exact ⟨-2, s, m, by simp [a1], by simp [a1], FC.rf _ _ s, FM.rf m, hc⟩
  by_cases a2 : ¬ y ≤ 2
  · have a2' : 2 < y := by rw [i_lt]; rw [i_le] at a2; omega
    exact ⟨-2, s, m, by simp [a1, a2], by simp [a1, a2'], FC.rf _ _ s, FM.rf m, hc⟩
  have a2 := Classical.not_not.mp a2
  have a2' : ¬ 2 < y := by rw [i_lt]; rw [i_le] at a2; omega
  by_cases z : n = 0
  · exact ⟨-3, s, m, by simp [a1, a2, n1.mpr z], by simp [a1, a2', n2.mpr z], FC.rf _ _ s, FM.rf m, hc⟩
  have z1 : ¬ s 1 2 = 0 := fun w => z (n1.mp w)
  have z2 : ¬ m 0 5 ≤ 0 := fun w => z (n2.mp w)
  obtain ⟨s', e1, f1, f2, f3⟩ := coins_rk h hj hc
  obtain ⟨c, hc2⟩ : ∃ c : Int32 → Int32, ∀ i, i < 31 → coinK n k (up2 (Kof m) 0 2 (nI i)) (-1) = c (nI i) := ⟨fun v => coinK n k (up2 (Kof m) 0 2 v) (-1), fun i _ => rfl⟩
  obtain ⟨m', e3, g⟩ := tillM h c hc2 x y
  exact ⟨_, s', m', by rw [if_neg a1, if_pos a2, if_neg z1, if_pos rfl, e1, bnd0_s, tillC c (fun i hi => (f3 i hi).trans (hc2 i hi))], by rw [if_neg (by simp [a1, a2']), if_neg z2, if_neg (by decide), e3], f1, g, Or.inr ⟨f2, f3⟩⟩
def biF (c : Nat → Int32) : Nat → Nat
  | 0 => 0
  | i + 1 => if c (i + 1) ≤ c (biF c i) then biF c i else i + 1
theorem biF_le (c : Nat → Int32) : ∀ i, biF c i ≤ i
  | 0 => Nat.le_refl 0
  | i + 1 => by
    rw [biF]
    split
    · have := biF_le c i; omega
    · omega
theorem waitC {G : GG} {s : SS} (x : Int32) : CT_waiting_30 G fuel x 0 1 s = some (if x = 0 then nI (biF (s 43) 30) else s 43 (biF (s 43) 30), s) := by
  have := loopQ 30 (fun f i (p : Nat) => CT_waiting_30 G f x (nI p) (nI (i + 1)) s) (fun i p => p = biF (s 43) i) (fun r => r = some (if x = 0 then nI (biF (s 43) 30) else s 43 (biF (s 43) 30), s)) ?_ ?_ fuel 0 0 (by omega) (by have := fuel_big; omega) rfl
  · exact this
  · intro f i p hi hp
    right
    have hb := biF_le (s 43) i
    refine ⟨biF (s 43) (i + 1), ?_, rfl⟩
    try dsimp only
    rw [CT_waiting_30, if_neg (show ¬ (30 : Int32) < nI (i + 1) by rw [show (30 : Int32) = nI 30 from by decide, nI_lt_iff (by omega) (by omega)]; omega), if_pos (inb_nI (by omega) (by omega)), if_pos (inb_nI (by omega) (by omega)), cl_nI (by omega), cl_nI (by omega), hp, biF]
    unfold CT_waiting_53
    by_cases q : s 43 (i + 1) ≤ s 43 (biF (s 43) i)
    · rw [if_pos q, if_pos q, nI_s]
    · rw [if_neg q, if_neg q, nI_s]
  · intro f p hp
    have hb := biF_le (s 43) 30
    try dsimp only
    rw [CT_waiting_30, if_pos (by decide), if_pos (inb_nI (by omega) (by omega)), cl_nI (by omega), hp]
    unfold CT_waiting_73
    split <;> rfl
theorem waitM2 {G : GG} {s m : SS} {n k : Nat} (h : Cfg G s m n k) (c : Int32 → Int32) (hc : ∀ i, i < 31 → coinK n k (up2 (Kof m) 0 2 (nI i)) (-1) = c (nI i)) (x : Int32) : ∃ m', M_waiting_29 fuel x 0 (-1) 0 m = some (if x = 0 then ((List.range 31).foldl (bsF c) (0, -1)).1 else ((List.range 31).foldl (bsF c) (0, -1)).2, m') ∧ FM m m' := by
  have ok := h.2.2.2.2.1
  refine loopQ 31 (fun f i (st : (Int32 × Int32) × SS) => M_waiting_29 f x st.1.1 st.1.2 (nI i) st.2) (fun i st => st.1 = (List.range i).foldl (bsF c) (0, -1) ∧ FM m st.2) (fun r => ∃ m', r = some (if x = 0 then ((List.range 31).foldl (bsF c) (0, -1)).1 else ((List.range 31).foldl (bsF c) (0, -1)).2, m') ∧ FM m m') ?_ ?_ fuel 0 ((0, -1), m) (by omega) (by have := fuel_big; omega) ⟨rfl, FM.rf m⟩
  · rintro f i ⟨p, m'⟩ hi ⟨h1, h2⟩
    right
    try dsimp only at h1 h2 ⊢
    have hK : KOk n k (up2 (up2 (Kof m') 0 1 (m' 0 8)) 0 2 (nI i)) := by
      rw [h2.kof]
      refine ok.ch (fun a ha => by rw [up2_row (by omega), up2_row (by omega)]) ?_
      rw [up2_at, nI_T (by omega)]; omega
    obtain ⟨m2, e2, g2⟩ := coinBy_ev (h.fm h2) (m' 0 8) (nI i) hK
    rw [up2_sm (Kof m') 0 1 (m' 0 8) rfl, h2.kof] at e2
    refine ⟨(bsF c p i, m2), ?_, ?_, h2.tr g2⟩
    · rw [M_waiting_29, if_neg (show ¬ (30 : Int32) < nI i by rw [show (30 : Int32) = nI 30 from by decide, nI_lt_iff (by omega) (by omega)]; omega), e2, bnd_s, hc i hi]
      unfold M_waiting_60 bsF
      rw [nI_s]
      by_cases q : c (nI i) ≤ p.2
      · rw [if_pos q, if_pos q]
      · rw [if_neg q, if_neg q]
    · rw [List.range_succ, List.foldl_append, ← h1]
      rfl
  · rintro f ⟨p, m'⟩ ⟨h1, h2⟩
    try dsimp only at h1 h2 ⊢
    refine ⟨m', ?_, h2⟩
    rw [M_waiting_29, if_pos (by decide), h1]
    unfold M_waiting_75
    split <;> rfl
theorem bs_bi {c : Int32 → Int32} (h0 : ¬ c (nI 0) ≤ -1) : ∀ i, (List.range (i + 1)).foldl (bsF c) (0, -1) = (nI (biF (fun v => c (nI v)) i), c (nI (biF (fun v => c (nI v)) i)))
  | 0 => by
    show bsF c (0, -1) 0 = _
    unfold bsF
    rw [if_neg h0]
    rfl
  | i + 1 => by
    rw [List.range_succ, List.foldl_append, bs_bi h0 i]
    show bsF c _ (i + 1) = _
    unfold bsF
    rw [biF]
    by_cases q : c (nI (i + 1)) ≤ c (nI (biF (fun v => c (nI v)) i))
    · rw [if_pos q, if_pos q]
    · rw [if_neg q, if_neg q]
theorem biF_same {c d : Nat → Int32} : ∀ i, (∀ v, v ≤ i → c v = d v) → biF c i = biF d i
  | 0, _ => rfl
  | i + 1, h => by
    rw [biF, biF, biF_same i (fun v hv => h v (by omega)), h (i + 1) (by omega), h (biF d i) (by have := biF_le d i; omega)]
theorem waiting_ev {G : GG} {s m : SS} {n k : Nat} (h : Cfg G s m n k) (hj : nb (s 1 6) = true) (hc : COk s m n k) (x : Int32) : ∃ r s' m', CT_waiting G s x = some (r, s') ∧ M_waiting m x = some (r, m') ∧ FC pCoi (fun c => c = 13) s s' ∧ FM m m' ∧ COk s' m n k := by
  obtain ⟨n1, n2⟩ := none_iff h
  have ok := h.2.2.2.2.1
  unfold CT_waiting M_waiting CT_waiting_9
  simp only [noCafe_ev, isCafe_ev, bnd_s, within_ev, bnd0_s, wi]
  by_cases a1 : x < 0
  · exact ⟨-2, s, m, by simp [a1], by simp [a1], FC.rf _ _ s, FM.rf m, hc⟩
  by_cases a2 : ¬ x ≤ 1
  · have a2' : 1 < x := by rw [i_lt]; rw [i_le] at a2; omega
    exact ⟨-2, s, m, by simp [a1, a2], by simp [a1, a2'], FC.rf _ _ s, FM.rf m, hc⟩
  have a2 := Classical.not_not.mp a2
  have a2' : ¬ 1 < x := by rw [i_lt]; rw [i_le] at a2; omega
  by_cases z : n = 0
  · exact ⟨-3, s, m, by simp [a1, a2, n1.mpr z], by simp [a1, a2', n2.mpr z], FC.rf _ _ s, FM.rf m, hc⟩
  have z1 : ¬ s 1 2 = 0 := fun w => z (n1.mp w)
  have z2 : ¬ m 0 5 ≤ 0 := fun w => z (n2.mp w)
  obtain ⟨s', e1, f1, f2, f3⟩ := coins_rk h hj hc
  obtain ⟨c, hc2⟩ : ∃ c : Int32 → Int32, ∀ i, i < 31 → coinK n k (up2 (Kof m) 0 2 (nI i)) (-1) = c (nI i) := ⟨fun v => coinK n k (up2 (Kof m) 0 2 v) (-1), fun i _ => rfl⟩
  obtain ⟨m', e3, g⟩ := waitM2 h c hc2 x
  have hK0 : KOk n k (up2 (Kof m) 0 2 (nI 0)) := ok.ch (fun a ha => up2_row (by omega)) (by rw [up2_at, nI_T (by omega)]; omega)
  obtain ⟨Z, hZ, eZ⟩ := coinK_b hK0 (-1)
  have h0 : ¬ c (nI 0) ≤ -1 := by
    rw [← hc2 0 (by omega), eZ, i_le, nI_T (by omega), tm1]; omega
  rw [bs_bi h0 30] at e3
  have fc : ∀ v, v < 31 → s' 43 v = c (nI v) := fun v hv => (f3 v hv).trans (hc2 v hv)
  have eb : biF (s' 43) 30 = biF (fun v => c (nI v)) 30 := biF_same 30 (fun v hv => fc v (by omega))
  have wc := waitC (G := G) (s := s') x
  rw [eb, fc _ (by have := biF_le (fun v => c (nI v)) 30; omega)] at wc
  exact ⟨_, s', m', by rw [if_neg a1, if_pos a2, if_neg z1, if_pos rfl, e1, bnd0_s, wc], by rw [if_neg (by simp [a1, a2']), if_neg z2, if_neg (by decide), e3], f1, g, Or.inr ⟨f2, f3⟩⟩
