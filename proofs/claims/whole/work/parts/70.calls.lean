/-! the calls that ask the day -/
def FC (P Z : Nat → Prop) (s s' : SS) : Prop := (∀ a, 1 ≤ a → ¬ P a → s' a = s a) ∧ ∀ c, ¬ Z c → s' 0 c = s 0 c
def NO (_ : Nat) : Prop := False
def pDay (a : Nat) : Prop := 19 ≤ a ∧ a ≤ 26
def pTri (a : Nat) : Prop := 27 ≤ a ∧ a ≤ 34
theorem FC.rf (P Z : Nat → Prop) (s : SS) : FC P Z s s := ⟨fun _ _ _ => rfl, fun _ _ => rfl⟩
theorem lay_self {o : Nat} {s D : SS} (h1 : s (o + 1) = D 1) (h2 : s (o + 2) = D 2) (h3 : s (o + 3) = D 3) (h4 : s (o + 4) = D 4) (h5 : s (o + 5) = D 5) (h7 : s (o + 7) = D 7) : s = lay o s D := by
  funext a
  unfold lay
  repeat' split
  all_goals first | rfl | (rename_i e; subst e; first | exact h1 | exact h2 | exact h3 | exact h4 | exact h5 | exact h7)
theorem CB.same {G : GG} {o h n k : Nat} {K b b' : SS} {L : List Nat} (hb : CB G o h n k K L b) (e0 : b' o = b o) (e1 : b' h = b h) (e2 : b' (h + 1) = b (h + 1)) (e3 : b' (h + 2) = b (h + 2)) (e6 : b' (o + 6) = b (o + 6)) : CB G o h n k K L b' := by
  unfold CB CBh at hb ⊢
  rw [e0, e1, e2, e3, e6]
  exact hb
def DayOk (G : GG) (s m : SS) (n k : Nat) : Prop := ∃ D0, Init k D0 ∧ CB G 19 1 n k (Kof m) (ordL (Kof m) (-1) k) s ∧ s = lay 19 s (itD n (Kof m) (ordL (Kof m) (-1) k) D0 400)
theorem DayOk.fr {G : GG} {s s' m : SS} {n k : Nat} (h : DayOk G s m n k) (hs : ∀ a, 19 ≤ a → a ≤ 26 → s' a = s a) (h1 : s' 1 = s 1) (h2 : s' 2 = s 2) (h3 : s' 3 = s 3) : DayOk G s' m n k := by
  obtain ⟨D0, h0, hb, e⟩ := h
  have r : ∀ j, s (19 + j) = lay 19 s (itD n (Kof m) (ordL (Kof m) (-1) k) D0 400) (19 + j) := fun j => by rw [← e]
  refine ⟨D0, h0, hb.same (hs 19 (by omega) (by omega)) h1 h2 h3 (hs 25 (by omega) (by omega)), lay_self ?_ ?_ ?_ ?_ ?_ ?_⟩
  · rw [hs _ (by omega) (by omega), r, lay_1]
  · rw [hs _ (by omega) (by omega), r, lay_2]
  · rw [hs _ (by omega) (by omega), r, lay_3]
  · rw [hs _ (by omega) (by omega), r, lay_4]
  · rw [hs _ (by omega) (by omega), r, lay_5]
  · rw [hs _ (by omega) (by omega), r, lay_7]
def DOk (G : GG) (s m : SS) (n k : Nat) : Prop := s 0 11 = 0 ∨ (s 0 11 = 1 ∧ DayOk G s m n k)
theorem reckonDay_ev {G : GG} {s m : SS} {n k : Nat} (h : Cfg G s m n k) (hd : DOk G s m n k) : ∃ s', CT_reckonDay G s = some s' ∧ FC pDay (fun c => c = 11) s s' ∧ s' 0 11 = 1 ∧ DayOk G s' m n k := by
  unfold CT_reckonDay CT_reckonDay_28
  obtain ⟨-, -, -, h7, ok, hC, hg, hra⟩ := h
  rcases hd with e | ⟨e, hd⟩
  · rw [if_pos e]
    obtain ⟨f, D0, h0, hb, er⟩ := run_ev (G := G) (o := 19) (h := 1) (-1) (by omega) (by omega) (Or.inl rfl) hC hg ok hra h7 (show 399 < 400 by omega)
    rw [show (399 : Int32) = nI 399 from by decide, er, bnd_s, nb1, if_pos rfl]
    refine ⟨_, rfl, ⟨?_, ?_⟩, up2_at .., D0, h0, ?_, ?_⟩
    · intro a h1 hp
      unfold pDay at hp
      rw [up2_row (by omega), lay_fr (by omega)]
    · intro c hc
      rw [up2_el, if_neg (fun z => hc z.2), lay_fr (by omega)]
    · refine hb.same ?_ ?_ ?_ ?_ ?_
      · rw [up2_row (by omega), lay_o]
      · rw [up2_row (by omega), lay_lo _ _ (by omega)]
      · rw [up2_row (by omega), lay_lo _ _ (by omega)]
      · rw [up2_row (by omega), lay_lo _ _ (by omega)]
      · rw [up2_row (by omega), lay_6]
    · apply lay_self
      · rw [up2_row (by omega), lay_1]
      · rw [up2_row (by omega), lay_2]
      · rw [up2_row (by omega), lay_3]
      · rw [up2_row (by omega), lay_4]
      · rw [up2_row (by omega), lay_5]
      · rw [up2_row (by omega), lay_7]
  · rw [if_neg (by rw [e]; decide)]
    exact ⟨s, rfl, FC.rf _ _ s, e, hd⟩
theorem day_ev {G : GG} {s m : SS} {n k : Nat} (h : Cfg G s m n k) (hR : RGr G s m) (hd : DOk G s m n k) (x y : Int32) : ∃ r s' m', CT_day G s x y = some (r, s') ∧ M_day m x y = some (r, m') ∧ FC pDay (fun c => c = 11) s s' ∧ FM m m' ∧ DOk G s' m n k := by
  rcases grp_cases x hR with ⟨h1, h2⟩ | ⟨j, a, hx, hj8, hb, hcl, hg, hm, h1, h2, -⟩
  · refine ⟨-1, s, m, ?_, ?_, FC.rf _ _ s, FM.rf m, hd⟩
    · unfold CT_day; simp [h1, bnd_s, oc]
    · unfold M_day; simp [h2, bnd_s]
  · have hjk : j < k := by
      obtain ⟨k', hk', g1, g2, -⟩ := hR
      have e1 := h.2.1
      have hk8 := h.2.2.2.2.1.2.1
      have : k' = k := by rw [g2, nI_eq_iff (by omega) (by omega)] at e1; exact e1
      subst this
      unfold M_isGroup at h2
      rw [g2, hx] at h2
      by_cases z : j < k'
      · exact z
      · exfalso
        rw [if_neg (nI_n0 (by omega)), if_pos (le_ye (by omega) (by omega))] at h2
        unfold M_isGroup_16 M_isGroup_17 at h2
        rw [nb0, if_pos rfl] at h2
        injection h2 with h2
        injection h2 with h2
        exact absurd h2 (by decide)
    by_cases y0 : y < 0
    · refine ⟨-2, s, m, ?_, ?_, FC.rf _ _ s, FM.rf m, hd⟩
      · unfold CT_day CT_day_24; simp [h1, bnd_s, oc, hm, y0]
      · unfold M_day; simp [h2, bnd_s, bnd0_s, within_ev, y0]
    by_cases y5 : ¬ y ≤ 5
    · have y5' : 5 < y := by rw [i_lt]; rw [i_le] at y5; omega
      refine ⟨-2, s, m, ?_, ?_, FC.rf _ _ s, FM.rf m, hd⟩
      · unfold CT_day CT_day_24; simp [h1, bnd_s, oc, hm, y0, y5]
      · unfold M_day; simp [h2, bnd_s, bnd0_s, within_ev, y0, y5']
    have y5 := Classical.not_not.mp y5
    have y5' : ¬ 5 < y := by rw [i_lt]; rw [i_le] at y5; omega
    obtain ⟨s', e1, f1, f2, f3⟩ := reckonDay_ev h hd
    have f3' := f3
    obtain ⟨D0, h0, hB, eL⟩ := f3
    obtain ⟨m', e2, g1, ⟨b', g2⟩, -, -⟩ := coinNow_ev h h0
    have ok := h.2.2.2.2.1
    obtain ⟨r1, r2, r3, r4, r5, r6, -⟩ := g2.2.2 j hjk
    have en := it_end (lo := -1) ok h0 hjk
    have ec := end_coin ok h0 g2 hjk
    have hE := it_E ok (fun g => ordL_mem (lo := -1) ok.ck) h0 399 (by omega)
    have p6 := (hE.1.1 j hjk).2.2.2.2.2.1
    have cO := coinOf_ev hB (itD n (Kof m) (ordL (Kof m) (-1) k) D0 400) hjk
    rw [← eL] at cO
    have q1 : s' 20 j = itD n (Kof m) (ordL (Kof m) (-1) k) D0 400 1 j := by rw [eL]; exact congrFun (lay_1 ..) j
    have q2 : s' 21 j = itD n (Kof m) (ordL (Kof m) (-1) k) D0 400 2 j := by rw [eL]; exact congrFun (lay_2 ..) j
    have q3 : s' 22 j = itD n (Kof m) (ordL (Kof m) (-1) k) D0 400 3 j := by rw [eL]; exact congrFun (lay_3 ..) j
    have q4 : s' 23 j = itD n (Kof m) (ordL (Kof m) (-1) k) D0 400 4 j := by rw [eL]; exact congrFun (lay_4 ..) j
    have q5 : s' 24 j = itD n (Kof m) (ordL (Kof m) (-1) k) D0 400 5 j := by rw [eL]; exact congrFun (lay_5 ..) j
    rw [← hx] at cO
    have C : ∀ r, (if y = 0 then (if inb x 8 = true then some ((s' 20 x.toNatClampNeg), s') else none) else if y = 1 then (if inb x 8 = true then some ((s' 21 x.toNatClampNeg), s') else none) else if y = 2 then (if inb x 8 = true then some ((s' 22 x.toNatClampNeg), s') else none) else if y = 3 then (if inb x 8 = true then some ((s' 23 x.toNatClampNeg), s') else none) else if y = 4 then (bnd (CD_coinOf G 19 s' x) (fun r21 s20 => some (r21, s20))) else (if inb x 8 = true then some ((s' 24 x.toNatClampNeg), s') else none)) = some (r, s') → CT_day G s x y = some (r, s') := by
      intro r hr
      unfold CT_day
      simp only [h1, bnd_s, oc, hm, if_true, if_neg y0, if_pos y5, e1, bnd0_s]
      exact hr
    have M : ∀ r, (if y = 0 then (if inb x 8 = true then (if (m' 32 x.toNatClampNeg) = (3 : Int32) then M_day_93 (1 : Int32) m' else (if inb x 8 = true then (if (m' 32 x.toNatClampNeg) = (4 : Int32) then M_day_93 (2 : Int32) m' else M_day_93 (0 : Int32) m') else none)) else none) else (if y = (1 : Int32) then (if inb x 8 = true then some ((m' 33 x.toNatClampNeg), m') else none) else (if y = (2 : Int32) then (if inb x 8 = true then some ((m' 34 x.toNatClampNeg), m') else none) else (if y = (3 : Int32) then (if inb x 8 = true then some ((m' 35 x.toNatClampNeg), m') else none) else (if y = (4 : Int32) then (if inb x 8 = true then some ((m' 36 x.toNatClampNeg), m') else none) else (if inb x 8 = true then some ((m' 37 x.toNatClampNeg), m') else none)))))) = some (r, m') → M_day m x y = some (r, m') := by
      intro r hr
      unfold M_day
      simp only [h2, bnd_s, within_ev, bnd0_s, if_neg y0, if_neg y5', e2]
      rw [if_neg (by decide), if_neg (by decide)]
      exact hr
    rw [hcl] at C M
    by_cases c0 : y = 0
    · refine ⟨itD n (Kof m) (ordL (Kof m) (-1) k) D0 400 1 j, s', m', C _ ?_, M _ ?_, f1, g1, Or.inr ⟨f2, f3'⟩⟩
      · rw [if_pos c0, if_pos hb, q1]
      · rw [if_pos c0, if_pos hb, if_pos hb, r1]
        unfold M_day_93
        rcases p6 with z | z | z | z | z | z
        · rw [z]; rfl
        · rw [z]; rfl
        · rw [z]; rfl
        · have := en.2.2 z; exact absurd this (nI_ne1 (by omega))
        · exact absurd z en.2.1
        · exact absurd z en.1
    by_cases c1 : y = 1
    · exact ⟨_, s', m', C _ (by rw [if_neg c0, if_pos c1, if_pos hb]), M _ (by rw [if_neg c0, if_pos c1, if_pos hb, q2, r2]), f1, g1, Or.inr ⟨f2, f3'⟩⟩
    by_cases c2 : y = 2
    · exact ⟨_, s', m', C _ (by rw [if_neg c0, if_neg c1, if_pos c2, if_pos hb]), M _ (by rw [if_neg c0, if_neg c1, if_pos c2, if_pos hb, q3, r3]), f1, g1, Or.inr ⟨f2, f3'⟩⟩
    by_cases c3 : y = 3
    · exact ⟨_, s', m', C _ (by rw [if_neg c0, if_neg c1, if_neg c2, if_pos c3, if_pos hb]), M _ (by rw [if_neg c0, if_neg c1, if_neg c2, if_pos c3, if_pos hb, q4, r4]), f1, g1, Or.inr ⟨f2, f3'⟩⟩
    by_cases c4 : y = 4
    · exact ⟨_, s', m', C _ (by rw [if_neg c0, if_neg c1, if_neg c2, if_neg c3, if_pos c4, cO, bnd_s]), M _ (by rw [if_neg c0, if_neg c1, if_neg c2, if_neg c3, if_pos c4, if_pos hb, ec]), f1, g1, Or.inr ⟨f2, f3'⟩⟩
    · exact ⟨_, s', m', C _ (by rw [if_neg c0, if_neg c1, if_neg c2, if_neg c3, if_neg c4, if_pos hb]), M _ (by rw [if_neg c0, if_neg c1, if_neg c2, if_neg c3, if_neg c4, if_pos hb, q5, r6]), f1, g1, Or.inr ⟨f2, f3'⟩⟩
theorem none_iff {G : GG} {s m : SS} {n k : Nat} (h : Cfg G s m n k) : (s 1 2 = 0 ↔ n = 0) ∧ (m 0 5 ≤ 0 ↔ n = 0) := by
  have hn := h.2.2.2.2.1.1
  rw [h.1, h.2.2.1, i_eq, i_le, nI_T (by omega), t0]; omega
theorem coin_ev {G : GG} {s m : SS} {n k : Nat} (h : Cfg G s m n k) (hd : DOk G s m n k) : ∃ r s' m', CT_coin G s = some (r, s') ∧ M_coin m = some (r, m') ∧ FC pDay (fun c => c = 11) s s' ∧ FM m m' ∧ DOk G s' m n k := by
  obtain ⟨n1, n2⟩ := none_iff h
  unfold CT_coin M_coin M_coin_16
  rw [noCafe_ev, isCafe_ev, bnd_s, bnd_s]
  by_cases z : n = 0
  · rw [if_pos (n1.mpr z), if_pos (n2.mpr z), if_neg (by decide), if_pos rfl]
    exact ⟨-3, s, m, rfl, rfl, FC.rf _ _ s, FM.rf m, hd⟩
  · rw [if_neg (fun w => z (n1.mp w)), if_neg (fun w => z (n2.mp w)), if_pos rfl, if_neg (by decide)]
    obtain ⟨s', e1, f1, f2, f3⟩ := reckonDay_ev h hd
    have f3' := f3
    obtain ⟨D0, h0, hB, eL⟩ := f3
    obtain ⟨m', e2, g1, -⟩ := coinNow_ev h h0
    have cI := coins_ev hB (itD n (Kof m) (ordL (Kof m) (-1) k) D0 400)
    rw [← eL, coin_any h.2.2.2.2.1 (-1) h0] at cI
    exact ⟨_, s', m', by rw [e1, bnd0_s, cI, bnd_s], by rw [e2, bnd_s], f1, g1, Or.inr ⟨f2, f3'⟩⟩
theorem taken_all {G : GG} {s m : SS} {n k : Nat} (h : Cfg G s m n k) (x y : Int32) : ∃ r s' m', CT_taken G s x y = some (r, s') ∧ M_taken m x y = some (r, m') ∧ FC pTri NO s s' ∧ FM m m' := by
  obtain ⟨n1, n2⟩ := none_iff h
  unfold CT_taken M_taken CT_taken_20 M_taken_20 CT_taken_69 M_taken_57
  simp only [noCafe_ev, isCafe_ev, bnd_s, within_ev, bnd0_s, wi]
  by_cases a1 : x < 0
  · exact ⟨-2, s, m, by simp [a1], by simp [a1], FC.rf _ _ s, FM.rf m⟩
  by_cases a2 : 400 ≤ x
  · have a2' : 399 < x := by rw [i_lt, t399]; rw [i_le, t400] at a2; omega
    exact ⟨-2, s, m, by simp [a1, a2], by simp [a1, a2'], FC.rf _ _ s, FM.rf m⟩
  have a2' : ¬ 399 < x := by rw [i_lt, t399]; rw [i_le, t400] at a2; omega
  by_cases b1 : y < 0
  · exact ⟨-2, s, m, by simp [a1, a2, b1], by simp [a1, a2', b1], FC.rf _ _ s, FM.rf m⟩
  by_cases b2 : ¬ y ≤ 1
  · have b2' : 1 < y := by rw [i_lt]; rw [i_le] at b2; omega
    exact ⟨-2, s, m, by simp [a1, a2, b1, b2], by simp [a1, a2', b1, b2'], FC.rf _ _ s, FM.rf m⟩
  have b2 := Classical.not_not.mp b2
  have b2' : ¬ 1 < y := by rw [i_lt]; rw [i_le] at b2; omega
  by_cases z : n = 0
  · exact ⟨-3, s, m, by simp [a1, a2, b1, b2, n1.mpr z], by simp [a1, a2', b1, b2', n2.mpr z], FC.rf _ _ s, FM.rf m⟩
  have z1 : ¬ s 1 2 = 0 := fun w => z (n1.mp w)
  have z2 : ¬ m 0 5 ≤ 0 := fun w => z (n2.mp w)
  have hh := h
  obtain ⟨-, -, -, h7, ok, hC, hg, hra⟩ := h
  have hx : x = nI x.toInt.toNat := i_nat (by rw [i_lt, t0] at a1; omega)
  have hq : x.toInt.toNat < 400 := by rw [i_le, t400] at a2; rw [i_lt, t0] at a1; omega
  have hb4 : inb x 400 = true := by rw [inb_iff]; rw [i_le, t400] at a2; rw [i_lt, t0] at a1; omega
  obtain ⟨f, D0, h0, hb, er⟩ := run_ev (G := G) (o := 27) (h := 1) (-1) (by omega) (by omega) (Or.inl rfl) hC hg ok hra h7 hq
  rw [← hx] at er
  obtain ⟨m', e2, g1, ⟨b', g2⟩, g3, -⟩ := coinNow_ev hh h0
  obtain ⟨t1, t2⟩ := g3 _ hq
  have hJ := it_J ok (fun g => ordL_mem (lo := -1) ok.ck) h0 (x.toInt.toNat + 1) (by omega)
  have ew : sumL (List.range k) (wv (itD n (Kof m) (ordL (Kof m) (-1) k) D0 (x.toInt.toNat + 1)) (-9)) = sumL (ordL (Kof m) (-1) k) (wv (itD n (Kof m) (ordL (Kof m) (-1) k) D0 (x.toInt.toNat + 1)) (-1)) := by
    rw [← waitLR ok hJ]
    apply sumL_same
    intro g hg
    rw [List.mem_range] at hg
    have hk8 := ok.2.1
    unfold wv
    rw [if_neg (nI_ne9 (by omega)), if_neg (nI_ne1 (by omega))]
  refine ⟨if y = 0 then m' 38 x.toNatClampNeg else m' 39 x.toNatClampNeg, lay 27 (base 27 (up2 s 27 9 (hcode 1)) f (ordL (Kof m) (-1) k).length) (itD n (Kof m) (ordL (Kof m) (-1) k) D0 (x.toInt.toNat + 1)), m', ?_, ?_, ⟨?_, ?_⟩, g1⟩
  · rw [if_neg a1, if_neg a2, if_neg b1, if_pos b2, if_neg z1, if_pos rfl, er, bnd_s]
    rw [taken_ev hb, others_ev hb, bnd_s, bnd_s]
    by_cases y0 : y = 0
    · rw [if_pos y0, if_pos y0, i_cl, t1]
    · rw [if_neg y0, if_neg y0, i_cl, t2, ew]
  · rw [if_neg (by simp [a1, a2']), if_neg (by simp [b1, b2']), if_neg z2, if_neg (by decide), e2, bnd_s, if_pos hb4, if_pos hb4]
    by_cases y0 : y = 0
    · rw [if_pos y0, if_pos y0]
    · rw [if_neg y0, if_neg y0]
  · intro a ha hp
    unfold pTri at hp
    rw [lay_fr (by omega)]
  · intro c _
    rw [lay_fr (by omega)]
