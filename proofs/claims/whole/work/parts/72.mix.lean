/-! mixes of tables -/
def mixK (K : SS) (a b : Nat) : SS := fun r c => if r = 0 then (if c = 4 then -9 else K 0 c) else if r = 1 then 2 else if r = 2 then (if c < a then 2 else if c < a + b then 4 else 6) else K r c
def HW (K s : SS) : Prop := s 4 3 = K 0 1 ∧ s 4 4 = K 0 2 ∧ s 4 6 = K 0 3 ∧ s 4 5 = -9
theorem mixT_ev {G : GG} {K s : SS} {a b c : Nat} (h : HW K s) (hs : a + b + c ≤ 6) : ∃ s', CH_mixTables G 4 s (nI a) (nI b) (nI c) = some s' ∧ CBh 4 (a + b + c) (mixK K a b) s' ∧ HW K s' ∧ ∀ r, r ≠ 4 → r ≠ 5 → r ≠ 6 → s' r = s r := by
  unfold CH_mixTables
  rw [nI_add, nI_add, if_neg (show ¬ (6 : Int32) < nI (a + b + c) by rw [show (6 : Int32) = nI 6 from by decide, nI_lt_iff (by omega) (by omega)]; omega)]
  refine loopQ (a + b + c) (fun f i s' => CH_mixTables_17 G 4 f (nI a) (nI b) (nI i) s') (fun i s' => (∀ r, r ≠ 5 → r ≠ 6 → s' r = up2 s 4 2 (nI (a + b + c)) r) ∧ ∀ t, t < i → s' 5 t = 2 ∧ s' 6 t = (if t < a then 2 else if t < a + b then 4 else 6)) (fun r => ∃ s', r = some s' ∧ CBh 4 (a + b + c) (mixK K a b) s' ∧ HW K s' ∧ ∀ r, r ≠ 4 → r ≠ 5 → r ≠ 6 → s' r = s r) ?_ ?_ fuel 0 _ (by omega) (by have := fuel_big; omega) ⟨fun r _ _ => rfl, fun t ht => by omega⟩
  · rintro f i s' hi ⟨h1, h2⟩
    right
    have i6 : inb (nI i) 6 = true := inb_nI (by omega) (by omega)
    have e2 : s' 4 2 = nI (a + b + c) := by rw [h1 4 (by omega) (by omega), up2_at]
    refine ⟨up2 (up2 s' 5 i 2) 6 i (if i < a then 2 else if i < a + b then 4 else 6), ?_, ?_, ?_⟩
    · try dsimp only
      rw [CH_mixTables_17, e2, if_neg (le_no hi (by omega)), if_pos i6, cl_nI (by omega), nI_add]
      unfold CH_mixTables_64
      rw [if_pos i6, if_pos i6, if_pos i6, cl_nI (by omega), nI_s]
      by_cases q1 : i < a
      · rw [if_neg (show ¬ nI a ≤ nI i from le_no q1 (by omega)), if_pos q1]
      · rw [if_pos (show nI a ≤ nI i from le_ye (by omega) (by omega)), if_neg q1]
        by_cases q2 : i < a + b
        · rw [if_neg (show ¬ nI (a + b) ≤ nI i from le_no q2 (by omega)), if_pos q2]
        · rw [if_pos (show nI (a + b) ≤ nI i from le_ye (by omega) (by omega)), if_neg q2]
    · intro r h5 h6
      rw [up2_row h6, up2_row h5]; exact h1 r h5 h6
    · intro t ht
      by_cases e : t = i
      · subst e; rw [up2_row (by omega), up2_at, up2_at]; exact ⟨rfl, rfl⟩
      · rw [up2_row (by omega), up2_el, if_neg (fun z => e z.2), up2_el, if_neg (fun z => e z.2), up2_row (by omega)]
        exact h2 t (by omega)
  · rintro f s' ⟨h1, h2⟩
    have e4 := h1 4 (by omega) (by omega)
    have e2 : s' 4 2 = nI (a + b + c) := by rw [e4, up2_at]
    obtain ⟨w1, w2, w3, w4⟩ := h
    have v1 : s' 4 3 = K 0 1 := by rw [e4, up2_el, if_neg (by omega)]; exact w1
    have v2 : s' 4 4 = K 0 2 := by rw [e4, up2_el, if_neg (by omega)]; exact w2
    have v3 : s' 4 6 = K 0 3 := by rw [e4, up2_el, if_neg (by omega)]; exact w3
    have v4 : s' 4 5 = -9 := by rw [e4, up2_el, if_neg (by omega)]; exact w4
    try dsimp only
    rw [CH_mixTables_17, e2, if_pos (le_ye (Nat.le_refl _) (by omega))]
    refine ⟨s', rfl, ⟨e2, v1, v2, v3, v4, ?_⟩, ⟨v1, v2, v3, v4⟩, ?_⟩
    · intro t ht
      exact h2 t ht
    · intro r h4 h5 h6
      rw [h1 r h5 h6, up2_row h4]
theorem layMix_ev {m : SS} {a b c : Nat} (hs : a + b + c ≤ 6) : ∃ m', M_layMix m (nI a) (nI b) (nI c) = some m' ∧ (∀ t, t < a + b + c → m' 24 t = 2 ∧ m' 25 t = (if t < a then 2 else if t < a + b then 4 else 6)) ∧ (∀ r, r ≠ 0 → r ≠ 24 → r ≠ 25 → m' r = m r) ∧ ∀ q, m' 0 q = if q = 23 then nI (a + b + c) else if q = 28 then -9 else m 0 q := by
  unfold M_layMix
  rw [nI_add, nI_add]
  refine loopQ (a + b + c) (fun f i s' => M_layMix_18 f (nI a) (nI b) (nI i) s') (fun i s' => (∀ r, r ≠ 24 → r ≠ 25 → s' r = up2 (up2 m 0 28 (-9)) 0 23 (nI (a + b + c)) r) ∧ ∀ t, t < i → s' 24 t = 2 ∧ s' 25 t = (if t < a then 2 else if t < a + b then 4 else 6)) (fun r => ∃ m', r = some m' ∧ (∀ t, t < a + b + c → m' 24 t = 2 ∧ m' 25 t = (if t < a then 2 else if t < a + b then 4 else 6)) ∧ (∀ r, r ≠ 0 → r ≠ 24 → r ≠ 25 → m' r = m r) ∧ ∀ q, m' 0 q = if q = 23 then nI (a + b + c) else if q = 28 then -9 else m 0 q) ?_ ?_ fuel 0 _ (by omega) (by have := fuel_big; omega) ⟨fun r _ _ => rfl, fun t ht => by omega⟩
  · rintro f i s' hi ⟨h1, h2⟩
    right
    have i6 : inb (nI i) 6 = true := inb_nI (by omega) (by omega)
    have e2 : s' 0 23 = nI (a + b + c) := by rw [h1 0 (by omega) (by omega), up2_at]
    refine ⟨up2 (up2 s' 24 i 2) 25 i (if i < a then 2 else if i < a + b then 4 else 6), ?_, ?_, ?_⟩
    · try dsimp only
      rw [M_layMix_18, e2, if_neg (le_no hi (by omega)), if_pos i6, cl_nI (by omega), nI_add]
      unfold M_layMix_65
      rw [if_pos i6, if_pos i6, if_pos i6, cl_nI (by omega), nI_s]
      by_cases q1 : i < a
      · rw [if_neg (show ¬ nI a ≤ nI i from le_no q1 (by omega)), if_pos q1]
      · rw [if_pos (show nI a ≤ nI i from le_ye (by omega) (by omega)), if_neg q1]
        by_cases q2 : i < a + b
        · rw [if_neg (show ¬ nI (a + b) ≤ nI i from le_no q2 (by omega)), if_pos q2]
        · rw [if_pos (show nI (a + b) ≤ nI i from le_ye (by omega) (by omega)), if_neg q2]
    · intro r h5 h6
      rw [up2_row h6, up2_row h5]; exact h1 r h5 h6
    · intro t ht
      by_cases e : t = i
      · subst e; rw [up2_row (by omega), up2_at, up2_at]; exact ⟨rfl, rfl⟩
      · rw [up2_row (by omega), up2_el, if_neg (fun z => e z.2), up2_el, if_neg (fun z => e z.2), up2_row (by omega)]
        exact h2 t (by omega)
  · rintro f s' ⟨h1, h2⟩
    have e4 := h1 0 (by omega) (by omega)
    have e2 : s' 0 23 = nI (a + b + c) := by rw [e4, up2_at]
    try dsimp only
    rw [M_layMix_18, e2, if_pos (le_ye (Nat.le_refl _) (by omega))]
    refine ⟨s', rfl, h2, ?_, ?_⟩
    · intro r h0 h5 h6
      rw [h1 r h5 h6, up2_row h0, up2_row h0]
    · intro q
      rw [e4, up2_el, up2_el]
      by_cases z1 : q = 23 <;> by_cases z2 : q = 28 <;> simp [z1, z2]
theorem dv49 : ∀ i, i < 343 → nI i / 49 = nI (i / 49) := by decide +kernel
theorem dv7 : ∀ i, i < 343 → nI i / 7 - nI i / 7 / 7 * 7 = nI (i / 7 % 7) := by decide +kernel
theorem md7 : ∀ i, i < 343 → nI i - nI i / 7 * 7 = nI (i % 7) := by decide +kernel
def msF (q : Nat) (c : Nat → Int32) (p : Int32 × Nat) (r : Nat) : Int32 × Nat := if r / 49 + r / 7 % 7 + r % 7 ≤ 6 ∧ 2 * (r / 49) + 4 * (r / 7 % 7) + 6 * (r % 7) ≤ q then (if c r ≤ p.1 then p else (c r, r)) else p
def mixA (y : Int32) (p : Int32 × Nat) : Int32 := if y = 0 then p.1 else if y = 1 then nI (p.2 / 49) else if y = 2 then nI (p.2 / 7 % 7) else nI (p.2 % 7)
def mixOkC (k : Nat) (K : SS) (c : Nat → Int32) : Prop := ∀ r, r < 343 → r / 49 + r / 7 % 7 + r % 7 ≤ 6 → coinK (r / 49 + r / 7 % 7 + r % 7) k (mixK K (r / 49) (r / 7 % 7)) (-1) = c r
theorem mix_ok {n k : Nat} {K : SS} {a b N : Nat} (ok : KOk n k K) (hN : N ≤ 6) : KOk N k (mixK K a b) := by
  refine ⟨hN, ok.2.1, ok.2.2.1, ?_⟩
  exact ok.2.2.2
theorem mixM {G : GG} {s m : SS} {n k q : Nat} (h : Cfg G s m n k) (c : Nat → Int32) (hc : mixOkC k (Kof m) c) (hq : q ≤ 24) (y : Int32) : ∃ m', M_mix_40 fuel (nI q) y (-1) 0 0 m = some (mixA y ((List.range 343).foldl (msF q c) (-1, 0)), m') ∧ FM m m' := by
  have ok := h.2.2.2.2.1
  refine loopQ 343 (fun f i (st : (Int32 × Nat) × SS) => M_mix_40 f (nI q) y st.1.1 (nI st.1.2) (nI i) st.2) (fun i st => st.1 = (List.range i).foldl (msF q c) (-1, 0) ∧ st.1.2 < 343 ∧ FM m st.2) (fun r => ∃ m', r = some (mixA y ((List.range 343).foldl (msF q c) (-1, 0)), m') ∧ FM m m') ?_ ?_ fuel 0 ((-1, 0), m) (by omega) (by have := fuel_big; omega) ⟨rfl, (show (0 : Nat) < 343 by omega), FM.rf m⟩
  · rintro f i ⟨p, m'⟩ hi ⟨h1, hp, h2⟩
    right
    try dsimp only at h1 hp h2 ⊢
    have d49 : ¬ (49 : Int32) = 0 := by decide
    have d7 : ¬ (7 : Int32) = 0 := by decide
    have fin : ∀ P, P = msF q c p i → P = (List.range (i + 1)).foldl (msF q c) (-1, 0) := by
      intro P e
      rw [List.range_succ, List.foldl_append, ← h1, e]; rfl
    rw [M_mix_40, if_neg (show ¬ (343 : Int32) ≤ nI i by rw [show (343 : Int32) = nI 343 from by decide]; exact le_no hi (by omega)), if_pos d49, if_pos d7, if_pos d7, if_pos d7, dv49 i hi, dv7 i hi, md7 i hi, nI_add, nI_add]
    rw [show (2 : Int32) = nI 2 from by decide, show (4 : Int32) = nI 4 from by decide, show (6 : Int32) = nI 6 from by decide, mul_nI (by omega) (by omega), mul_nI (by omega) (by omega), mul_nI (by omega) (by omega), nI_add, nI_add]
    have L1 : nI 6 < nI (i / 49 + i / 7 % 7 + i % 7) ↔ 6 < i / 49 + i / 7 % 7 + i % 7 := nI_lt_iff (by omega) (by omega)
    have L2 : nI q < nI (2 * (i / 49) + 4 * (i / 7 % 7) + 6 * (i % 7)) ↔ q < 2 * (i / 49) + 4 * (i / 7 % 7) + 6 * (i % 7) := nI_lt_iff (by omega) (by omega)
    unfold M_mix_139
    rw [nI_s]
    by_cases q1 : 6 < i / 49 + i / 7 % 7 + i % 7
    · rw [if_pos (L1.mpr q1)]
      exact ⟨(p, m'), rfl, fin p (by unfold msF; rw [if_neg (by omega)]), hp, h2⟩
    · rw [if_neg (fun z => q1 (L1.mp z))]
      by_cases q2 : q < 2 * (i / 49) + 4 * (i / 7 % 7) + 6 * (i % 7)
      · rw [if_pos (L2.mpr q2)]
        exact ⟨(p, m'), rfl, fin p (by unfold msF; rw [if_neg (by omega)]), hp, h2⟩
      · rw [if_neg (fun z => q2 (L2.mp z))]
        have hcm := h.fm h2
        obtain ⟨m1, e1, f1, f2, f3⟩ := layNow_ev hcm.1 ok.1
        obtain ⟨m2, e2, g1, g2, g3⟩ := layMix_ev (m := m1) (a := i / 49) (b := i / 7 % 7) (c := i % 7) (by omega)
        have hK := mix_ok (N := i / 49 + i / 7 % 7 + i % 7) (a := i / 49) (b := i / 7 % 7) ok (by omega)
        have hM : MB (i / 49 + i / 7 % 7 + i % 7) k (mixK (Kof m) (i / 49) (i / 7 % 7)) (-1) m2 := by
          refine MB_gen (m := m) ?_ ?_ ?_ ?_ ?_ ?_ ?_ ok.2.1 ?_ ?_ ?_
          · rw [g3]; rfl
          · rw [g3, f3]; simp; exact hcm.2.1
          · rw [g3, f3]; simp; rw [h2.2 8 (by omega)]; rfl
          · rw [g3, f3]; simp; rw [h2.2 9 (by omega)]; rfl
          · rw [g3]; rfl
          · rw [g3, f3]; simp; rw [h2.2 10 (by omega)]; rfl
          · rw [g3, f3]; rfl
          · intro t ht; exact g1 t ht
          · intro a ha hb; rw [g2 a (by omega) (by omega) (by omega), f1 a (by omega) (by omega) (by omega)]; exact h2.1 a (by omega) (by omega)
          · intro a ha hb
            funext cc
            unfold mixK
            rw [if_neg (by omega), if_neg (by omega), if_neg (by omega)]
        obtain ⟨m3, e3, e4, k1, -⟩ := goDay_coin hK hM (DZ_init k)
        rw [hc i hi (by omega)] at e4
        have fm3 : FM m m3 := by
          refine ⟨fun a ha hb => ?_, fun cc hcc => ?_⟩
          · rw [k1 a (by omega), g2 a (by omega) (by omega) (by omega), f1 a (by omega) (by omega) (by omega)]; exact h2.1 a ha hb
          · rw [k1 0 (by omega), g3, if_neg (by omega), if_neg (by omega), f3, if_neg (by omega), if_neg (by omega), if_neg (by omega), if_neg (by omega), if_neg (by omega)]
            exact h2.2 cc hcc
        rw [e1, bnd0_s, e2, bnd0_s, e3, bnd0_s, e4, bnd_s]
        by_cases q3 : c i ≤ p.1
        · rw [if_pos q3]
          exact ⟨(p, m3), rfl, fin p (by unfold msF; rw [if_pos (by omega), if_pos q3]), hp, fm3⟩
        · rw [if_neg q3, e4, bnd_s]
          exact ⟨((c i, i), m3), rfl, fin (c i, i) (by unfold msF; rw [if_pos (by omega), if_neg q3]), hi, fm3⟩
  · rintro f ⟨p, m'⟩ ⟨h1, hp, h2⟩
    try dsimp only at h1 hp h2 ⊢
    refine ⟨m', ?_, h2⟩
    have d49 : ¬ (49 : Int32) = 0 := by decide
    have d7 : ¬ (7 : Int32) = 0 := by decide
    rw [M_mix_40, if_pos (show (343 : Int32) ≤ nI 343 by decide), ← h1]
    simp only [if_pos d49, if_pos d7, dv49 _ hp, dv7 _ hp, md7 _ hp]
    unfold M_mix_187 mixA
    repeat' split
    all_goals rfl
def MR (s : SS) (p : Int32 × Nat) : Prop := s 44 0 = p.1 ∧ (p.1 = -1 ∨ (s 44 1 = nI (p.2 / 49) ∧ s 44 2 = nI (p.2 / 7 % 7) ∧ s 44 3 = nI (p.2 % 7)))
def pMix (a : Nat) : Prop := pOth a ∨ a = 44
def MI (K s0 s : SS) (p : Int32 × Nat) : Prop := HW K s ∧ FC pMix NO s0 s ∧ MR s p
def g2F (q : Nat) (c : Nat → Int32) (tw fo : Nat) (p : Int32 × Nat) (si : Nat) : Int32 × Nat := msF q c p (49 * tw + 7 * fo + si)
def g1F (q : Nat) (c : Nat → Int32) (tw : Nat) (p : Int32 × Nat) (fo : Nat) : Int32 × Nat := (List.range (7 - tw - fo)).foldl (g2F q c tw fo) p
def g0F (q : Nat) (c : Nat → Int32) (p : Int32 × Nat) (tw : Nat) : Int32 × Nat := (List.range (7 - tw)).foldl (g1F q c tw) p
theorem keepC {G : GG} {s : SS} {p : Int32 × Nat} {got : Int32} {r : Nat} (h : MR s p) (hn : ¬ got = -1) (a b c : Int32) (ha : a = nI (r / 49)) (hb : b = nI (r / 7 % 7)) (hc : c = nI (r % 7)) : ∃ s', CT_keepBetterMix G s got a b c = some s' ∧ MR s' (if got ≤ p.1 then p else (got, r)) ∧ ∀ x, x ≠ 44 → s' x = s x := by
  unfold CT_keepBetterMix CT_keepBetterMix_39
  have c0 : (0 : Int32).toNatClampNeg = 0 := by decide
  have c1 : (1 : Int32).toNatClampNeg = 1 := by decide
  have c2 : (2 : Int32).toNatClampNeg = 2 := by decide
  have c3 : (3 : Int32).toNatClampNeg = 3 := by decide
  have b0 : inb (0 : Int32) 4 = true := by decide
  have b1 : inb (1 : Int32) 4 = true := by decide
  have b2 : inb (2 : Int32) 4 = true := by decide
  have b3 : inb (3 : Int32) 4 = true := by decide
  simp only [b0, b1, b2, b3, if_true, c0, c1, c2, c3, h.1]
  by_cases q : got ≤ p.1
  · rw [if_pos q, if_pos q]
    exact ⟨s, rfl, h, fun _ _ => rfl⟩
  · rw [if_neg q, if_neg q]
    refine ⟨_, rfl, ⟨?_, Or.inr ⟨?_, ?_, ?_⟩⟩, ?_⟩
    · simp only [up2_el]; simp
    · simp only [up2_el]; simp [ha]
    · simp only [up2_el]; simp [hb]
    · simp only [up2_el]; simp [hc]
    · intro x hx
      rw [up2_row hx, up2_row hx, up2_row hx, up2_row hx]
theorem mix3 {G : GG} {s0 s m : SS} {n k q tw fo : Nat} (h : Cfg G s0 m n k) (c : Nat → Int32) (hc : mixOkC k (Kof m) c) (hcn : ∀ r, r < 343 → r / 49 + r / 7 % 7 + r % 7 ≤ 6 → ¬ c r = -1) (hq : q ≤ 24) (htf : tw + fo ≤ 6) (k29 : Int32 → Int32 → SS → Option SS) (k37 : Int32 → Int32 → Int32 → SS → Option SS) {p : Int32 × Nat} (hI : MI (Kof m) s0 s p) :
    ∃ s', CT_findMix_48 G k29 k37 fuel (nI q) (nI tw) (nI fo) 0 s = k37 (nI q) (nI tw) (nI (fo + 1)) s' ∧ MI (Kof m) s0 s' (g1F q c tw p fo) := by
  obtain ⟨-, -, -, h7, ok, hC, hg, hra⟩ := h
  have e6 : (6 : Int32) = nI 6 := by decide
  have lim : (6 : Int32) - nI tw - nI fo = nI (6 - tw - fo) := by rw [e6, nI_subN (by omega) (by omega), nI_subN (by omega) (by omega)]
  unfold g1F
  refine loopQ (7 - tw - fo) (fun f i (st : (Int32 × Nat) × SS) => CT_findMix_48 G k29 k37 f (nI q) (nI tw) (nI fo) (nI i) st.2) (fun i st => st.1 = (List.range i).foldl (g2F q c tw fo) p ∧ MI (Kof m) s0 st.2 st.1) (fun r => ∃ s', r = k37 (nI q) (nI tw) (nI (fo + 1)) s' ∧ MI (Kof m) s0 s' ((List.range (7 - tw - fo)).foldl (g2F q c tw fo) p)) ?_ ?_ fuel 0 (p, s) (by omega) (by have := fuel_big; omega) ⟨rfl, hI⟩
  · rintro f i ⟨p', s'⟩ hi ⟨h1, hI'⟩
    right
    try dsimp only at h1 hI' ⊢
    have r1 : (49 * tw + 7 * fo + i) / 49 = tw := by omega
    have r2 : (49 * tw + 7 * fo + i) / 7 % 7 = fo := by omega
    have r3 : (49 * tw + 7 * fo + i) % 7 = i := by omega
    have fin : ∀ P, P = g2F q c tw fo p' i → P = (List.range (i + 1)).foldl (g2F q c tw fo) p := by
      intro P e
      rw [List.range_succ, List.foldl_append, ← h1, e]; rfl
    rw [CT_findMix_48, lim, if_neg (show ¬ nI (6 - tw - fo) < nI i by rw [nI_lt_iff (by omega) (by omega)]; omega)]
    rw [show (2 : Int32) = nI 2 from by decide, show (4 : Int32) = nI 4 from by decide, e6, mul_nI (by omega) (by omega), mul_nI (by omega) (by omega), mul_nI (by omega) (by omega), nI_add, nI_add]
    have L2 : nI (2 * tw + 4 * fo + 6 * i) ≤ nI q ↔ 2 * tw + 4 * fo + 6 * i ≤ q := nI_ge_iff (by omega) (by omega)
    unfold CT_findMix_113
    rw [nI_s]
    by_cases q2 : 2 * tw + 4 * fo + 6 * i ≤ q
    · rw [if_pos (L2.mpr q2)]
      obtain ⟨s1, e1, c1, w1, f1⟩ := mixT_ev (G := G) (a := tw) (b := fo) (c := i) hI'.1 (by omega)
      have hK := mix_ok (N := tw + fo + i) (a := tw) (b := fo) ok (by omega)
      obtain ⟨s2, e2, f2⟩ := run_coin (G := G) (o := 27) (h := 4) (-1) (by omega) (by omega) (Or.inr rfl) c1 (hg.ch (fun a ha => by
        funext cc
        unfold mixK
        rw [if_neg (by omega), if_neg (by omega), if_neg (by omega)])) hK (Or.inl rfl) (by rw [f1 7 (by omega) (by omega) (by omega), hI'.2.1.1 7 (by omega) (by unfold pMix pOth pTri; omega)]; exact h7)
      have hcr := hc (49 * tw + 7 * fo + i) (by omega) (by omega)
      rw [r1, r2, r3] at hcr
      rw [hcr] at e2
      have mr : MR s2 p' := by
        have := hI'.2.2
        unfold MR at this ⊢
        rw [f2 44 (by omega), f1 44 (by omega) (by omega) (by omega)]
        exact this
      obtain ⟨s3, e3, m3, f3⟩ := keepC (G := G) (r := 49 * tw + 7 * fo + i) mr (hcn (49 * tw + 7 * fo + i) (by omega) (by omega)) (nI tw) (nI fo) (nI i) (by rw [r1]) (by rw [r2]) (by rw [r3])
      rw [e1, bnd0_s, e2, bnd_s, e3, bnd0_s]
      refine ⟨(if c (49 * tw + 7 * fo + i) ≤ p'.1 then p' else (c (49 * tw + 7 * fo + i), 49 * tw + 7 * fo + i), s3), rfl, fin _ ?_, ?_, ⟨?_, ?_⟩, m3⟩
      · unfold g2F msF
        rw [r1, r2, r3]
        exact (if_pos ⟨by omega, by omega⟩).symm
      · show HW (Kof m) s3
        unfold HW at w1 ⊢
        rw [f3 4 (by omega), f2 4 (by omega)]
        exact w1
      · intro a ha hp
        show s3 a = s0 a
        rw [f3 a (fun z => hp (Or.inr z)), f2 a (by unfold pMix pOth pTri at hp; omega), f1 a (by unfold pMix pOth at hp; omega) (by unfold pMix pOth at hp; omega) (by unfold pMix pOth at hp; omega)]
        exact hI'.2.1.1 a ha hp
      · intro cc hcc
        show s3 0 cc = s0 0 cc
        rw [f3 0 (by omega), f2 0 (by omega), f1 0 (by omega) (by omega) (by omega)]
        exact hI'.2.1.2 cc hcc
    · rw [if_neg (fun z => q2 (L2.mp z))]
      refine ⟨(p', s'), rfl, fin p' ?_, hI'⟩
      unfold g2F msF
      rw [r1, r2, r3, if_neg (by omega)]
  · rintro f ⟨p', s'⟩ ⟨h1, hI'⟩
    try dsimp only at h1 hI' ⊢
    rw [CT_findMix_48, lim, if_pos (show nI (6 - tw - fo) < nI (7 - tw - fo) by rw [nI_lt_iff (by omega) (by omega)]; omega), nI_s]
    exact ⟨s', rfl, by rw [← h1]; exact hI'⟩
theorem mix2 {G : GG} {s0 s m : SS} {n k q tw : Nat} (h : Cfg G s0 m n k) (c : Nat → Int32) (hc : mixOkC k (Kof m) c) (hcn : ∀ r, r < 343 → r / 49 + r / 7 % 7 + r % 7 ≤ 6 → ¬ c r = -1) (hq : q ≤ 24) (htw : tw ≤ 6) (k29 : Int32 → Int32 → SS → Option SS) {p : Int32 × Nat} (hI : MI (Kof m) s0 s p) :
    ∃ s', CT_findMix_37 G k29 fuel (nI q) (nI tw) 0 s = k29 (nI q) (nI (tw + 1)) s' ∧ MI (Kof m) s0 s' (g0F q c p tw) := by
  have e6 : (6 : Int32) = nI 6 := by decide
  have lim : (6 : Int32) - nI tw = nI (6 - tw) := by rw [e6, nI_subN (by omega) (by omega)]
  unfold g0F
  refine loopQ (7 - tw) (fun f i (st : (Int32 × Nat) × SS) => CT_findMix_37 G k29 f (nI q) (nI tw) (nI i) st.2) (fun i st => st.1 = (List.range i).foldl (g1F q c tw) p ∧ MI (Kof m) s0 st.2 st.1) (fun r => ∃ s', r = k29 (nI q) (nI (tw + 1)) s' ∧ MI (Kof m) s0 s' ((List.range (7 - tw)).foldl (g1F q c tw) p)) ?_ ?_ fuel 0 (p, s) (by omega) (by have := fuel_big; omega) ⟨rfl, hI⟩
  · rintro f i ⟨p', s'⟩ hi ⟨h1, hI'⟩
    right
    try dsimp only at h1 hI' ⊢
    rw [CT_findMix_37, lim, if_neg (show ¬ nI (6 - tw) < nI i by rw [nI_lt_iff (by omega) (by omega)]; omega)]
    obtain ⟨s2, e2, i2⟩ := mix3 (tw := tw) (fo := i) h c hc hcn hq (by omega) k29 (fun a0 a1 a2 a3 => CT_findMix_37 G k29 f a0 a1 a2 a3) hI'
    rw [e2]
    refine ⟨(g1F q c tw p' i, s2), rfl, ?_, i2⟩
    rw [List.range_succ, List.foldl_append, ← h1]; rfl
  · rintro f ⟨p', s'⟩ ⟨h1, hI'⟩
    try dsimp only at h1 hI' ⊢
    rw [CT_findMix_37, lim, if_pos (show nI (6 - tw) < nI (7 - tw) by rw [nI_lt_iff (by omega) (by omega)]; omega), nI_s]
    exact ⟨s', rfl, by rw [← h1]; exact hI'⟩
theorem mix1 {G : GG} {s0 s m : SS} {n k q : Nat} (h : Cfg G s0 m n k) (c : Nat → Int32) (hc : mixOkC k (Kof m) c) (hcn : ∀ r, r < 343 → r / 49 + r / 7 % 7 + r % 7 ≤ 6 → ¬ c r = -1) (hq : q ≤ 24) {p : Int32 × Nat} (hI : MI (Kof m) s0 s p) :
    ∃ s', CT_findMix_29 G fuel (nI q) 0 s = some s' ∧ MI (Kof m) s0 s' ((List.range 7).foldl (g0F q c) p) := by
  refine loopQ 7 (fun f i (st : (Int32 × Nat) × SS) => CT_findMix_29 G f (nI q) (nI i) st.2) (fun i st => st.1 = (List.range i).foldl (g0F q c) p ∧ MI (Kof m) s0 st.2 st.1) (fun r => ∃ s', r = some s' ∧ MI (Kof m) s0 s' ((List.range 7).foldl (g0F q c) p)) ?_ ?_ fuel 0 (p, s) (by omega) (by have := fuel_big; omega) ⟨rfl, hI⟩
  · rintro f i ⟨p', s'⟩ hi ⟨h1, hI'⟩
    right
    try dsimp only at h1 hI' ⊢
    rw [CT_findMix_29, if_neg (show ¬ (6 : Int32) < nI i by rw [show (6 : Int32) = nI 6 from by decide, nI_lt_iff (by omega) (by omega)]; omega)]
    obtain ⟨s2, e2, i2⟩ := mix2 (tw := i) h c hc hcn hq (by omega) (fun a0 a1 a2 => CT_findMix_29 G f a0 a1 a2) hI'
    rw [e2]
    refine ⟨(g0F q c p' i, s2), rfl, ?_, i2⟩
    rw [List.range_succ, List.foldl_append, ← h1]; rfl
  · rintro f ⟨p', s'⟩ ⟨h1, hI'⟩
    try dsimp only at h1 hI' ⊢
    rw [CT_findMix_29, if_pos (by decide)]
    exact ⟨s', rfl, by rw [← h1]; exact hI'⟩
theorem range_mul {σ : Type} (f : σ → Nat → σ) (b : Nat) : ∀ (a : Nat) (p : σ), (List.range (a * b)).foldl f p = (List.range a).foldl (fun p i => (List.range b).foldl (fun p j => f p (b * i + j)) p) p
  | 0, p => by simp
  | a + 1, p => by
    rw [Nat.add_mul, Nat.one_mul, List.range_add, List.foldl_append, range_mul f b a p, List.range_succ, List.foldl_append, List.foldl_map]
    show _ = (List.range b).foldl (fun p j => f p (b * a + j)) _
    rw [Nat.mul_comm b a]
theorem fold_cut {σ : Type} (f : σ → Nat → σ) (a : Nat) : ∀ (b : Nat) (p : σ), a ≤ b → (∀ j, a ≤ j → j < b → ∀ p, f p j = p) → (List.range b).foldl f p = (List.range a).foldl f p
  | 0, p, h, _ => by rw [show a = 0 by omega]
  | b + 1, p, h, hf => by
    by_cases e : a = b + 1
    · rw [e]
    · rw [List.range_succ, List.foldl_append, fold_cut f a b p (by omega) (fun j h1 h2 => hf j h1 (by omega))]
      exact hf b (by omega) (by omega) _
theorem mix_nest (q : Nat) (c : Nat → Int32) (p : Int32 × Nat) : (List.range 343).foldl (msF q c) p = (List.range 7).foldl (g0F q c) p := by
  rw [show 343 = 7 * 49 from rfl, range_mul]
  apply foldl_same
  intro p tw htw
  rw [List.mem_range] at htw
  rw [show 49 = 7 * 7 from rfl, range_mul]
  unfold g0F
  rw [← fold_cut (g1F q c tw) (7 - tw) 7 p (by omega)]
  · apply foldl_same
    intro p fo hfo
    rw [List.mem_range] at hfo
    unfold g1F
    rw [← fold_cut (g2F q c tw fo) (7 - tw - fo) 7 p (by omega)]
    · apply foldl_same
      intro p si hsi
      rw [List.mem_range] at hsi
      unfold g2F
      congr 1
      omega
    · intro j h1 h2 p
      have r1 : (49 * tw + 7 * fo + j) / 49 = tw := by omega
      have r2 : (49 * tw + 7 * fo + j) / 7 % 7 = fo := by omega
      have r3 : (49 * tw + 7 * fo + j) % 7 = j := by omega
      unfold g2F msF
      rw [r1, r2, r3, if_neg]
      omega
  · intro j h1 h2 p
    unfold g1F
    rw [show 7 - tw - j = 0 by omega]
    rfl
def cMix (k : Nat) (K : SS) (r : Nat) : Int32 := coinK (r / 49 + r / 7 % 7 + r % 7) k (mixK K (r / 49) (r / 7 % 7)) (-1)
def mixP (k : Nat) (K : SS) (q : Nat) : Int32 × Nat := (List.range 343).foldl (msF q (cMix k K)) (-1, 0)
def MOk (s m : SS) (k : Nat) : Prop := s 0 14 = 0 ∨ ∃ q, 2 ≤ q ∧ q ≤ 24 ∧ s 0 14 = nI q ∧ ∀ y, y < 4 → s 44 y = mixA (nI y) (mixP k (Kof m) q)
theorem ms_pos {q : Nat} {c : Nat → Int32} (hc : ∀ r, r < 343 → r / 49 + r / 7 % 7 + r % 7 ≤ 6 → 0 ≤ (c r).toInt) : ∀ i, i < 343 → 0 ≤ ((List.range (i + 1)).foldl (msF q c) (-1, 0)).1.toInt
  | 0, _ => by
    show 0 ≤ (msF q c (-1, 0) 0).1.toInt
    unfold msF
    have := hc 0 (by omega) (by omega)
    rw [if_pos ⟨by omega, by omega⟩, if_neg]
    · exact this
    · show ¬ c 0 ≤ -1
      rw [i_le, tm1]; omega
  | i + 1, hi => by
    rw [List.range_succ, List.foldl_append]
    have ih := ms_pos (q := q) hc i (by omega)
    show 0 ≤ (msF q c _ (i + 1)).1.toInt
    unfold msF
    split
    · rename_i z
      split
      · exact ih
      · exact hc (i + 1) (by omega) z.1
    · exact ih
theorem findMix_ev {G : GG} {s m : SS} {n k q : Nat} (h : Cfg G s m n k) (hj : nb (s 1 6) = true) (c : Nat → Int32) (hc : mixOkC k (Kof m) c) (hp : ∀ r, r < 343 → r / 49 + r / 7 % 7 + r % 7 ≤ 6 → 0 ≤ (c r).toInt) (hq : q ≤ 24) : ∃ s', CT_findMix G s (nI q) = some s' ∧ FC pMix NO s s' ∧ ∀ y, y < 4 → s' 44 y = mixA (nI y) ((List.range 343).foldl (msF q c) (-1, 0)) := by
  have hh := h
  obtain ⟨-, -, -, h7, ok, hC, hg, hra⟩ := h
  obtain ⟨s8, e8, c8, f8⟩ := copyH_ev (G := G) hC ok.1 hj
  unfold CT_findMix
  rw [e8, bnd0_s, if_pos (by decide)]
  have c0 : (0 : Int32).toNatClampNeg = 0 := by decide
  rw [c0]
  have hI : MI (Kof m) s (up2 (up2 s8 4 5 (-9)) 44 0 (-1)) (-1, 0) := by
    obtain ⟨b2, b3, b4, b6, b5, bt⟩ := c8
    refine ⟨⟨?_, ?_, ?_, ?_⟩, ⟨?_, ?_⟩, ?_, Or.inl rfl⟩
    · rw [up2_row (by omega), up2_el, if_neg (by omega)]; exact b3
    · rw [up2_row (by omega), up2_el, if_neg (by omega)]; exact b4
    · rw [up2_row (by omega), up2_el, if_neg (by omega)]; exact b6
    · rw [up2_row (by omega), up2_at]
    · intro a ha hp
      have e4 : a ≠ 4 := fun z => hp (Or.inl (Or.inl (by omega)))
      have e5 : a ≠ 5 := fun z => hp (Or.inl (Or.inl (by omega)))
      have e6 : a ≠ 6 := fun z => hp (Or.inl (Or.inl (by omega)))
      rw [up2_row (fun z => hp (Or.inr z)), up2_row e4]; exact f8 a e4 e5 e6
    · intro cc _
      rw [up2_row (by omega), up2_row (by omega), f8 0 (by omega) (by omega) (by omega)]
    · rw [up2_at]
  obtain ⟨s', e, i1⟩ := mix1 hh c hc (fun r h1 h2 z => by have := hp r h1 h2; rw [z, tm1] at this; omega) hq hI
  refine ⟨s', e, i1.2.1, ?_⟩
  rw [← mix_nest] at i1
  have pos := ms_pos (q := q) hp 342 (by omega)
  generalize (List.range 343).foldl (msF q c) (-1, 0) = P at i1 pos
  obtain ⟨m0, m1⟩ := i1.2.2
  have m1 : s' 44 1 = nI (P.2 / 49) ∧ s' 44 2 = nI (P.2 / 7 % 7) ∧ s' 44 3 = nI (P.2 % 7) := by
    rcases m1 with z | z
    · rw [z, tm1] at pos; omega
    · exact z
  intro y hy
  unfold mixA
  rcases (show y = 0 ∨ y = 1 ∨ y = 2 ∨ y = 3 by omega) with e | e | e | e
  · rw [e, m0, if_pos (by decide)]
  · rw [e, m1.1, if_neg (by decide), if_pos (by decide)]
  · rw [e, m1.2.1, if_neg (by decide), if_neg (by decide), if_pos (by decide)]
  · rw [e, m1.2.2, if_neg (by decide), if_neg (by decide), if_neg (by decide)]
theorem mix_ev {G : GG} {s m : SS} {n k : Nat} (h : Cfg G s m n k) (hj : nb (s 1 6) = true) (hm : MOk s m k) (x y : Int32) : ∃ r s' m', CT_mix G s x y = some (r, s') ∧ M_mix m x y = some (r, m') ∧ FC pMix (fun c => c = 14) s s' ∧ FM m m' ∧ MOk s' m k := by
  obtain ⟨n1, n2⟩ := none_iff h
  have ok := h.2.2.2.2.1
  unfold CT_mix M_mix CT_mix_20 M_mix_19
  simp only [noCafe_ev, isCafe_ev, bnd_s, within_ev, bnd0_s, wi]
  by_cases a1 : x < 2
  · exact ⟨-2, s, m, by simp [a1], by simp [a1], FC.rf _ _ s, FM.rf m, hm⟩
  by_cases a2 : 24 < x
  · exact ⟨-2, s, m, by simp [a1, a2], by simp [a1, a2], FC.rf _ _ s, FM.rf m, hm⟩
  by_cases b1 : y < 0
  · exact ⟨-2, s, m, by simp [a1, a2, b1], by simp [a1, a2, b1], FC.rf _ _ s, FM.rf m, hm⟩
  by_cases b2 : ¬ y ≤ 3
  · have b2' : 3 < y := by rw [i_lt]; rw [i_le] at b2; omega
    exact ⟨-2, s, m, by simp [a1, a2, b1, b2], by simp [a1, a2, b1, b2'], FC.rf _ _ s, FM.rf m, hm⟩
  have b2 := Classical.not_not.mp b2
  have b2' : ¬ 3 < y := by rw [i_lt]; rw [i_le] at b2; omega
  by_cases z : n = 0
  · exact ⟨-3, s, m, by simp [a1, a2, b1, b2, n1.mpr z], by simp [a1, a2, b1, b2', n2.mpr z], FC.rf _ _ s, FM.rf m, hm⟩
  have z1 : ¬ s 1 2 = 0 := fun w => z (n1.mp w)
  have z2 : ¬ m 0 5 ≤ 0 := fun w => z (n2.mp w)
  have tx : 2 ≤ x.toInt ∧ x.toInt ≤ 24 := by
    have t24 : (24 : Int32).toInt = 24 := by decide
    rw [i_lt, t2] at a1; rw [i_lt, t24] at a2; omega
  have ty : 0 ≤ y.toInt ∧ y.toInt ≤ 3 := by rw [i_lt, t0] at b1; rw [i_le, t3] at b2; omega
  obtain ⟨q, hq, eq⟩ : ∃ q, (2 ≤ q ∧ q ≤ 24) ∧ x = nI q := ⟨x.toInt.toNat, by omega, i_nat (by omega)⟩
  obtain ⟨w, hw, ew⟩ : ∃ w, w < 4 ∧ y = nI w := ⟨y.toInt.toNat, by omega, i_nat (by omega)⟩
  obtain ⟨c, hcc⟩ : ∃ c : Nat → Int32, c = cMix k (Kof m) := ⟨_, rfl⟩
  have hc : mixOkC k (Kof m) c := by intro r _ _; rw [hcc]; rfl
  have hp : ∀ r, r < 343 → r / 49 + r / 7 % 7 + r % 7 ≤ 6 → 0 ≤ (c r).toInt := by
    intro r h1 h2
    obtain ⟨Z, hZ, eZ⟩ := coinK_b (mix_ok (N := r / 49 + r / 7 % 7 + r % 7) (a := r / 49) (b := r / 7 % 7) ok h2) (-1)
    rw [← hc r h1 h2, eZ, nI_T (by omega)]; omega
  have eP : mixP k (Kof m) q = (List.range 343).foldl (msF q c) (-1, 0) := by rw [hcc]; rfl
  obtain ⟨m', e3, g⟩ := mixM h c hc hq.2 y
  have y4 : inb y 4 = true := by rw [inb_iff]; omega
  have yc : y.toNatClampNeg = w := by rw [ew, cl_nI (by omega)]
  have M : M_mix_40 fuel x y (-1) 0 0 m = some (mixA (nI w) (mixP k (Kof m) q), m') := by rw [eq, e3, eP, ← ew]
  refine ⟨mixA (nI w) (mixP k (Kof m) q), ?_⟩
  have Mg : (if x < 2 ∨ 24 < x then some ((-2 : Int32), m) else if y < 0 ∨ 3 < y then some (-2, m) else if (if m 0 5 ≤ 0 then (0 : Int32) else 1) = 0 then some (-3, m) else M_mix_40 fuel x y (-1) 0 0 m) = some (mixA (nI w) (mixP k (Kof m) q), m') := by
    rw [if_neg (by simp [a1, a2]), if_neg (by simp [b1, b2']), if_neg z2, if_neg (by decide), M]
  unfold CT_mix_51
  by_cases e : s 0 14 = x
  · refine ⟨s, m', ?_, Mg, FC.rf _ _ s, g, hm⟩
    rw [if_neg a1, if_neg a2, if_neg b1, if_pos b2, if_neg z1, if_pos rfl, if_pos e, if_pos y4, yc]
    rcases hm with z | ⟨q', hq1, hq2, hq3, hq4⟩
    · rw [z] at e; rw [← e, t0] at tx; omega
    · have : q' = q := by rw [hq3, eq, nI_eq_iff (by omega) (by omega)] at e; exact e
      subst this
      rw [hq4 w hw]
  · obtain ⟨s', e1, f1, f2⟩ := findMix_ev h hj c hc hp hq.2
    rw [← eP] at f2
    refine ⟨up2 s' 0 14 x, m', ?_, Mg, ⟨?_, ?_⟩, g, Or.inr ⟨q, hq.1, hq.2, by rw [up2_at, eq], ?_⟩⟩
    · rw [if_neg a1, if_neg a2, if_neg b1, if_pos b2, if_neg z1, if_pos rfl, if_neg e, eq, e1, bnd0_s, if_pos y4, yc, up2_row (by omega), f2 w hw]
    · intro a ha hp
      rw [up2_row (by omega)]; exact f1.1 a ha hp
    · intro cc hcc
      rw [up2_el, if_neg (fun w => hcc w.2)]; exact f1.2 cc (fun z => z)
    · intro y hy
      rw [up2_row (by omega)]; exact f2 y hy
