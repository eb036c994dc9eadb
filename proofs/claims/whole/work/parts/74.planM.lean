/-! the reference's search for a plan -/
def FMp (m m' : SS) : Prop := (∀ a, a ≠ 0 → a ≠ 41 → a ≠ 42 → m' a = m a) ∧ ∀ c, c ≠ 43 → m' 0 c = m 0 c
def PBM (n N : Nat) (m : SS) (B : Int × (Nat → Nat)) : Prop := (m 0 43).toInt = B.1 ∧ -1 ≤ B.1 ∧ (0 ≤ B.1 → ∀ x, x < N → m 42 x = enc n (B.2 x))
def sumC (n : Nat) (K : SS) (ch : Nat → Nat) : Nat → Nat
  | 0 => 0
  | g + 1 => sumC n K ch g + cT n K g (ch g)
theorem sumC_same {n : Nat} {K : SS} {ch ch' : Nat → Nat} : ∀ g, (∀ x, x < g → ch x = ch' x) → sumC n K ch g = sumC n K ch' g
  | 0, _ => rfl
  | g + 1, h => by rw [sumC, sumC, sumC_same g (fun x hx => h x (by omega)), h g (by omega)]
theorem FMp.kof {m m' : SS} (h : FMp m m') : Kof m' = Kof m := by
  unfold Kof
  rw [h.2 8 (by omega), h.2 9 (by omega), h.2 10 (by omega), h.2 11 (by omega), h.1 6 (by omega) (by omega) (by omega), h.1 7 (by omega) (by omega) (by omega), h.1 17 (by omega) (by omega) (by omega), h.1 18 (by omega) (by omega) (by omega), h.1 19 (by omega) (by omega) (by omega), h.1 20 (by omega) (by omega) (by omega), h.1 21 (by omega) (by omega) (by omega), h.1 22 (by omega) (by omega) (by omega)]
theorem FMp.rf (m : SS) : FMp m m := ⟨fun _ _ _ _ => rfl, fun _ _ => rfl⟩
theorem FMp.u41 {m m' : SS} (h : FMp m m') (i : Nat) (v : Int32) : FMp m (up2 m' 41 i v) := ⟨fun a q1 q2 q3 => by rw [up2_row q2]; exact h.1 a q1 q2 q3, fun c hc => by rw [up2_row (by omega)]; exact h.2 c hc⟩
section planM
variable {n k N : Nat} {m0 m : SS}
theorem stay_M (ok : KOk n k (Kof m)) {g : Nat} (hg : g < k) : M_stays m (nI g) = some (stay0 (Kof m) g, m) := by
  have hk := ok.2.1
  obtain ⟨⟨q, hq, e⟩, -⟩ := ok.2.2.2 g hg
  have k0 : nI q = 0 ↔ q = 0 := by rw [show (0 : Int32) = nI 0 from by decide, nI_eq_iff (by omega) (by omega)]
  rw [staysM (by omega) hq e]
  unfold stay0
  rw [e]
  simp only [k0]
  rfl
theorem coin_M (ok : KOk n k (Kof m)) {g : Nat} (hg : g < k) : M_coinOf m (nI g) (stay0 (Kof m) g) = some (nI (cN (Kof m) g), m) := by
  have hk := ok.2.1
  obtain ⟨⟨q, hq, e⟩, -⟩ := ok.2.2.2 g hg
  have k0 : nI q = 0 ↔ q = 0 := by rw [show (0 : Int32) = nI 0 from by decide, nI_eq_iff (by omega) (by omega)]
  rw [coinM (by omega) hq e, ← (cc_b ok hg).1]
  unfold ccI
  rw [e]
  simp only [k0]
  rfl
theorem maySit_ev (ok : KOk n k (Kof m)) (h5 : m 0 5 = nI n) {g t : Nat} {ch : Nat → Nat} (hg : g < k) (hg6 : g < 6) (ht : t ≤ n) (hch : ∀ x, x < g → m 41 x = nI (ch x) ∧ ch x ≤ n) : M_maySit m (nI g) (nI t) = some (if okT n (Kof m) g ch t = true then 1 else 0, m) := by
  have hn := ok.1
  have hk := ok.2.1
  unfold M_maySit
  rw [h5, nb0, nb1]
  by_cases e : t = n
  · rw [if_pos (by rw [e]), if_pos rfl, if_pos (by unfold okT; simp [e])]
  · rw [if_neg (by rw [nI_eq_iff (by omega) (by omega)]; exact e), if_pos (inb_nI (by omega) (by omega)), if_pos (inb_nI (by omega) (by omega)), cl_nI (by omega), cl_nI (by omega)]
    have eok : okT n (Kof m) g ch t = (!decide (m 7 t < m 18 g) && (List.range g).all (fun x => !(decide (ch x = t) && ovB (Kof m) g x))) := by
      unfold okT okP; simp [e]; rfl
    by_cases q : m 18 g ≤ m 7 t
    · have q' : ¬ m 7 t < m 18 g := by rw [i_lt]; rw [i_le] at q; omega
      rw [if_pos q, eok]
      simp only [q', decide_false, Bool.not_false, Bool.true_and]
      have := loopQ g (fun f i (_ : Unit) => M_maySit_29 f (nI g) (nI t) (nI i) m) (fun i _ => (List.range i).all (fun x => !(decide (ch x = t) && ovB (Kof m) g x)) = true) (fun r => r = some (if (List.range g).all (fun x => !(decide (ch x = t) && ovB (Kof m) g x)) = true then (1 : Int32) else 0, m)) ?_ ?_ fuel 0 () (by omega) (by have := fuel_big; omega) (by simp)
      · exact this
      · intro f i _ hi hA
        have hci := hch i hi
        have bad : (decide (ch i = t) && ovB (Kof m) g i) = true → (List.range g).all (fun x => !(decide (ch x = t) && ovB (Kof m) g x)) = false := by
          intro z
          rw [List.all_eq_false]
          exact ⟨i, List.mem_range.mpr hi, by simp [z]⟩
        have good : (decide (ch i = t) && ovB (Kof m) g i) = false → (List.range (i + 1)).all (fun x => !(decide (ch x = t) && ovB (Kof m) g x)) = true := by
          intro z
          rw [List.range_succ, List.all_append, hA]
          simp only [Bool.true_and, List.all_cons, List.all_nil, Bool.and_true]
          rw [z]; rfl
        try dsimp only
        rw [M_maySit_29, if_neg (le_no hi (by omega)), if_pos (inb_nI (by omega) (by omega)), cl_nI (by omega), hci.1]
        unfold M_maySit_88
        rw [nI_s]
        by_cases c1 : ch i = t
        · rw [if_pos (by rw [c1]), if_pos (inb_nI (by omega) (by omega)), if_pos (inb_nI (by omega) (by omega)), stay_M ok hg, bnd_s, cl_nI (by omega)]
          by_cases c2 : m 19 g + stay0 (Kof m) g ≤ m 19 i
          · right
            refine ⟨(), by rw [if_pos c2], good ?_⟩
            have : ovB (Kof m) g i = false := by
              unfold ovB
              have c2' : Kof m 5 g + stay0 (Kof m) g ≤ Kof m 5 i := c2
              simp [c2']
            simp [this]
          · rw [if_neg c2, if_pos (inb_nI (by omega) (by omega)), if_pos (inb_nI (by omega) (by omega)), stay_M ok (show i < k by omega), bnd_s]
            by_cases c3 : m 19 i + stay0 (Kof m) i ≤ m 19 g
            · right
              refine ⟨(), by rw [if_pos c3], good ?_⟩
              have : ovB (Kof m) g i = false := by
                unfold ovB
                have c3' : Kof m 5 i + stay0 (Kof m) i ≤ Kof m 5 g := c3
                simp [c3']
              simp [this]
            · left
              have : ovB (Kof m) g i = true := by
                unfold ovB
                have c2' : ¬ Kof m 5 g + stay0 (Kof m) g ≤ Kof m 5 i := c2
                have c3' : ¬ Kof m 5 i + stay0 (Kof m) i ≤ Kof m 5 g := c3
                simp only [c2', c3', decide_false, Bool.not_false, Bool.and_self]
              rw [if_neg c3, nb0, if_pos rfl, bad (by simp [c1, this])]
              rfl
        · right
          rw [if_neg (show ¬ nI (ch i) = nI t by rw [nI_eq_iff (by omega) (by omega)]; exact c1)]
          exact ⟨(), rfl, good (by simp [c1])⟩
      · intro f _ hA
        try dsimp only
        rw [M_maySit_29, if_pos (le_ye (Nat.le_refl g) (by omega)), nb1, if_pos rfl, if_pos hA]
    · have q' : m 7 t < m 18 g := by rw [i_lt]; rw [i_le] at q; omega
      rw [if_neg q, if_pos rfl, eok]
      simp [q']
theorem offer_ev (ok : KOk n k (Kof m)) (h5 : m 0 5 = nI n) (hN6 : N ≤ 6) (hNk : N ≤ k) {ch : Nat → Nat} {B : Int × (Nat → Nat)} (hch : ∀ x, x < N → m 41 x = nI (ch x) ∧ ch x ≤ n) (hB : PBM n N m B) : ∃ m', M_offer m (nI N) = some m' ∧ FMp m m' ∧ m' 41 = m 41 ∧ PBM n N m' (if ((sumC n (Kof m) ch N : Nat) : Int) ≤ B.1 then B else (((sumC n (Kof m) ch N : Nat) : Int), ch)) := by
  have hn := ok.1
  have hb : ∀ g, g ≤ N → sumC n (Kof m) ch g ≤ 66 * g := by
    intro g
    induction g with
    | zero => intro _; rw [sumC]; omega
    | succ g ih =>
      intro hg
      have := ih (by omega)
      have := (cc_b ok (show g < k by omega)).2
      rw [sumC]
      unfold cT
      split <;> omega
  unfold M_offer
  refine loopQ N (fun f i (c : Int32) => M_offer_4 f (nI N) c (nI i) m) (fun i c => c = nI (sumC n (Kof m) ch i)) (fun r => ∃ m', r = some m' ∧ FMp m m' ∧ m' 41 = m 41 ∧ PBM n N m' (if ((sumC n (Kof m) ch N : Nat) : Int) ≤ B.1 then B else (((sumC n (Kof m) ch N : Nat) : Int), ch))) ?_ ?_ fuel 0 0 (by omega) (by have := fuel_big; omega) (show (0 : Int32) = nI 0 by decide)
  · intro f i c hi hc
    right
    have hci := hch i hi
    refine ⟨nI (sumC n (Kof m) ch (i + 1)), ?_, rfl⟩
    try dsimp only
    rw [M_offer_4, if_neg (le_no hi (by omega)), if_pos (inb_nI (by omega) (by omega)), cl_nI (by omega), hci.1, h5, stay_M ok (show i < k by omega), bnd_s, coin_M ok (show i < k by omega), bnd_s, hc, sumC]
    unfold M_offer_37 cT
    rw [nI_s]
    by_cases e : ch i = n
    · rw [if_pos (by rw [e]), if_pos e, Int32.add_zero]; rfl
    · rw [if_neg (by rw [nI_eq_iff (by omega) (by omega)]; exact e), if_neg e, nI_add]
  · intro f c hc
    have hbN := hb N (Nat.le_refl N)
    try dsimp only
    rw [M_offer_4, if_pos (le_ye (Nat.le_refl N) (by omega)), hc]
    unfold M_offer_101
    have iff : nI (sumC n (Kof m) ch N) ≤ m 0 43 ↔ ((sumC n (Kof m) ch N : Nat) : Int) ≤ B.1 := by rw [i_le, hB.1, nI_T (by omega)]
    by_cases q : ((sumC n (Kof m) ch N : Nat) : Int) ≤ B.1
    · rw [if_pos (iff.mpr q), if_pos q]
      exact ⟨m, rfl, FMp.rf m, rfl, hB⟩
    · rw [if_neg (fun z => q (iff.mp z)), if_neg q]
      refine loopQ N (fun f i m' => M_offer_60 f (nI N) (nI i) m') (fun i m' => FMp m m' ∧ m' 41 = m 41 ∧ m' 0 43 = nI (sumC n (Kof m) ch N) ∧ ∀ x, x < i → m' 42 x = enc n (ch x)) (fun r => ∃ m', r = some m' ∧ FMp m m' ∧ m' 41 = m 41 ∧ PBM n N m' (((sumC n (Kof m) ch N : Nat) : Int), ch)) ?_ ?_ fuel 0 _ (by omega) (by have := fuel_big; omega) ⟨⟨fun a q1 _ _ => up2_row q1, fun c hc => by rw [up2_el, if_neg (fun z => hc z.2)]⟩, up2_row (by omega), up2_at .., fun x hx => by omega⟩
      · rintro f i m' hi ⟨h1, h2, h3, h4⟩
        right
        have hci := hch i hi
        have i6 : inb (nI i) 6 = true := inb_nI (by omega) (by omega)
        refine ⟨up2 m' 42 i (enc n (ch i)), ?_, ⟨?_, ?_⟩, ?_, ?_, ?_⟩
        · try dsimp only
          rw [M_offer_60, if_neg (le_no hi (by omega)), if_pos i6, if_pos i6, cl_nI (by omega), h2, hci.1, h1.2 5 (by omega), h5]
          unfold M_offer_94 enc
          rw [if_pos i6, if_pos i6, cl_nI (by omega), nI_s]
          by_cases e : ch i = n
          · rw [if_pos (by rw [e]), if_pos e]
          · rw [if_neg (by rw [nI_eq_iff (by omega) (by omega)]; exact e), if_neg e]
        · intro a q1 q2 q3
          rw [up2_row q3]; exact h1.1 a q1 q2 q3
        · intro c hc
          rw [up2_row (by omega)]; exact h1.2 c hc
        · rw [up2_row (by omega)]; exact h2
        · rw [up2_row (by omega)]; exact h3
        · intro x hx
          by_cases e : x = i
          · subst e; rw [up2_at]
          · rw [up2_el, if_neg (fun z => e z.2)]; exact h4 x (by omega)
      · rintro f m' ⟨h1, h2, h3, h4⟩
        try dsimp only
        rw [M_offer_60, if_pos (le_ye (Nat.le_refl N) (by omega))]
        unfold M_offer_101
        refine ⟨m', rfl, h1, h2, ?_, ?_, fun _ => h4⟩
        · rw [h3, nI_T (by omega)]
        · show -1 ≤ ((sumC n (Kof m) ch N : Nat) : Int); omega
theorem st29 {f g : Nat} {x : Int32} {s : SS} (hg : g < 6) : M_findPlan_29 (f + 1) x (nI g) s = M_findPlan_43 (fun a0 a1 a2 => M_findPlan_29 f a0 a1 a2) fuel x (nI g) (up2 s 41 g (s 41 g + 1)) := by
  have g6 : inb (nI g) 6 = true := inb_nI hg (by omega)
  rw [M_findPlan_29, if_neg (nI_n0 (by omega)), if_pos g6, if_pos g6, cl_nI (by omega)]
theorem en29 {f : Nat} {x : Int32} {s : SS} : M_findPlan_29 (f + 1) x (nI 0 - 1) s = some s := by
  rw [M_findPlan_29, if_pos (by decide)]
def eB : Nat → Nat
  | 0 => 1
  | r + 1 => 2 + 7 * eB r
def lst (n : Nat) (K : SS) (r g : Nat) (ch : Nat → Nat) (S : Nat) (B : Int × (Nat → Nat)) (t : Nat) : Int × (Nat → Nat) := if okT n K g ch t = true then plS n K r (g + 1) (updN ch g t) (S + cT n K g t) B else B
theorem FMp.tr {a b c : SS} (h1 : FMp a b) (h2 : FMp b c) : FMp a c := ⟨fun i p q r => (h2.1 i p q r).trans (h1.1 i p q r), fun i p => (h2.2 i p).trans (h1.2 i p)⟩
theorem search (ok : KOk n k (Kof m0)) (h5 : m0 0 5 = nI n) (hN6 : N ≤ 6) (hNk : N ≤ k) : ∀ (r d g : Nat) (ch : Nat → Nat) (S : Nat) (B : Int × (Nat → Nat)) (m : SS), g + r + 1 = N → d ≤ n + 1 → S = sumC n (Kof m0) ch g → FMp m0 m → (∀ x, x < g → m 41 x = nI (ch x) ∧ ch x ≤ n) → PBM n N m B →
    ∃ c m', c ≤ d * eB r ∧ (∀ f fu, d < fu → M_findPlan_43 (fun a0 a1 a2 => M_findPlan_29 (c + f) a0 a1 a2) fu (nI N) (nI g) (up2 m 41 g (nI (n + 1 - d))) = M_findPlan_29 f (nI N) (nI g - 1) m') ∧ FMp m0 m' ∧ (∀ x, x < g → m' 41 x = nI (ch x)) ∧ PBM n N m' ((List.range' (n + 1 - d) d).foldl (lst n (Kof m0) r g ch S) B) := by
  have hn := ok.1
  have hk := ok.2.1
  intro r
  induction r with
  | zero =>
    intro d
    induction d with
    | zero =>
      intro g ch S B m hg hd hS hF hch hB
      have g6 : inb (nI g) 6 = true := inb_nI (by omega) (by omega)
      refine ⟨0, up2 m 41 g (nI (n + 1)), by omega, ?_, hF.u41 _ _, ?_, ?_⟩
      · intro f fu hfu
        obtain ⟨fu, rfl⟩ : ∃ fu', fu = fu' + 1 := ⟨fu - 1, by omega⟩
        rw [M_findPlan_43, if_pos g6, cl_nI (by omega), up2_at, up2_row (show 0 ≠ 41 by omega), hF.2 5 (by omega), h5, if_pos (show nI n < nI (n + 1 - 0) by rw [nI_lt_iff (by omega) (by omega)]; omega)]
        unfold M_findPlan_83
        rw [if_pos g6, cl_nI (by omega), up2_at, up2_row (show 0 ≠ 41 by omega), hF.2 5 (by omega), h5, if_neg (le_no (by omega) (by omega)), Nat.zero_add, Int32.sub_eq_add_neg]
        rfl
      · intro x hx
        rw [up2_el, if_neg (by omega)]; exact (hch x hx).1
      · have := hB
        unfold PBM at this ⊢
        rw [up2_row (by omega), up2_row (by omega)]
        exact this
    | succ d ihd =>
      intro g ch S B m hg hd hS hF hch hB
      have g6 : inb (nI g) 6 = true := inb_nI (by omega) (by omega)
      have ej : n + 1 - d = n + 1 - (d + 1) + 1 := by omega
      have hj : n + 1 - (d + 1) ≤ n := by omega
      generalize hjj : n + 1 - (d + 1) = j at *
      have hF1 := hF.u41 g (nI j)
      have hch1 : ∀ x, x < g → up2 m 41 g (nI j) 41 x = nI (ch x) ∧ ch x ≤ n := by
        intro x hx
        rw [up2_el, if_neg (by omega)]; exact hch x hx
      have hB1 : PBM n N (up2 m 41 g (nI j)) B := by
        unfold PBM at hB ⊢
        rw [up2_row (by omega), up2_row (by omega)]
        exact hB
      have ok1 : KOk n k (Kof (up2 m 41 g (nI j))) := by rw [hF1.kof]; exact ok
      have ms := maySit_ev (t := j) ok1 (show up2 m 41 g (nI j) 0 5 = nI n by rw [hF1.2 5 (by omega)]; exact h5) (show g < k by omega) (show g < 6 by omega) hj hch1
      rw [hF1.kof] at ms
      rw [List.range'_succ, List.foldl_cons]
      have h43 : ∀ (kk : Int32 → Int32 → SS → Option SS) fu, M_findPlan_43 kk (fu + 1) (nI N) (nI g) (up2 m 41 g (nI j)) = if okT n (Kof m0) g ch j = true then M_findPlan_83 kk (nI N) (nI g) (up2 m 41 g (nI j)) else M_findPlan_43 kk fu (nI N) (nI g) (up2 m 41 g (nI (j + 1))) := by
        intro kk fu
        rw [M_findPlan_43]
        simp only [g6, if_true, cl_nI (show g < 2147483648 by omega), up2_at]
        rw [up2_row (show 0 ≠ 41 by omega), hF.2 5 (by omega), h5, if_neg (show ¬ nI n < nI j by rw [nI_lt_iff (by omega) (by omega)]; omega), ms, bnd_s, up2_at, nI_s, uu]
        by_cases q : okT n (Kof m0) g ch j = true
        · rw [if_pos q, if_pos q, if_neg (by decide)]
        · rw [if_neg q, if_neg q, if_pos rfl]
      by_cases q : okT n (Kof m0) g ch j = true
      · obtain ⟨m2, e2, f2, f41, b2⟩ := offer_ev (ch := updN ch g j) ok1 (show up2 m 41 g (nI j) 0 5 = nI n by rw [hF1.2 5 (by omega)]; exact h5) hN6 hNk (by
          intro x hx
          by_cases e : x = g
          · subst e; rw [up2_at, updN_at]; exact ⟨rfl, hj⟩
          · rw [updN_lt e]; exact hch1 x (by omega)) hB1
        rw [hF1.kof] at b2
        have hs : sumC n (Kof m0) (updN ch g j) N = S + cT n (Kof m0) g j := by
          rw [← hg, sumC, updN_at, hS, sumC_same g (ch' := ch) (fun x hx => updN_lt (by omega))]
        rw [hs] at b2
        have eL : lst n (Kof m0) 0 g ch S B j = if ((S + cT n (Kof m0) g j : Nat) : Int) ≤ B.1 then B else (((S + cT n (Kof m0) g j : Nat) : Int), updN ch g j) := by
          unfold lst; rw [if_pos q, plS]
        rw [← eL] at b2
        have hF2 := hF1.tr f2
        obtain ⟨c, m', hc, hrun, r1, r2, r3⟩ := ihd g ch S (lst n (Kof m0) 0 g ch S B j) m2 hg (by omega) hS hF2 (by intro x hx; rw [f41]; exact hch1 x hx) b2
        rw [ej] at hrun r3
        refine ⟨c + 1, m', by unfold eB at *; omega, ?_, r1, r2, r3⟩
        intro f fu hfu
        obtain ⟨fu, rfl⟩ : ∃ fu', fu = fu' + 1 := ⟨fu - 1, by omega⟩
        rw [h43, if_pos q]
        unfold M_findPlan_83
        have eN : nI N - 1 = nI g := by rw [← hg, Nat.add_zero, nI_pred]
        rw [if_pos g6, cl_nI (by omega), up2_at, up2_row (show 0 ≠ 41 by omega), hF.2 5 (by omega), h5, if_pos (le_ye hj (by omega)), eN, if_pos (le_ye (Nat.le_refl g) (by omega)), e2, bnd0_s]
        show M_findPlan_29 (c + 1 + f) (nI N) (nI g) m2 = _
        rw [show c + 1 + f = (c + f) + 1 by omega, st29 (by omega), f41, up2_at, nI_s]
        exact hrun f fuel (by have := fuel_big; omega)
      · have eL : lst n (Kof m0) 0 g ch S B j = B := by unfold lst; rw [if_neg q]
        rw [eL]
        obtain ⟨c, m', hc, hrun, r1, r2, r3⟩ := ihd g ch S B m hg (by omega) hS hF hch hB
        rw [ej] at hrun r3
        refine ⟨c, m', by unfold eB at *; omega, ?_, r1, r2, r3⟩
        intro f fu hfu
        obtain ⟨fu, rfl⟩ : ∃ fu', fu = fu' + 1 := ⟨fu - 1, by omega⟩
        rw [h43, if_neg q]
        exact hrun f fu (by omega)
  | succ r ih =>
    intro d
    induction d with
    | zero =>
      intro g ch S B m hg hd hS hF hch hB
      have g6 : inb (nI g) 6 = true := inb_nI (by omega) (by omega)
      refine ⟨0, up2 m 41 g (nI (n + 1)), by omega, ?_, hF.u41 _ _, ?_, ?_⟩
      · intro f fu hfu
        obtain ⟨fu, rfl⟩ : ∃ fu', fu = fu' + 1 := ⟨fu - 1, by omega⟩
        rw [M_findPlan_43, if_pos g6, cl_nI (by omega), up2_at, up2_row (show 0 ≠ 41 by omega), hF.2 5 (by omega), h5, if_pos (show nI n < nI (n + 1 - 0) by rw [nI_lt_iff (by omega) (by omega)]; omega)]
        unfold M_findPlan_83
        rw [if_pos g6, cl_nI (by omega), up2_at, up2_row (show 0 ≠ 41 by omega), hF.2 5 (by omega), h5, if_neg (le_no (by omega) (by omega)), Nat.zero_add, Int32.sub_eq_add_neg]
        rfl
      · intro x hx
        rw [up2_el, if_neg (by omega)]; exact (hch x hx).1
      · have := hB
        unfold PBM at this ⊢
        rw [up2_row (by omega), up2_row (by omega)]
        exact this
    | succ d ihd =>
      intro g ch S B m hg hd hS hF hch hB
      have g6 : inb (nI g) 6 = true := inb_nI (by omega) (by omega)
      have g7 : inb (nI (g + 1)) 6 = true := inb_nI (by omega) (by omega)
      have ej : n + 1 - d = n + 1 - (d + 1) + 1 := by omega
      have hj : n + 1 - (d + 1) ≤ n := by omega
      generalize hjj : n + 1 - (d + 1) = j at *
      have hF1 := hF.u41 g (nI j)
      have hch1 : ∀ x, x < g → up2 m 41 g (nI j) 41 x = nI (ch x) ∧ ch x ≤ n := by
        intro x hx
        rw [up2_el, if_neg (by omega)]; exact hch x hx
      have hB1 : PBM n N (up2 m 41 g (nI j)) B := by
        unfold PBM at hB ⊢
        rw [up2_row (by omega), up2_row (by omega)]
        exact hB
      have ok1 : KOk n k (Kof (up2 m 41 g (nI j))) := by rw [hF1.kof]; exact ok
      have ms := maySit_ev (t := j) ok1 (show up2 m 41 g (nI j) 0 5 = nI n by rw [hF1.2 5 (by omega)]; exact h5) (show g < k by omega) (show g < 6 by omega) hj hch1
      rw [hF1.kof] at ms
      rw [List.range'_succ, List.foldl_cons]
      have h43 : ∀ (kk : Int32 → Int32 → SS → Option SS) fu, M_findPlan_43 kk (fu + 1) (nI N) (nI g) (up2 m 41 g (nI j)) = if okT n (Kof m0) g ch j = true then M_findPlan_83 kk (nI N) (nI g) (up2 m 41 g (nI j)) else M_findPlan_43 kk fu (nI N) (nI g) (up2 m 41 g (nI (j + 1))) := by
        intro kk fu
        rw [M_findPlan_43]
        simp only [g6, if_true, cl_nI (show g < 2147483648 by omega), up2_at]
        rw [up2_row (show 0 ≠ 41 by omega), hF.2 5 (by omega), h5, if_neg (show ¬ nI n < nI j by rw [nI_lt_iff (by omega) (by omega)]; omega), ms, bnd_s, up2_at, nI_s, uu]
        by_cases q : okT n (Kof m0) g ch j = true
        · rw [if_pos q, if_pos q, if_neg (by decide)]
        · rw [if_neg q, if_neg q, if_pos rfl]
      by_cases q : okT n (Kof m0) g ch j = true
      · have hs : S + cT n (Kof m0) g j = sumC n (Kof m0) (updN ch g j) (g + 1) := by
          rw [sumC, updN_at, hS, sumC_same g (ch' := updN ch g j) (fun x hx => (updN_lt (by omega)).symm)]
        obtain ⟨c1, m2, hc1, hrun1, s1, s2, s3⟩ := ih (n + 1) (g + 1) (updN ch g j) (S + cT n (Kof m0) g j) B (up2 m 41 g (nI j)) (by omega) (Nat.le_refl _) hs hF1 (by
          intro x hx
          by_cases e : x = g
          · subst e; rw [up2_at, updN_at]; exact ⟨rfl, hj⟩
          · rw [updN_lt e]; exact hch1 x (by omega)) hB1
        rw [Nat.sub_self] at hrun1 s3
        have eL : lst n (Kof m0) (r + 1) g ch S B j = (List.range' 0 (n + 1)).foldl (lst n (Kof m0) r (g + 1) (updN ch g j) (S + cT n (Kof m0) g j)) B := by
          unfold lst; rw [if_pos q, plS, List.range_eq_range']
        rw [← eL] at s3
        obtain ⟨c, m', hc, hrun, r1, r2, r3⟩ := ihd g ch S (lst n (Kof m0) (r + 1) g ch S B j) m2 hg (by omega) hS s1 (by
          intro x hx
          rw [s2 x (by omega), updN_lt (by omega)]; exact ⟨rfl, (hch x hx).2⟩) s3
        rw [ej] at hrun r3
        refine ⟨c1 + c + 2, m', ?_, ?_, r1, r2, r3⟩
        · have e1 : c1 ≤ 7 * eB r := Nat.le_trans hc1 (Nat.mul_le_mul_right _ (by omega))
          have e2 : eB (r + 1) = 2 + 7 * eB r := rfl
          have e3 : (d + 1) * eB (r + 1) = d * eB (r + 1) + eB (r + 1) := Nat.succ_mul _ _
          omega
        intro f fu hfu
        obtain ⟨fu, rfl⟩ : ∃ fu', fu = fu' + 1 := ⟨fu - 1, by omega⟩
        rw [h43, if_pos q]
        unfold M_findPlan_83
        have eN : nI N - 1 = nI (g + (r + 1)) := by rw [← hg, nI_pred]
        have em : (-1 : Int32) + 1 = nI 0 := by decide
        rw [if_pos g6, cl_nI (by omega), up2_at, up2_row (show 0 ≠ 41 by omega), hF.2 5 (by omega), h5, if_pos (le_ye hj (by omega)), eN, if_neg (le_no (by omega) (by omega)), nI_s, if_pos g7, cl_nI (by omega)]
        show M_findPlan_29 (c1 + c + 2 + f) (nI N) (nI (g + 1)) (up2 (up2 m 41 g (nI j)) 41 (g + 1) (-1)) = _
        rw [show c1 + c + 2 + f = (c1 + (c + f + 1)) + 1 by omega, st29 (by omega), up2_at, em, uu, hrun1 (c + f + 1) fuel (by have := fuel_big; omega), nI_pred]
        rw [st29 (by omega), s2 g (by omega), updN_at, nI_s]
        exact hrun f fuel (by have := fuel_big; omega)
      · have eL : lst n (Kof m0) (r + 1) g ch S B j = B := by unfold lst; rw [if_neg q]
        rw [eL]
        obtain ⟨c, m', hc, hrun, r1, r2, r3⟩ := ihd g ch S B m hg (by omega) hS hF hch hB
        rw [ej] at hrun r3
        refine ⟨c, m', Nat.le_trans hc (Nat.mul_le_mul_right _ (by omega)), ?_, r1, r2, r3⟩
        intro f fu hfu
        obtain ⟨fu, rfl⟩ : ∃ fu', fu = fu' + 1 := ⟨fu - 1, by omega⟩
        rw [h43, if_neg q]
        exact hrun f fu (by omega)
theorem eB_le : ∀ r, r ≤ 5 → eB r ≤ 22409 := by decide
theorem findPlan_ev (ok : KOk n k (Kof m)) (h5 : m 0 5 = nI n) (h16 : m 0 16 = nI k) : ∃ m', M_findPlan m = some m' ∧ FMp m m' ∧ PBM n (min k 6) m' (plS n (Kof m) (min k 6) 0 (fun _ => 0) 0 (-1, fun _ => 0)) := by
  have hn := ok.1
  have hk := ok.2.1
  have hpl : M_planned m = some (nI (min k 6), m) := by
    unfold M_planned M_planned_18
    rw [h16]
    by_cases e : 6 ≤ k
    · rw [if_pos (show (6 : Int32) ≤ nI k by rw [show (6 : Int32) = nI 6 from by decide]; exact le_ye e (by omega)), show min k 6 = 6 by omega]; rfl
    · rw [if_neg (show ¬ (6 : Int32) ≤ nI k by rw [show (6 : Int32) = nI 6 from by decide]; exact le_no (by omega) (by omega)), show min k 6 = k by omega]
  unfold M_findPlan
  rw [hpl, bnd_s]
  by_cases e : min k 6 = 0
  · rw [e, if_pos (by decide), plS, if_neg (by omega)]
    refine ⟨_, rfl, ⟨fun a q1 _ _ => by rw [up2_row q1, up2_row q1], fun c hc => by rw [up2_el, if_neg (fun z => hc z.2), up2_el, if_neg (fun z => hc z.2)]⟩, ?_, ?_, fun _ x hx => by omega⟩
    · rw [up2_at]; decide
    · show -1 ≤ ((0 : Nat) : Int); omega
  · obtain ⟨r, er⟩ : ∃ r, min k 6 = r + 1 := ⟨min k 6 - 1, by omega⟩
    have c0 : (0 : Int32).toNatClampNeg = 0 := by decide
    rw [er, if_neg (show ¬ nI (r + 1) = 0 by rw [show (0 : Int32) = nI 0 from by decide, nI_eq_iff (by omega) (by omega)]; omega), if_pos (by decide), c0]
    have hF : FMp m (up2 m 0 43 (-1)) := ⟨fun a q1 _ _ => up2_row q1, fun c hc => by rw [up2_el, if_neg (fun z => hc z.2)]⟩
    have hB : PBM n (r + 1) (up2 m 0 43 (-1)) (-1, fun _ => 0) := ⟨by rw [up2_at]; decide, Int.le_refl _, fun z => absurd z (by show ¬ (0 : Int) ≤ -1; omega)⟩
    obtain ⟨c, m', hc, hrun, r1, r2, r3⟩ := search ok h5 (show r + 1 ≤ 6 by omega) (show r + 1 ≤ k by omega) r (n + 1) 0 (fun _ => 0) 0 (-1, fun _ => 0) (up2 m 0 43 (-1)) (by omega) (Nat.le_refl _) rfl hF (fun x hx => by omega) hB
    have hc2 : c ≤ 7 * 22409 := Nat.le_trans hc (Nat.mul_le_mul (by omega) (eB_le r (by omega)))
    obtain ⟨f, ef⟩ : ∃ f, fuel = c + (f + 1) + 1 := ⟨fuel - c - 2, by have := fuel_big; omega⟩
    have em : (-1 : Int32) + 1 = nI 0 := by decide
    have em0 : nI 0 = 0 := by decide
    rw [Nat.sub_self] at hrun r3
    refine ⟨m', ?_, r1, ?_⟩
    · have hr := hrun (f + 1) fuel (by have := fuel_big; omega)
      rw [en29] at hr
      have s1 := st29 (f := c + (f + 1)) (g := 0) (x := nI (r + 1)) (s := up2 (up2 m 0 43 (-1)) 41 0 (-1)) (by omega)
      rw [← ef, up2_at, em, uu, em0] at s1
      rw [em0] at hr
      exact s1.trans hr
    · rw [plS, List.range_eq_range']
      exact r3
end planM
