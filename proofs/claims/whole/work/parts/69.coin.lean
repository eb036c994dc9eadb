/-! the coin of a day as a number; the cafe told, as a state's settings -/
def FB (k m : Nat) (D : SS) : Prop := ∀ g, g < k → D 3 g = -9 ∨ ∃ q r, q ≤ r ∧ q ≤ m ∧ r ≤ 1000 ∧ D 3 g = nI q ∧ D 4 g = nI r
theorem fold_pres {σ : Type} {step : σ → Nat → σ} {P : σ → Prop} : ∀ (l : List Nat) (D : σ), (∀ D g, g ∈ l → P D → P (step D g)) → P D → P (l.foldl step D)
  | [], _, _, h => h
  | a :: l, D, h, hP => by
    rw [List.foldl_cons]
    exact fold_pres l _ (fun D g hg => h D g (List.mem_cons_of_mem _ hg)) (h D a (List.mem_cons_self ..) hP)
section coinB
variable {n k : Nat} {K D : SS} {lo : Int32} {L : List Nat} {m : Nat}
theorem FB.same {D' : SS} (h : FB k m D) (h3 : ∀ g, D' 3 g = D 3 g) (h4 : ∀ g, D' 4 g = D 4 g) : FB k m D' := by
  intro g hg
  rw [h3, h4]
  exact h g hg
theorem FB.sit (ok : KOk n k K) (hm : m ≤ 800) (h : FB k m D) {g : Nat} (hg : g < k) : FB k m (sitD n K L D g (nI m)) := by
  intro c hc
  obtain ⟨-, s3, s4, -⟩ := sitD_rows (n := n) (K := K) (L := L) D g (nI m) c
  rw [s3, s4]
  by_cases e : c = g
  · rw [if_pos e, if_pos e]
    obtain ⟨y, y1, y2, ey⟩ := stay_b ok hg (sumL L (wv D (nI g)))
    exact Or.inr ⟨m, m + y, by omega, by omega, by omega, rfl, by rw [ey, nI_add]⟩
  · rw [if_neg e, if_neg e]; exact h c hc
theorem min_FB (ok : KOk n k K) (hL : ∀ g, g ∈ L → g < k) (hm : m ≤ 800) (h : FB k m D) (hk8 : ∀ g, g < 8 → sunH K (L.foldl (overStep n (nI m)) D) (nI g) n = true → g < k) : FB k m (minD n K L (nI m) D) := by
  unfold minD
  have h1 : FB k m (L.foldl (overStep n (nI m)) D) := by
    apply fold_pres L D _ h
    intro D g _ h
    exact h.same (fun c => ov_o (by omega) (by omega)) (fun c => ov_o (by omega) (by omega))
  have h2 : FB k m (if nI m = K 0 4 then driveD n K (nI m) (L.foldl (overStep n (nI m)) D) else L.foldl (overStep n (nI m)) D) := by
    split
    · unfold driveD
      apply fold_pres
      · intro D' g hg h
        rw [List.mem_range] at hg
        unfold riseStep
        repeat' split
        · rename_i q _
          intro c hc
          by_cases e : c = g
          · subst e
            rw [up2_row (by omega), up2_row (by omega), up2_at]
            rcases h c hc with z | ⟨q, r, z1, z2, z3, z4, z5⟩
            · exact Or.inl z
            · exact Or.inr ⟨q, m, z2, z2, by omega, z4, rfl⟩
          · have := h c hc
            rw [up2_row (by omega), up2_row (by omega), up2_el, if_neg (fun z => e z.2), up2_row (by omega)]
            exact this
        · exact h.same (fun c => by rw [fpD_row (by omega)]) (fun c => by rw [fpD_row (by omega)])
        · exact h
      · exact h1.same (fun c => by unfold dr2 dr1; simp) (fun c => by unfold dr2 dr1; simp)
    · exact h1
  have h3 : FB k m (L.foldl (callStep n K L (nI m)) (if nI m = K 0 4 then driveD n K (nI m) (L.foldl (overStep n (nI m)) D) else L.foldl (overStep n (nI m)) D)) := by
    apply fold_pres L _ _ h2
    intro D g hg h
    unfold callStep
    repeat' split
    · exact h
    · exact h.same (fun c => by rw [up2_row (by omega), up2_row (by omega)]) (fun c => by rw [up2_row (by omega), up2_row (by omega)])
    · exact h.sit ok hm (hL g hg)
    · exact h
  apply fold_pres L _ _ h3
  intro D g hg h
  unfold comeStep
  repeat' split
  · exact h.same (fun c => by rw [up2_row (by omega)]) (fun c => by rw [up2_row (by omega)])
  · exact h.same (fun c => by rw [up2_row (by omega)]) (fun c => by rw [up2_row (by omega)])
  · exact h.sit ok hm (hL g hg)
  · exact h.same (fun c => by rw [up2_row (by omega)]) (fun c => by rw [up2_row (by omega)])
  · exact h
theorem it_FB (ok : KOk n k K) {D0 : SS} (h0 : Init k D0) : ∀ m, m ≤ 500 → FB k m (itD n K (ordL K lo k) D0 m)
  | 0, _ => fun g hg => Or.inl (h0.1 g hg).2.2.1
  | m + 1, hm => by
    have hL : ∀ g, g ∈ ordL K lo k ↔ g < k ∧ ¬ nI g = lo := fun g => ordL_mem ok.ck
    have ih := it_FB ok h0 m (by omega)
    have hJ := it_J ok hL h0 m (by omega)
    have hO := over_all ok.2.1 hL (by omega) hJ
    have := min_FB ok (fun g hg => ((hL g).mp hg).1) (by omega) ih (fun g hg hs => by
      obtain ⟨t, ht, -, e⟩ := sunH_iff.mp hs
      have hk := ok.2.1
      rcases hO.1.2.hv t ht with z | z | ⟨g', hg', z⟩
      · rw [z] at e; exact absurd e.symm (nI_ne1 (by omega))
      · rw [z] at e; exact absurd e.symm (nI_ne2 (by omega))
      · rw [z, nI_eq_iff (by omega) (by omega)] at e; omega)
    intro g hg
    rcases this g hg with z | ⟨q, r, z1, z2, z3, z4, z5⟩
    · exact Or.inl z
    · exact Or.inr ⟨q, r, z1, by omega, z3, z4, z5⟩
theorem nI_subN {a c : Nat} (h : c ≤ a) (ha : a < 2147483648) : nI a - nI c = nI (a - c) := by
  rw [i_eq, i_sub (by rw [nI_T ha, nI_T (by omega)]; omega) (by rw [nI_T ha, nI_T (by omega)]; omega), nI_T ha, nI_T (by omega), nI_T (by omega)]
  omega
theorem div10_nI : ∀ y, y < 1001 → nI y / 10 = nI (y / 10) := by decide +kernel
theorem div20_nI : ∀ y, y < 1001 → nI y / 20 = nI (y / 20) := by decide +kernel
theorem mul_nI {a c : Nat} (ha : a < 10000) (hc : c < 10000) : nI a * nI c = nI (a * c) := by
  have : a * c < 10000 * 10000 := Nat.mul_lt_mul'' ha hc
  rw [i_eq, i_mul, nI_T (by omega), nI_T (by omega), nI_T (by omega)]
  · simp
  · rw [nI_T (by omega), nI_T (by omega)]
    have : (0 : Int) ≤ (a : Int) * c := by rw [← Int.natCast_mul]; omega
    omega
  · rw [nI_T (by omega), nI_T (by omega), ← Int.natCast_mul]
    omega
theorem nI_ne9b (j : Nat) (h : j < 100000) : ¬ nI j = -9 := by rw [i_eq, nI_T (by omega), tm9]; omega
theorem cv_b (ok : KOk n k K) (h : FB k m D) {g : Nat} (hg : g < k) : ∃ z, z ≤ 630 ∧ cv K D g = nI z := by
  unfold cv
  rcases h g hg with e | ⟨q, r, h1, h2, h3, e3, e4⟩
  · rw [if_pos e]; exact ⟨0, by omega, by decide⟩
  · rw [e3, if_neg (nI_ne9b q (by omega)), e4, nI_subN h1 (by omega)]
    obtain ⟨-, ⟨s1, s2⟩, -⟩ := ok.2.2.2 g hg
    have es := i_nat (x := K 4 g) (by omega)
    obtain ⟨z, hz, ez⟩ : ∃ z, z ≤ 6 ∧ K 4 g = nI z := ⟨_, by omega, es⟩
    rw [ez]
    have e5 : (5 : Int32) = nI 5 := by decide
    split
    · rw [div10_nI _ (by omega), e5, nI_add, mul_nI (by omega) (by omega)]
      refine ⟨_, ?_, rfl⟩
      calc z * (5 + (r - q) / 10) ≤ 6 * 105 := Nat.mul_le_mul hz (by omega)
        _ = 630 := by omega
    · rw [div20_nI _ (by omega), e5, nI_add, mul_nI (by omega) (by omega)]
      refine ⟨_, ?_, rfl⟩
      calc z * (5 + (r - q) / 20) ≤ 6 * 105 := Nat.mul_le_mul hz (by omega)
        _ = 630 := by omega
theorem sum_b {f : Nat → Int32} : ∀ (l : List Nat), (∀ g, g ∈ l → ∃ z, z ≤ 630 ∧ f g = nI z) → ∃ Z, Z ≤ 630 * l.length ∧ sumL l f = nI Z
  | [], _ => ⟨0, by omega, (show (0 : Int32) = nI 0 by decide)⟩
  | a :: l, h => by
    obtain ⟨z, hz, e⟩ := h a (List.mem_cons_self ..)
    obtain ⟨Z, hZ, E⟩ := sum_b l (fun g hg => h g (List.mem_cons_of_mem _ hg))
    rw [sumL_cons, e, E, nI_add]
    exact ⟨_, by rw [List.length_cons]; omega, rfl⟩
end coinB
def DZ : SS := fun a _ => if a = 1 then 3 else if a = 5 then 0 else if a = 7 then -1 else -9
theorem DZ_init (k : Nat) : Init k DZ := ⟨fun g _ => ⟨rfl, rfl, rfl, rfl, rfl⟩, fun t _ => rfl⟩
def coinK (n k : Nat) (K : SS) (lo : Int32) : Int32 := sumL (ordL K lo k) (cv K (itD n K (ordL K lo k) DZ 400))
theorem coinK_b {n k : Nat} {K : SS} (ok : KOk n k K) (lo : Int32) : ∃ Z, Z ≤ 5040 ∧ coinK n k K lo = nI Z := by
  unfold coinK
  obtain ⟨Z, h, e⟩ := sum_b (f := cv K (itD n K (ordL K lo k) DZ 400)) (ordL K lo k) (fun g hg => cv_b ok (it_FB (lo := lo) ok (DZ_init k) 400 (by omega)) ((ordL_mem ok.ck).mp hg).1)
  have hl := ordL_len (lo := lo) ok.ck
  have hk := ok.2.1
  exact ⟨Z, by omega, e⟩
def mkM (n k : Nat) (K : SS) (lo : Int32) : SS := fun a c => if a = 0 then (if c = 23 then nI n else if c = 16 then nI k else if c = 26 then K 0 1 else if c = 27 then K 0 2 else if c = 28 then K 0 4 else if c = 10 then K 0 3 else lo) else if a = 24 then K 1 c else if a = 25 then K 2 c else if a = 17 then K 3 c else if a = 18 then K 4 c else if a = 19 then K 5 c else if a = 20 then K 6 c else if a = 21 then K 7 c else K 8 c
theorem mkM_MB (n k : Nat) (K : SS) (lo : Int32) : MB n k K lo (mkM n k K lo) := by
  unfold MB mkM
  simp
theorem coin_any {n k : Nat} {K : SS} (ok : KOk n k K) (lo : Int32) {D0 : SS} (h0 : Init k D0) : sumL (ordL K lo k) (cv K (itD n K (ordL K lo k) D0 400)) = coinK n k K lo := by
  obtain ⟨m1, e1, -, ⟨b1, r1⟩, -⟩ := goDay_ev ok (mkM_MB n k K lo) h0
  obtain ⟨m2, e2, -, ⟨b2, r2⟩, -⟩ := goDay_ev ok (mkM_MB n k K lo) (DZ_init k)
  rw [e1] at e2
  injection e2 with e2
  subst e2
  rw [← end_sum ok h0 r1, end_sum ok (DZ_init k) r2]
  rfl
theorem goDay_coin {n k : Nat} {K : SS} {lo : Int32} (ok : KOk n k K) {m0 D0 : SS} (hM : MB n k K lo m0) (h0 : Init k D0) : ∃ m', M_goDay m0 = some m' ∧ M_allCoin m' = some (coinK n k K lo, m') ∧ (∀ a, a < 30 ∨ 40 < a → m' a = m0 a) ∧ (∃ b', RM n k K b' m' (itD n K (ordL K lo k) D0 400)) ∧ ∀ j, j < 400 → m' 38 j = takenN (itD n K (ordL K lo k) D0 (j + 1)) n ∧ m' 39 j = sumL (List.range k) (wv (itD n K (ordL K lo k) D0 (j + 1)) (-9)) := by
  obtain ⟨m', e1, h1, ⟨b', r1⟩, h2⟩ := goDay_ev ok hM h0
  refine ⟨m', e1, ?_, h1, ⟨b', r1⟩, h2⟩
  rw [allCoin_ev ok.2.1 (show m' 0 16 = nI k by rw [h1 0 (by omega)]; exact hM.2.1), end_sum ok h0 r1, coin_any ok lo h0]
theorem lay_fr {o : Nat} {s D : SS} {f : Nat → Int32} {v : Int32} {l a : Nat} (h : a < o ∨ o + 7 < a) : lay o (base o (up2 s o 9 v) f l) D a = s a := by
  unfold lay base
  rw [if_neg (by omega), if_neg (by omega), if_neg (by omega), if_neg (by omega), if_neg (by omega), if_neg (by omega), up2_row (by omega), ups_row (by omega), up2_row (by omega)]
theorem run_coin {G : GG} {o h n k : Nat} {K s : SS} (lo : Int32) (ho : h + 2 < o) (ho8 : 8 ≤ o) (hh : h = 1 ∨ h = 4) (hC : CBh h n K s) (hg : CBg G k K) (ok : KOk n k K) (hrain : K 0 4 = -9 ∨ (0 ≤ (K 0 4).toInt ∧ (K 0 4).toInt < 400)) (h7 : s 7 1 = nI k) :
    ∃ s', CD_run G o h s lo 399 = some (coinK n k K lo, s') ∧ ∀ a, a < o ∨ o + 7 < a → s' a = s a := by
  obtain ⟨f, D0, h0, -, e⟩ := run_ev lo ho ho8 hh hC hg ok hrain h7 (show 399 < 400 by omega)
  rw [coin_any ok lo h0] at e
  exact ⟨_, e, fun a ha => lay_fr ha⟩
def Kof (m : SS) : SS := fun a c => if a = 0 then (if c = 1 then m 0 8 else if c = 2 then m 0 9 else if c = 3 then m 0 10 else m 0 11) else if a = 1 then m 6 c else if a = 2 then m 7 c else if a = 3 then m 17 c else if a = 4 then m 18 c else if a = 5 then m 19 c else if a = 6 then m 20 c else if a = 7 then m 21 c else m 22 c
def RainOk (K : SS) : Prop := K 0 4 = -9 ∨ (0 ≤ (K 0 4).toInt ∧ (K 0 4).toInt < 400)
def Cfg (G : GG) (s m : SS) (n k : Nat) : Prop := m 0 5 = nI n ∧ m 0 16 = nI k ∧ s 1 2 = nI n ∧ s 7 1 = nI k ∧ KOk n k (Kof m) ∧ CBh 1 n (Kof m) s ∧ CBg G k (Kof m) ∧ RainOk (Kof m)
theorem cfg_mk {G : GG} {s m : SS} (hC : RCf s m) (hR : RGr G s m) : ∃ n k, Cfg G s m n k := by
  obtain ⟨n, hn, h1, h2, h3, ⟨h4, -⟩, ⟨h5, ⟨p, hp, ep⟩⟩, ⟨h6, -⟩, h7, hra⟩ := hC
  obtain ⟨k, hk, g1, g2, g3⟩ := hR
  refine ⟨n, k, h1, g2, h2, g1, ⟨hn, hk, ?_, ?_⟩, ⟨h2, h4, h5, h6, h7, ?_⟩, ?_, ?_⟩
  · show 0 ≤ (m 0 9).toInt ∧ (m 0 9).toInt ≤ 30
    rw [ep, nI_T (by omega)]; omega
  · intro g hg
    obtain ⟨a, q1, q2, q3, q4, q5, q6, q7, q8, q9, q10, b1, b2, b3, b4, b5⟩ := g3 g hg
    refine ⟨⟨gk G a, q3, q4⟩, b1, ⟨(m 19 g).toInt.toNat, by omega, (show m 19 g = _ from i_nat (by omega))⟩, ⟨(m 20 g).toInt.toNat, by omega, by omega, (show m 20 g = _ from i_nat (by omega))⟩, ?_⟩
    show ¬ m 21 g = -1
    intro z; rw [z, tm1] at b4; omega
  · intro t ht
    obtain ⟨e1, e2, -⟩ := h3 t ht
    exact ⟨e1, e2⟩
  · intro g hg
    obtain ⟨a, q1, q2, q3, q4, q5, q6, q7, q8, q9, q10, -⟩ := g3 g hg
    exact ⟨a, q1, q2, q3, q4, q6, q7, q8, q9, q10⟩
  · rcases hra with e | ⟨q, hq, e⟩
    · exact Or.inl e
    · right
      show 0 ≤ (m 0 11).toInt ∧ (m 0 11).toInt < 400
      rw [e, nI_T (by omega)]; omega
theorem layNow_ev {m : SS} {n : Nat} (h5 : m 0 5 = nI n) (hn : n ≤ 6) : ∃ m1, M_layNow m = some m1 ∧ (∀ a, a ≠ 0 → a ≠ 24 → a ≠ 25 → m1 a = m a) ∧ (∀ t, t < n → m1 24 t = m 6 t ∧ m1 25 t = m 7 t) ∧ (∀ c, m1 0 c = if c = 29 then -9 else if c = 28 then m 0 11 else if c = 27 then m 0 9 else if c = 26 then m 0 8 else if c = 23 then nI n else m 0 c) := by
  unfold M_layNow
  refine loopQ n (fun f i m' => M_layNow_10 f (nI i) m') (fun i m' => (∀ a, a ≠ 24 → a ≠ 25 → m' a = up2 m 0 23 (m 0 5) a) ∧ ∀ t, t < i → m' 24 t = m 6 t ∧ m' 25 t = m 7 t) (fun r => ∃ m1, r = some m1 ∧ (∀ a, a ≠ 0 → a ≠ 24 → a ≠ 25 → m1 a = m a) ∧ (∀ t, t < n → m1 24 t = m 6 t ∧ m1 25 t = m 7 t) ∧ (∀ c, m1 0 c = if c = 29 then -9 else if c = 28 then m 0 11 else if c = 27 then m 0 9 else if c = 26 then m 0 8 else if c = 23 then nI n else m 0 c)) ?_ ?_ fuel 0 _ (by omega) (by have := fuel_big; omega) ⟨fun a _ _ => rfl, fun t ht => by omega⟩
  · rintro f i m' hi ⟨h1, h2⟩
    right
    have i6 : inb (nI i) 6 = true := inb_nI (by omega) (by omega)
    have e5 : m' 0 5 = nI n := by rw [h1 0 (by omega) (by omega), up2_el, if_neg (by omega), h5]
    refine ⟨_, by try dsimp only
                  rw [M_layNow_10, e5, if_neg (le_no hi (by omega)), if_pos i6, if_pos i6, if_pos i6, if_pos i6, cl_nI (by omega), nI_s], ?_, ?_⟩
    · intro a h24 h25
      rw [up2_row h25, up2_row h24]; exact h1 a h24 h25
    · intro t ht
      by_cases e : t = i
      · subst e
        rw [up2_row (by omega), up2_at, up2_at, h1 6 (by omega) (by omega), h1 7 (by omega) (by omega), up2_row (by omega), up2_row (by omega)]
        exact ⟨rfl, rfl⟩
      · rw [up2_row (by omega), up2_el, if_neg (fun z => e z.2), up2_el, if_neg (fun z => e z.2), up2_row (by omega)]
        exact h2 t (by omega)
  · rintro f m' ⟨h1, h2⟩
    have h0 := h1 0 (by omega) (by omega)
    have e5 : m' 0 5 = nI n := by rw [h0, up2_el, if_neg (by omega), h5]
    try dsimp only
    rw [M_layNow_10, e5, if_pos (le_ye (Nat.le_refl n) (by omega))]
    refine ⟨_, rfl, ?_, ?_, ?_⟩
    · intro a a0 h24 h25
      rw [up2_row a0, up2_row a0, up2_row a0, up2_row a0, h1 a h24 h25, up2_row a0]
    · intro t ht
      rw [up2_row (by omega), up2_row (by omega), up2_row (by omega), up2_row (by omega)]
      exact h2 t ht
    · intro c
      simp only [up2_el, h0, h5]
      simp
theorem MB_gen {n k : Nat} {K b m : SS} (h23 : b 0 23 = nI n) (h16 : b 0 16 = nI k) (h26 : b 0 26 = K 0 1) (h27 : b 0 27 = K 0 2) (h28 : b 0 28 = K 0 4) (h10 : b 0 10 = K 0 3) (h29 : b 0 29 = -9) (hk : k ≤ 8) (ht : ∀ t, t < n → b 24 t = K 1 t ∧ b 25 t = K 2 t) (hb : ∀ a, 17 ≤ a → a ≤ 22 → b a = m a) (hK : ∀ a, 3 ≤ a → a ≤ 8 → K a = Kof m a) : MB n k K (-1) b := by
  refine ⟨h23, h16, h26, h27, h28, h10, ?_, ht, ?_⟩
  · intro g hg
    rw [h29]
    exact ⟨fun z => absurd z (nI_ne9 (by omega)), fun z => absurd z (nI_ne1 (by omega))⟩
  · intro g hg
    rw [hb 17 (by omega) (by omega), hb 18 (by omega) (by omega), hb 19 (by omega) (by omega), hb 20 (by omega) (by omega), hb 21 (by omega) (by omega), hb 22 (by omega) (by omega), hK 3 (by omega) (by omega), hK 4 (by omega) (by omega), hK 5 (by omega) (by omega), hK 6 (by omega) (by omega), hK 7 (by omega) (by omega), hK 8 (by omega) (by omega)]
    exact ⟨rfl, rfl, rfl, rfl, rfl, rfl⟩
def FM (m m' : SS) : Prop := (∀ a, 1 ≤ a → a < 24 ∨ 42 < a → m' a = m a) ∧ ∀ c, c < 23 → m' 0 c = m 0 c
theorem FM.rf (m : SS) : FM m m := ⟨fun _ _ _ => rfl, fun _ _ => rfl⟩
theorem FM.tr {a b c : SS} (h1 : FM a b) (h2 : FM b c) : FM a c := ⟨fun i p q => (h2.1 i p q).trans (h1.1 i p q), fun i p => (h2.2 i p).trans (h1.2 i p)⟩
theorem FM.kof {m m' : SS} (h : FM m m') : Kof m' = Kof m := by
  unfold Kof
  rw [h.2 8 (by omega), h.2 9 (by omega), h.2 10 (by omega), h.2 11 (by omega), h.1 6 (by omega) (by omega), h.1 7 (by omega) (by omega), h.1 17 (by omega) (by omega), h.1 18 (by omega) (by omega), h.1 19 (by omega) (by omega), h.1 20 (by omega) (by omega), h.1 21 (by omega) (by omega), h.1 22 (by omega) (by omega)]
theorem coinNow_ev {G : GG} {s m : SS} {n k : Nat} (h : Cfg G s m n k) {D0 : SS} (h0 : Init k D0) : ∃ m', M_coinNow m = some (coinK n k (Kof m) (-1), m') ∧ FM m m' ∧ (∃ b', RM n k (Kof m) b' m' (itD n (Kof m) (ordL (Kof m) (-1) k) D0 400)) ∧ (∀ j, j < 400 → m' 38 j = takenN (itD n (Kof m) (ordL (Kof m) (-1) k) D0 (j + 1)) n ∧ m' 39 j = sumL (List.range k) (wv (itD n (Kof m) (ordL (Kof m) (-1) k) D0 (j + 1)) (-9))) ∧ MB n k (Kof m) (-1) m' := by
  obtain ⟨h5, h16, -, -, ok, -, -, -⟩ := h
  obtain ⟨m1, e1, f1, f2, f3⟩ := layNow_ev h5 ok.1
  have hM : MB n k (Kof m) (-1) m1 := by
    refine MB_gen (m := m) ?_ ?_ ?_ ?_ ?_ ?_ ?_ ok.2.1 ?_ ?_ (fun a _ _ => rfl)
    · rw [f3]; rfl
    · rw [f3]; exact h16
    · rw [f3]; rfl
    · rw [f3]; rfl
    · rw [f3]; rfl
    · rw [f3]; rfl
    · rw [f3]; rfl
    · exact f2
    · intro a ha hb; exact f1 a (by omega) (by omega) (by omega)
  obtain ⟨m', e2, e3, g1, g2, g3⟩ := goDay_coin ok hM h0
  refine ⟨m', ?_, ?_, g2, g3, ?_⟩
  · unfold M_coinNow
    rw [e1, bnd0_s, e2, bnd0_s, e3, bnd_s]
  · refine ⟨fun a ha hb => ?_, fun c hc => ?_⟩
    · rw [g1 a (by omega), f1 a (by omega) (by omega) (by omega)]
    · rw [g1 0 (by omega), f3, if_neg (by omega), if_neg (by omega), if_neg (by omega), if_neg (by omega), if_neg (by omega)]
  · unfold MB at hM ⊢
    rw [g1 0 (by omega), g1 24 (by omega), g1 25 (by omega), g1 17 (by omega), g1 18 (by omega), g1 19 (by omega), g1 20 (by omega), g1 21 (by omega), g1 22 (by omega)]
    exact hM
theorem coinBy_ev {G : GG} {s m : SS} {n k : Nat} (h : Cfg G s m n k) (ru pa : Int32) (ok : KOk n k (up2 (up2 (Kof m) 0 1 ru) 0 2 pa)) : ∃ m', M_coinBy m ru pa = some (coinK n k (up2 (up2 (Kof m) 0 1 ru) 0 2 pa) (-1), m') ∧ FM m m' := by
  obtain ⟨h5, h16, -, -, -, -, -, -⟩ := h
  obtain ⟨m1, e1, f1, f2, f3⟩ := layNow_ev h5 ok.1
  have hM : MB n k (up2 (up2 (Kof m) 0 1 ru) 0 2 pa) (-1) (up2 (up2 m1 0 26 ru) 0 27 pa) := by
    refine MB_gen (m := m) ?_ ?_ ?_ ?_ ?_ ?_ ?_ ok.2.1 ?_ ?_ ?_
    · simp only [up2_el, f3]; simp
    · simp only [up2_el, f3]; simp [h16]
    · simp only [up2_el, f3]; simp
    · simp only [up2_el, f3]; simp
    · simp only [up2_el, f3]; simp [Kof]
    · simp only [up2_el, f3]; simp [Kof]
    · simp only [up2_el, f3]; simp
    · intro t ht
      rw [up2_row (by omega), up2_row (by omega), up2_row (by omega), up2_row (by omega)]
      rw [up2_row (by omega), up2_row (by omega), up2_row (by omega), up2_row (by omega)]
      exact f2 t ht
    · intro a ha hb
      rw [up2_row (by omega), up2_row (by omega)]
      exact f1 a (by omega) (by omega) (by omega)
    · intro a ha hb
      rw [up2_row (by omega), up2_row (by omega)]
  obtain ⟨m', e2, e3, g1, g2, g3⟩ := goDay_coin ok hM (DZ_init k)
  refine ⟨m', ?_, ?_⟩
  · unfold M_coinBy
    rw [e1, bnd0_s, e2, bnd0_s, e3, bnd_s]
  · refine ⟨fun a ha hb => ?_, fun c hc => ?_⟩
    · rw [g1 a (by omega), up2_row (by omega), up2_row (by omega), f1 a (by omega) (by omega) (by omega)]
    · rw [g1 0 (by omega), up2_el, if_neg (by omega), up2_el, if_neg (by omega), f3, if_neg (by omega), if_neg (by omega), if_neg (by omega), if_neg (by omega), if_neg (by omega)]
