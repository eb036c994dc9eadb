/-! the day's steps on the state, and the class's rows for them -/
def fp1 (n : Nat) (K D : SS) (g : Nat) : Int32 := if (if K 0 1 = 2 then oneT K D (K 4 g) (K 7 g) n else -9) = -9 then oneT K D (K 4 g) (-1) n else (if K 0 1 = 2 then oneT K D (K 4 g) (K 7 g) n else -9)
def fp2 (n : Nat) (K D : SS) (g : Nat) : Int32 := if K 0 3 = 0 then -9 else twoT K D (K 4 g) (n - 1) 0
def fp (n : Nat) (K D : SS) (g : Nat) : Int32 := if fp1 n K D g = -9 then fp2 n K D g else fp1 n K D g
def fpD (n : Nat) (K D : SS) (g : Nat) : SS := if fp1 n K D g = -9 then (if fp2 n K D g = -9 then D else up2 (up2 D 7 (fp2 n K D g).toNatClampNeg (nI g)) 7 ((fp2 n K D g).toNatClampNeg + 1) (nI g)) else up2 D 7 (fp1 n K D g).toNatClampNeg (nI g)
theorem fp1_c (n : Nat) (K D : SS) (g : Nat) : fp1 n K D g = -9 ∨ ∃ j, j < n ∧ fp1 n K D g = nI j := by
  unfold fp1
  by_cases q : K 0 1 = 2
  · simp only [if_pos q]
    split
    · exact oneT_c ..
    · exact oneT_c ..
  · simp only [if_neg q, if_true]
    exact oneT_c ..
theorem fp2_c (n : Nat) (K D : SS) (g : Nat) : fp2 n K D g = -9 ∨ ∃ j, j + 1 < n ∧ fp2 n K D g = nI j ∧ D 7 j = -1 ∧ D 7 (j + 1) = -1 := by
  unfold fp2
  split
  · exact Or.inl rfl
  · rcases twoT_c K D (K 4 g) (n - 1) 0 with e | ⟨j, h1, h2, h3⟩
    · exact Or.inl e
    · exact Or.inr ⟨j, by omega, h3⟩
theorem nI_ne9 {j : Nat} (h : j < 1000) : ¬ nI j = -9 := by rw [i_eq, nI_T (by omega), tm9]; omega
section dayD
variable {G : GG} {o h n k : Nat} {K : SS} {L : List Nat} {b : SS}
theorem find_ev (hb : CB G o h n k K L b) (D : SS) {g : Nat} (hg : g < k) : CD_findPlace G o (lay o b D) (nI g) = some (fp n K D g, lay o b (fpD n K D g)) := by
  have hn := hb.n6
  have hk := hb.k8
  obtain ⟨a, ha, hm, -, -, z1, -, -, z4, -⟩ := hb.gg g hg
  have key : CD_findPlace_52 G o (nI g) a (fp1 n K D g) (lay o b D) = some (fp n K D g, lay o b (fpD n K D g)) := by
    unfold CD_findPlace_52 CD_findPlace_90 CD_findPlace_113
    rw [hb.r6, hm, if_pos rfl, z1, two_ev hb, bnd_s]
    rcases fp1_c n K D g with e | ⟨j, hj, e⟩
    · have f1 : fp n K D g = fp2 n K D g := by unfold fp; rw [if_pos e]
      have f2 : fpD n K D g = if fp2 n K D g = -9 then D else up2 (up2 D 7 (fp2 n K D g).toNatClampNeg (nI g)) 7 ((fp2 n K D g).toNatClampNeg + 1) (nI g) := by unfold fpD; rw [if_pos e]
      rw [f1, f2, if_pos e, if_pos rfl]
      have f3 := fp2_c n K D g
      unfold fp2 at f3 ⊢
      by_cases q : K 0 3 = 0
      · simp only [if_pos q, if_true]
      · simp only [if_neg q] at f3 ⊢
        rcases f3 with e2 | ⟨j, hj, e2, -⟩
        · simp only [e2, if_true]
        · rw [e2, if_neg (nI_ne9 (by omega)), if_neg (nI_ne9 (by omega)), if_pos (inb_nI (by omega) (by omega)), nI_s, if_pos (inb_nI (by omega) (by omega)), cl_nI (by omega), cl_nI (by omega), lay_u7, lay_u7]
    · have f1 : fp n K D g = fp1 n K D g := by unfold fp; rw [if_neg (by rw [e]; exact nI_ne9 (by omega))]
      have f2 : fpD n K D g = up2 D 7 (fp1 n K D g).toNatClampNeg (nI g) := by unfold fpD; rw [if_neg (by rw [e]; exact nI_ne9 (by omega))]
      rw [f1, f2, e, if_neg (nI_ne9 (by omega)), if_pos (inb_nI (by omega) (by omega)), cl_nI (by omega), lay_u7]
  unfold CD_findPlace CD_findPlace_35
  rw [if_pos (inb_nI (by omega) (by omega)), cl_nI (by omega), ha]
  simp only [gld, hb.r3, z1, z4, one_ev hb, bnd_s, hm, if_true]
  unfold fp1 at key
  by_cases q : K 0 1 = 2
  · simp only [if_pos q] at key ⊢
    by_cases q2 : oneT K D (K 4 g) (K 7 g) n = -9
    · simp only [if_pos q2] at key ⊢
      exact key
    · simp only [if_neg q2] at key ⊢
      exact key
  · simp only [if_neg q, if_true] at key ⊢
    exact key
def stayN (K : SS) (g : Nat) (w : Int32) : Int32 := if K 3 g = 0 then K 6 g else if K 3 g = 1 then 2 * K 6 g else if w ≤ 0 then 2 * K 6 g else 2 * K 6 g + 2 * K 6 g / 9
/-- the state after a group has sat down (where a place was found) -/
def sitD (n : Nat) (K : SS) (L : List Nat) (D : SS) (g : Nat) (x : Int32) : SS :=
  up2 (up2 (up2 (up2 (up2 (fpD n K D g) 1 g 5) 2 g (fp n K D g)) 3 g x) 4 g (x + stayN K g (sumL L (wv D (nI g))))) 5 g (x - K 5 g)
theorem fpD_row {n : Nat} {K D : SS} {g a : Nat} (h : a ≠ 7) : fpD n K D g a = D a := by
  unfold fpD
  repeat' split
  · rfl
  · rw [up2_row h, up2_row h]
  · rw [up2_row h]
theorem sumL_same {L : List Nat} {f g : Nat → Int32} (h : ∀ a, a ∈ L → f a = g a) : sumL L f = sumL L g := by
  unfold sumL
  exact foldl_same L 0 (fun b a ha => by rw [h a ha])
theorem sit_ev (hb : CB G o h n k K L b) (D : SS) {g : Nat} (hg : g < k) (x : Int32) : CD_sitDown G o (lay o b D) (nI g) x = if fp n K D g = -9 then some (0, lay o b D) else some (1, lay o b (sitD n K L D g x)) := by
  have hk := hb.k8
  obtain ⟨a, ha, hm, hk2, z0, z1, z2, z3, z4, -⟩ := hb.gg g hg
  unfold CD_sitDown CD_sitDown_60
  rw [find_ev hb D hg, bnd_s]
  by_cases q : fp n K D g = -9
  · have : fpD n K D g = D := by
      unfold fp at q
      unfold fpD
      split
      · rename_i e
        rw [if_pos e] at q
        rw [if_pos q]
      · rename_i e
        rw [if_neg e] at q
        exact absurd q e
    rw [if_pos q, if_pos q, nb0, if_pos rfl, this]
  · rw [if_neg q, if_neg q]
    simp only [inb_nI (show g < 8 by omega) (show 8 < 2147483648 by omega), if_true, cl_nI (show g < 2147483648 by omega), ha, gld, lay_u1, lay_u2, lay_u3, others_ev hb, bnd_s, hm, staysC _ hk2, nb1, lay_u4, lay_u5, z2, z3]
    have e1 : sumL L (wv (up2 (up2 (up2 (fpD n K D g) 1 g 5) 2 g (fp n K D g)) 3 g x) (nI g)) = sumL L (wv D (nI g)) := by
      apply sumL_same
      intro c hc
      have hc8 : c < k := hb.2.2.2.2.2.2.2.2.1 c hc
      unfold wv
      by_cases e : c = g
      · subst e; simp
      · have : ¬ nI c = nI g := by rw [nI_eq_iff (by omega) (by omega)]; exact e
        have e2 : up2 (up2 (up2 (fpD n K D g) 1 g 5) 2 g (fp n K D g)) 3 g x 1 c = D 1 c := by
          rw [up2_row (by omega), up2_row (by omega), up2_el, if_neg (fun z => e z.2), fpD_row (by omega)]
        rw [if_neg this, if_neg this, e2]
    rw [e1]
    unfold sitD stayN
    rw [z0]
    have k0 : nI (gk G a) = 0 ↔ gk G a = 0 := by rw [show (0 : Int32) = nI 0 from by decide, nI_eq_iff (by omega) (by omega)]
    have k1 : nI (gk G a) = 1 ↔ gk G a = 1 := by rw [show (1 : Int32) = nI 1 from by decide, nI_eq_iff (by omega) (by omega)]
    simp only [k0, k1]
    by_cases w : sumL L (wv D (nI g)) ≤ 0
    · simp only [if_pos w, if_true]
      try rfl
    · simp only [if_neg w]
      try rfl
def callStep (n : Nat) (K : SS) (L : List Nat) (x : Int32) (D : SS) (g : Nat) : SS :=
  if D 1 g = 4 then (if fp n K D g = -9 then (if x - K 5 g < K 0 2 then D else up2 (up2 D 1 g 1) 5 g (x - K 5 g)) else sitD n K L D g x) else D
theorem call_ev (hb : CB G o h n k K L b) (D : SS) (x : Int32) : CD_callWaiting G o (lay o b D) x = some (lay o b (L.foldl (callStep n K L x) D)) := by
  have hl := hb.l8
  have hk8 := hb.k8
  unfold CD_callWaiting
  refine ordLoop L (fun f i D => CD_callWaiting_2 G o f x (nI i) (lay o b D)) (fun D => some (lay o b D)) (callStep n K L x) ?_ ?_ fuel D (by have := fuel_big; omega)
  · intro f D
    try dsimp only
    rw [CD_callWaiting_2, hb.rl, if_pos (le_ye (Nat.le_refl _) (by omega))]
  · intro f i D hi
    have hg := hb.rk hi
    try dsimp only
    rw [CD_callWaiting_2, hb.rl, if_neg (le_no hi (by omega)), cl_nI (by omega), hb.ro D hi]
    generalize L.getD i 0 = g at hg ⊢
    obtain ⟨a, ha, hm, hk2, z0, z1, z2, z3, z4, -⟩ := hb.gg g hg
    unfold CD_callWaiting_81 callStep
    simp only [inb_nI (show i < 8 by omega) (show 8 < 2147483648 by omega), inb_nI (show g < 8 by omega) (show 8 < 2147483648 by omega), if_true, cl_nI (show g < 2147483648 by omega), ha, gld, lay_1, nI_s, sit_ev hb D hg, z2]
    by_cases q : D 1 g = 4
    · rw [if_pos q, if_pos q]
      by_cases q2 : fp n K D g = -9
      · rw [if_pos q2, if_pos q2, bnd_s, if_pos rfl, hb.r4]
        by_cases q3 : x - K 5 g < K 0 2
        · rw [if_pos q3, if_pos q3]
        · rw [if_neg q3, if_neg q3, lay_u1, lay_u5]
      · rw [if_neg q2, if_neg q2, bnd_s, if_neg (by decide)]
    · rw [if_neg q, if_neg q]
def comeStep (n : Nat) (K : SS) (L : List Nat) (x : Int32) (D : SS) (g : Nat) : SS :=
  if D 1 g = 3 ∧ K 5 g = x then (if K 8 g ≤ takenN D n then (if fp n K D g = -9 then up2 D 1 g (if K 0 2 ≤ 0 then 1 else 4) else sitD n K L D g x) else up2 D 1 g 2) else D
theorem come_ev (hb : CB G o h n k K L b) (D : SS) (x : Int32) : CD_letCome G o (lay o b D) x = some (lay o b (L.foldl (comeStep n K L x) D)) := by
  have hl := hb.l8
  have hk8 := hb.k8
  unfold CD_letCome
  refine ordLoop L (fun f i D => CD_letCome_2 G o f x (nI i) (lay o b D)) (fun D => some (lay o b D)) (comeStep n K L x) ?_ ?_ fuel D (by have := fuel_big; omega)
  · intro f D
    try dsimp only
    rw [CD_letCome_2, hb.rl, if_pos (le_ye (Nat.le_refl _) (by omega))]
  · intro f i D hi
    have hg := hb.rk hi
    try dsimp only
    rw [CD_letCome_2, hb.rl, if_neg (le_no hi (by omega)), cl_nI (by omega), hb.ro D hi]
    generalize L.getD i 0 = g at hg ⊢
    obtain ⟨a, ha, hm, hk2, z0, z1, z2, z3, z4, z5⟩ := hb.gg g hg
    unfold CD_letCome_98 CD_letCome_99 comeStep
    simp only [inb_nI (show i < 8 by omega) (show 8 < 2147483648 by omega), inb_nI (show g < 8 by omega) (show 8 < 2147483648 by omega), if_true, cl_nI (show g < 2147483648 by omega), ha, gld, lay_1, nI_s, sit_ev hb D hg, z2, z5, taken_ev hb, bnd_s]
    by_cases q : D 1 g = 3
    · by_cases q1 : K 5 g = x
      · rw [if_pos q, if_pos q1, if_pos (And.intro q q1)]
        by_cases q2 : K 8 g ≤ takenN D n
        · rw [if_pos q2, if_pos q2]
          by_cases q3 : fp n K D g = -9
          · rw [if_pos q3, if_pos q3, bnd_s, if_pos rfl, hb.r4, lay_u1, lay_u1]
            by_cases q4 : K 0 2 ≤ 0
            · rw [if_pos q4, if_pos q4]
            · rw [if_neg q4, if_neg q4]
          · rw [if_neg q3, if_neg q3, bnd_s, if_neg (by decide)]
        · rw [if_neg q2, if_neg q2, lay_u1]
      · rw [if_pos q, if_neg q1, if_neg (fun z => q1 (And.right z))]
    · rw [if_neg q, if_neg (fun z => q (And.left z))]
def overStep (n : Nat) (x : Int32) (D : SS) (g : Nat) : SS := if D 1 g = 5 ∧ ¬ x < D 4 g then gup n (up2 D 1 g 0) (nI g) else D
theorem over_ev (hb : CB G o h n k K L b) (D : SS) (x : Int32) : CD_goWhoseTimeIsOver G o (lay o b D) x = some (lay o b (L.foldl (overStep n x) D)) := by
  have hl := hb.l8
  have hk8 := hb.k8
  unfold CD_goWhoseTimeIsOver
  refine ordLoop L (fun f i D => CD_goWhoseTimeIsOver_2 G o f x (nI i) (lay o b D)) (fun D => some (lay o b D)) (overStep n x) ?_ ?_ fuel D (by have := fuel_big; omega)
  · intro f D
    try dsimp only
    rw [CD_goWhoseTimeIsOver_2, hb.rl, if_pos (le_ye (Nat.le_refl _) (by omega))]
  · intro f i D hi
    have hg := hb.rk hi
    try dsimp only
    rw [CD_goWhoseTimeIsOver_2, hb.rl, if_neg (le_no hi (by omega)), cl_nI (by omega), hb.ro D hi]
    generalize L.getD i 0 = g at hg ⊢
    unfold CD_goWhoseTimeIsOver_49 overStep
    simp only [inb_nI (show i < 8 by omega) (show 8 < 2147483648 by omega), inb_nI (show g < 8 by omega) (show 8 < 2147483648 by omega), if_true, cl_nI (show g < 2147483648 by omega), lay_1, lay_4, nI_s, lay_u1, getUp_ev hb, bnd0_s]
    by_cases q : D 1 g = 5
    · by_cases q1 : x < D 4 g
      · rw [if_pos q, if_pos q1, if_neg (fun z => (And.right z) q1)]
      · rw [if_pos q, if_neg q1, if_pos (And.intro q q1)]
    · rw [if_neg q, if_neg (fun z => q (And.left z))]
def nextStep (K D : SS) (c : Int32) (g : Nat) : Int32 :=
  if D 1 g = 3 then (if K 5 g < c then K 5 g else c) else if D 1 g = 4 then (if K 5 g + K 0 2 < c then K 5 g + K 0 2 else c) else if D 1 g = 5 then (if D 4 g < c then D 4 g else c) else c
theorem next_ev (hb : CB G o h n k K L b) (D : SS) (x : Int32) : CD_nextMinute G o (lay o b D) x = some (L.foldl (nextStep K D) (if K 0 4 ≤ x then 400 else K 0 4), lay o b D) := by
  have hl := hb.l8
  have hk8 := hb.k8
  have key : ∀ c, CD_nextMinute_27 G o fuel c 0 (lay o b D) = some (L.foldl (nextStep K D) c, lay o b D) := by
    intro c
    refine ordLoop L (fun f i c => CD_nextMinute_27 G o f c (nI i) (lay o b D)) (fun c => some (c, lay o b D)) (nextStep K D) ?_ ?_ fuel c (by have := fuel_big; omega)
    · intro f c
      try dsimp only
      rw [CD_nextMinute_27, hb.rl, if_pos (le_ye (Nat.le_refl _) (by omega))]
    · intro f i c hi
      have hg := hb.rk hi
      try dsimp only
      rw [CD_nextMinute_27, hb.rl, if_neg (le_no hi (by omega)), cl_nI (by omega), hb.ro D hi, hb.r4]
      generalize L.getD i 0 = g at hg ⊢
      obtain ⟨a, ha, hm, hk2, z0, z1, z2, z3, z4, z5⟩ := hb.gg g hg
      unfold CD_nextMinute_132 nextStep
      simp only [inb_nI (show i < 8 by omega) (show 8 < 2147483648 by omega), inb_nI (show g < 8 by omega) (show 8 < 2147483648 by omega), if_true, cl_nI (show g < 2147483648 by omega), ha, gld, lay_1, lay_4, nI_s, z2]
      by_cases q : D 1 g = 3
      · rw [if_pos q, if_pos q]
      · by_cases q1 : D 1 g = 4
        · rw [if_neg q, if_pos q1, if_neg q, if_pos q1]
        · by_cases q2 : D 1 g = 5
          · rw [if_neg q, if_neg q1, if_pos q2, if_neg q, if_neg q1, if_pos q2]
          · rw [if_neg q, if_neg q1, if_neg q2, if_neg q, if_neg q1, if_neg q2]
  unfold CD_nextMinute CD_nextMinute_24
  rw [hb.r5, key, key]
  split <;> rfl
def cv (K D : SS) (g : Nat) : Int32 := if D 3 g = -9 then 0 else K 4 g * (5 + (D 4 g - D 3 g) / (if K 3 g = 0 then 10 else 20))
theorem coinOf_ev (hb : CB G o h n k K L b) (D : SS) {g : Nat} (hg : g < k) : CD_coinOf G o (lay o b D) (nI g) = some (cv K D g, lay o b D) := by
  have hk8 := hb.k8
  obtain ⟨a, ha, hm, hk2, z0, z1, z2, z3, z4, z5⟩ := hb.gg g hg
  have k0 : nI (gk G a) = 0 ↔ gk G a = 0 := by rw [show (0 : Int32) = nI 0 from by decide, nI_eq_iff (by omega) (by omega)]
  unfold CD_coinOf CD_coinOf_37 cv
  simp only [inb_nI (show g < 8 by omega) (show 8 < 2147483648 by omega), if_true, cl_nI (show g < 2147483648 by omega), ha, gld, lay_3, lay_4, coinC _ hk2, bnd_s, z1, z0, k0]
  split <;> rfl
theorem coins_ev (hb : CB G o h n k K L b) (D : SS) : CD_coinInAll G o (lay o b D) = some (sumL L (cv K D), lay o b D) := by
  have hl := hb.l8
  unfold CD_coinInAll sumL
  refine ordLoop L (fun f i c => CD_coinInAll_4 G o f c (nI i) (lay o b D)) (fun c => some (c, lay o b D)) (fun c g => c + cv K D g) ?_ ?_ fuel 0 (by have := fuel_big; omega)
  · intro f c
    try dsimp only
    rw [CD_coinInAll_4, hb.rl, if_pos (le_ye (Nat.le_refl _) (by omega))]
  · intro f i c hi
    have hg := hb.rk hi
    try dsimp only
    rw [CD_coinInAll_4, hb.rl, if_neg (le_no hi (by omega)), if_pos (inb_nI (by omega) (by omega)), cl_nI (by omega), hb.ro D hi, coinOf_ev hb D hg, bnd_s, nI_s]
end dayD
