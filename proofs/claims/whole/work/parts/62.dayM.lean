/-! the reference's day against the same state -/
def MB (n k : Nat) (K : SS) (lo : Int32) (b : SS) : Prop :=
  b 0 23 = nI n ∧ b 0 16 = nI k ∧ b 0 26 = K 0 1 ∧ b 0 27 = K 0 2 ∧ b 0 28 = K 0 4 ∧ b 0 10 = K 0 3 ∧ (∀ g, g < k → (nI g = b 0 29 ↔ nI g = lo)) ∧ (∀ t, t < n → b 24 t = K 1 t ∧ b 25 t = K 2 t) ∧
  ∀ g, g < k → b 17 g = K 3 g ∧ b 18 g = K 4 g ∧ b 19 g = K 5 g ∧ b 20 g = K 6 g ∧ b 21 g = K 7 g ∧ b 22 g = K 8 g
def stM (x : Int32) : Int32 := if x = 3 then 0 else if x = 5 then 1 else if x = 4 then 2 else if x = 1 then 3 else if x = 2 then 4 else 5
def cvM (K D : SS) (g : Nat) : Int32 := K 4 g * (5 + (D 4 g - D 3 g) / (if K 3 g = 0 then 10 else 20))
def RMt (K m D : SS) (t : Nat) : Prop := m 30 t = (if D 7 t < 0 then -9 else D 7 t) ∧ m 31 t = (if D 7 t = -2 then 1 else 0) ∧ (D 7 t = -2 → K 1 t = 0)
def RMg (K m D : SS) (g : Nat) : Prop := m 32 g = stM (D 1 g) ∧ m 33 g = D 2 g ∧ m 34 g = D 3 g ∧ m 35 g = D 4 g ∧ m 36 g = (if D 1 g = 0 then cvM K D g else 0) ∧ m 37 g = D 5 g ∧ (D 1 g = 3 → D 5 g = 0)
def RM (n k : Nat) (K b m D : SS) : Prop := (∀ a, a < 30 ∨ 37 < a → m a = b a) ∧ (∀ t, t < n → RMt K m D t) ∧ ∀ g, g < k → RMg K m D g
theorem stM2 (x : Int32) : stM x = 2 ↔ x = 4 := by
  unfold stM
  repeat' split
  all_goals first | simp_all | (rename_i h; simp [h]) | decide
theorem stM1 (x : Int32) : stM x = 1 ↔ x = 5 := by
  unfold stM
  repeat' split
  all_goals first | simp_all | (rename_i h; simp [h]) | decide
section dayM
variable {n k : Nat} {K b m D : SS} {lo : Int32}
theorem RM.r0 (hR : RM n k K b m D) : m 0 = b 0 := hR.1 0 (by omega)
theorem free_M (ok : KOk n k K) (hR : RM n k K b m D) (hv : HV n k D) {t : Nat} (ht : t < n) : M_isFree m (nI t) = some (if D 7 t = -1 then 1 else 0, m) := by
  have hn := ok.1
  have hk := ok.2.1
  obtain ⟨e1, e2, -⟩ := hR.2.1 t ht
  unfold M_isFree M_isFree_24 M_isFree_25
  rw [if_pos (inb_nI (by omega) (by omega)), if_pos (inb_nI (by omega) (by omega)), cl_nI (by omega), e1, e2, nb0, nb1]
  rcases hv t ht with z | z | ⟨g, hg, z⟩
  · rw [z]; rfl
  · rw [z]; rfl
  · rw [z, if_neg (nI_n0 (by omega)), if_neg (nI_ne9 (by omega)), if_neg (nI_ne1 (by omega)), if_pos rfl]
theorem takenM (ok : KOk n k K) (hM : MB n k K lo b) (hR : RM n k K b m D) (hv : HV n k D) : M_manyTaken m = some (takenN D n, m) := by
  have hn := ok.1
  have hk := ok.2.1
  have h23 : m 0 23 = nI n := by rw [hR.r0]; exact hM.1
  unfold M_manyTaken
  refine loopQ n (fun f i c => M_manyTaken_4 f c (nI i) m) (fun i c => c = takenN D i) (fun r => r = some (takenN D n, m)) ?_ ?_ fuel 0 0 (by omega) (by have := fuel_big; omega) rfl
  · intro f i c hi hc
    right
    try dsimp only
    refine ⟨takenN D (i + 1), ?_, rfl⟩
    rw [M_manyTaken_4, h23, if_neg (le_no hi (by omega)), if_pos (inb_nI (by omega) (by omega)), cl_nI (by omega), (hR.2.1 i hi).1]
    unfold M_manyTaken_29
    rw [nI_s, takenN, hc]
    rcases hv i hi with z | z | ⟨g, hg, z⟩
    · rw [z, if_pos (show (-1 : Int32) < 0 by decide), if_pos (by decide), if_pos (by decide)]
    · rw [z, if_pos (show (-2 : Int32) < 0 by decide), if_pos (by decide), if_pos (by decide)]
    · rw [z, if_neg (nI_n0 (by omega)), if_neg (nI_ne9 (by omega)), if_neg (nI_n0 (by omega))]
  · intro f c hc
    try dsimp only
    rw [M_manyTaken_4, h23, if_pos (le_ye (Nat.le_refl n) (by omega)), hc]
theorem waitM (ok : KOk n k K) (hM : MB n k K lo b) (hR : RM n k K b m D) (x : Int32) : M_manyWait m x = some (sumL (List.range k) (wv D x), m) := by
  have hk := ok.2.1
  have h16 : m 0 16 = nI k := by rw [hR.r0]; exact hM.2.1
  unfold M_manyWait sumL
  refine loopQ k (fun f i c => M_manyWait_4 f x c (nI i) m) (fun i c => c = (List.range i).foldl (fun c g => c + wv D x g) 0) (fun r => r = some ((List.range k).foldl (fun c g => c + wv D x g) 0, m)) ?_ ?_ fuel 0 0 (by omega) (by have := fuel_big; omega) rfl
  · intro f i c hi hc
    right
    try dsimp only
    refine ⟨c + wv D x i, ?_, by rw [hc, List.range_succ, List.foldl_append]; rfl⟩
    rw [M_manyWait_4, h16, if_neg (le_no hi (by omega)), if_pos (inb_nI (by omega) (by omega)), cl_nI (by omega), (hR.2.2 i hi).1]
    unfold M_manyWait_32 M_manyWait_33 wv
    rw [nI_s]
    by_cases q : nI i = x
    · rw [if_pos q, if_pos q]
    · rw [if_neg q, if_neg q]
      by_cases q2 : D 1 i = 4
      · rw [if_pos ((stM2 _).mpr q2), if_pos q2]
      · rw [if_neg (fun z => q2 ((stM2 _).mp z)), if_neg q2]
  · intro f c hc
    try dsimp only
    rw [M_manyWait_4, h16, if_pos (le_ye (Nat.le_refl k) (by omega)), hc]
theorem smallM (ok : KOk n k K) (hM : MB n k K lo b) (hR : RM n k K b m D) (hv : HV n k D) {g : Nat} (hg : g < k) (hru : ¬ K 0 1 = 0) (w : Int32) : M_smallest m (nI g) w = some (oneT K D (K 4 g) (if w = 0 then -1 else K 7 g) n, m) := by
  have hn := ok.1
  have hk := ok.2.1
  have h23 : m 0 23 = nI n := by rw [hR.r0]; exact hM.1
  have h18 : m 18 g = K 4 g := by rw [hR.1 18 (by omega)]; exact (hM.2.2.2.2.2.2.2.2 g hg).2.1
  have h21 : m 21 g = K 7 g := by rw [hR.1 21 (by omega)]; exact (hM.2.2.2.2.2.2.2.2 g hg).2.2.2.2.1
  have h24 : ∀ t, t < n → m 24 t = K 1 t := fun t ht => by rw [hR.1 24 (by omega)]; exact (hM.2.2.2.2.2.2.2.1 t ht).1
  have h25 : ∀ t, t < n → m 25 t = K 2 t := fun t ht => by rw [hR.1 25 (by omega)]; exact (hM.2.2.2.2.2.2.2.1 t ht).2
  have h7 : ¬ K 7 g = -1 := (ok.2.2.2 g hg).2.2.2.2
  unfold M_smallest
  generalize hpl : (if w = 0 then -1 else K 7 g) = pl
  refine loopQ n (fun f i c => M_smallest_6 f (nI g) w c (nI i) m) (fun i c => c = oneT K D (K 4 g) pl i) (fun r => r = some (oneT K D (K 4 g) pl n, m)) ?_ ?_ fuel 0 (-9) (by omega) (by have := fuel_big; omega) rfl
  · intro f i c hi hc
    right
    try dsimp only
    refine ⟨oneT K D (K 4 g) pl (i + 1), ?_, rfl⟩
    rw [M_smallest_6, h23, if_neg (le_no hi (by omega)), free_M ok hR hv hi, bnd_s]
    unfold M_smallest_64 M_smallest_60 M_smallest_65 M_smallest_94 M_smallest_97
    have i6 : inb (nI i) 6 = true := inb_nI (by omega) (by omega)
    have g8 : inb (nI g) 8 = true := inb_nI (by omega) (by omega)
    simp only [i6, g8, cl_nI (show i < 2147483648 by omega), cl_nI (show g < 2147483648 by omega), h18, h21, h24 i hi, h25 i hi, nI_s, if_true]
    rw [oneT]
    subst hc
    rcases oneT_c K D (K 4 g) pl i with e | ⟨j, hj, e⟩
    · rw [e]
      by_cases w0 : w = 0
      · rw [if_pos w0] at hpl
        subst hpl
        by_cases a1 : D 7 i = -1 <;> by_cases a2 : K 2 i < K 4 g <;> simp [a1, a2, w0]
      · rw [if_neg w0] at hpl
        subst hpl
        by_cases a1 : D 7 i = -1 <;> by_cases a2 : K 2 i < K 4 g <;> by_cases a4 : K 1 i = K 7 g <;> simp [a1, a2, a4, w0, h7]
    · have j6 : inb (nI j) 6 = true := inb_nI (by omega) (by omega)
      have ne : ¬ nI j = -9 := nI_ne9 (by omega)
      rw [e, cl_nI (by omega), h25 j (by omega)]
      by_cases w0 : w = 0
      · rw [if_pos w0] at hpl
        subst hpl
        by_cases a1 : D 7 i = -1 <;> by_cases a2 : K 2 i < K 4 g <;> by_cases a6 : K 2 j ≤ K 2 i <;> simp [a1, a2, a6, w0, ne, j6, hru]
      · rw [if_neg w0] at hpl
        subst hpl
        by_cases a1 : D 7 i = -1 <;> by_cases a2 : K 2 i < K 4 g <;> by_cases a4 : K 1 i = K 7 g <;> by_cases a6 : K 2 j ≤ K 2 i <;> simp [a1, a2, a4, a6, w0, h7, ne, j6, hru]
  · intro f c hc
    try dsimp only
    rw [M_smallest_6, h23, if_pos (le_ye (Nat.le_refl n) (by omega)), hc]
theorem oneT_keep {z pl : Int32} (hru : K 0 1 = 0) {i : Nat} (h : ¬ oneT K D z pl i = -9) : ∀ j, i ≤ j → oneT K D z pl j = oneT K D z pl i := by
  intro j
  induction j with
  | zero => intro hj; rw [show i = 0 by omega]
  | succ j ih =>
    intro hj
    by_cases e : i = j + 1
    · rw [e]
    · have := ih (by omega)
      rw [oneT, if_neg, this]
      rintro ⟨-, -, -, w⟩
      rw [this] at w
      rcases w with w | w
      · exact h w
      · exact w.1 hru
theorem firstM (ok : KOk n k K) (hM : MB n k K lo b) (hR : RM n k K b m D) (hv : HV n k D) {g : Nat} (hg : g < k) (hru : K 0 1 = 0) : M_firstFor m (nI g) = some (oneT K D (K 4 g) (-1) n, m) := by
  have hn := ok.1
  have hk := ok.2.1
  have h23 : m 0 23 = nI n := by rw [hR.r0]; exact hM.1
  have h18 : m 18 g = K 4 g := by rw [hR.1 18 (by omega)]; exact (hM.2.2.2.2.2.2.2.2 g hg).2.1
  have h25 : ∀ t, t < n → m 25 t = K 2 t := fun t ht => by rw [hR.1 25 (by omega)]; exact (hM.2.2.2.2.2.2.2.1 t ht).2
  unfold M_firstFor
  refine loopQ n (fun f i (_ : Unit) => M_firstFor_2 f (nI g) (nI i) m) (fun i _ => oneT K D (K 4 g) (-1) i = -9) (fun r => r = some (oneT K D (K 4 g) (-1) n, m)) ?_ ?_ fuel 0 () (by omega) (by have := fuel_big; omega) rfl
  · intro f i _ hi hc
    try dsimp only
    rw [M_firstFor_2, h23, if_neg (le_no hi (by omega)), free_M ok hR hv hi, bnd_s]
    unfold M_firstFor_35
    have i6 : inb (nI i) 6 = true := inb_nI (by omega) (by omega)
    have g8 : inb (nI g) 8 = true := inb_nI (by omega) (by omega)
    simp only [i6, g8, cl_nI (show i < 2147483648 by omega), cl_nI (show g < 2147483648 by omega), h18, h25 i hi, nI_s, if_true]
    have st := oneT.eq_2 K D (K 4 g) (-1) i
    by_cases a : D 7 i = -1 ∧ ¬ K 2 i < K 4 g
    · left
      rw [if_pos ⟨a.1, a.2, Or.inl rfl, Or.inl hc⟩] at st
      have ke := oneT_keep hru (K := K) (D := D) (i := i + 1) (by rw [st]; exact nI_ne9 (by omega)) n (by omega)
      rw [ke, st]
      simp [a.1, a.2]
    · right
      rw [if_neg (fun z => a ⟨z.1, z.2.1⟩), hc] at st
      refine ⟨(), ?_, st⟩
      by_cases a1 : D 7 i = -1 <;> by_cases a2 : K 2 i < K 4 g <;> simp [a1, a2] at a ⊢
  · intro f _ hc
    try dsimp only
    rw [M_firstFor_2, h23, if_pos (le_ye (Nat.le_refl n) (by omega)), hc]
theorem joinM (ok : KOk n k K) (hM : MB n k K lo b) (hR : RM n k K b m D) (hv : HV n k D) {g : Nat} (hg : g < k) : M_joinsTwo m (nI g) = if twoT K D (K 4 g) (n - 1) 0 = -9 then some (0, m) else some (1, up2 (up2 m 30 (twoT K D (K 4 g) (n - 1) 0).toNatClampNeg (nI g)) 30 ((twoT K D (K 4 g) (n - 1) 0).toNatClampNeg + 1) (nI g)) := by
  have hn := ok.1
  have hk := ok.2.1
  have h23 : m 0 23 = nI n := by rw [hR.r0]; exact hM.1
  have h18 : m 18 g = K 4 g := by rw [hR.1 18 (by omega)]; exact (hM.2.2.2.2.2.2.2.2 g hg).2.1
  have h25 : ∀ t, t < n → m 25 t = K 2 t := fun t ht => by rw [hR.1 25 (by omega)]; exact (hM.2.2.2.2.2.2.2.1 t ht).2
  unfold M_joinsTwo
  refine loopQ (n - 1) (fun f i (_ : Unit) => M_joinsTwo_2 f (nI g) (nI i) m) (fun i _ => twoT K D (K 4 g) (n - 1) 0 = twoT K D (K 4 g) (n - 1 - i) i) (fun r => r = if twoT K D (K 4 g) (n - 1) 0 = -9 then some (0, m) else some (1, up2 (up2 m 30 (twoT K D (K 4 g) (n - 1) 0).toNatClampNeg (nI g)) 30 ((twoT K D (K 4 g) (n - 1) 0).toNatClampNeg + 1) (nI g))) ?_ ?_ fuel 0 () (by omega) (by have := fuel_big; omega) rfl
  · intro f i _ hi hc
    try dsimp only
    rw [M_joinsTwo_2, h23, nI_s, if_neg (le_no (by omega) (by omega)), free_M ok hR hv (by omega), bnd_s]
    rw [free_M ok hR hv (by omega), bnd_s]
    unfold M_joinsTwo_72
    have i6 : inb (nI i) 6 = true := inb_nI (by omega) (by omega)
    have i7 : inb (nI (i + 1)) 6 = true := inb_nI (by omega) (by omega)
    have g8 : inb (nI g) 8 = true := inb_nI (by omega) (by omega)
    simp only [i6, i7, g8, cl_nI (show i < 2147483648 by omega), cl_nI (show i + 1 < 2147483648 by omega), cl_nI (show g < 2147483648 by omega), h18, h25 i (by omega), h25 (i + 1) (by omega), nI_s, if_true, nb1]
    rw [show n - 1 - i = (n - 1 - (i + 1)) + 1 by omega, twoT] at hc
    by_cases a1 : D 7 i = -1 ∧ D 7 (i + 1) = -1 ∧ ¬ K 2 i + K 2 (i + 1) < K 4 g
    · left
      rw [if_pos a1] at hc
      rw [hc, if_neg (nI_ne9 (by omega)), cl_nI (by omega)]
      obtain ⟨a1, a2, a3⟩ := a1
      simp [a1, a2, a3]
    · right
      rw [if_neg a1] at hc
      refine ⟨(), ?_, hc⟩
      by_cases b1 : D 7 i = -1 <;> by_cases b2 : D 7 (i + 1) = -1 <;> by_cases b3 : K 2 i + K 2 (i + 1) < K 4 g <;> simp [b1, b2, b3] at a1 ⊢
  · intro f _ hc
    try dsimp only
    rw [M_joinsTwo_2, h23, nI_s, if_pos (le_ye (by omega) (by omega)), hc, Nat.sub_self, nb0]
    rfl
theorem RM.taker (ok : KOk n k K) (hR : RM n k K b m D) {g t : Nat} (hg : g < k) (hf : D 7 t = -1) : RM n k K b (up2 m 30 t (nI g)) (up2 D 7 t (nI g)) := by
  have hk := ok.2.1
  refine ⟨fun a ha => by rw [up2_row (by omega)]; exact hR.1 a ha, ?_, ?_⟩
  · intro u hu
    obtain ⟨h1, h2, h3⟩ := hR.2.1 u hu
    unfold RMt
    by_cases e : u = t
    · subst e
      simp only [up2_el, and_self, if_true]
      refine ⟨by rw [if_neg (nI_n0 (by omega))], ?_, fun z => absurd z (nI_ne2 (by omega))⟩
      rw [if_neg (by omega), h2, hf, if_neg (by decide), if_neg (nI_ne2 (by omega))]
    · simp only [up2_el, e, and_false, if_false]
      simpa using ⟨h1, h2, h3⟩
  · intro c hc
    have := hR.2.2 c hc
    unfold RMg cvM at this ⊢
    simp only [up2_row (show 32 ≠ 30 by omega), up2_row (show 33 ≠ 30 by omega), up2_row (show 34 ≠ 30 by omega), up2_row (show 35 ≠ 30 by omega), up2_row (show 36 ≠ 30 by omega), up2_row (show 37 ≠ 30 by omega), up2_row (show 1 ≠ 7 by omega), up2_row (show 2 ≠ 7 by omega), up2_row (show 3 ≠ 7 by omega), up2_row (show 4 ≠ 7 by omega), up2_row (show 5 ≠ 7 by omega)]
    exact this
end dayM
