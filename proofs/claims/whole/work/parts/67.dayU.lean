def bst (n : Nat) (K : SS) (L : List Nat) (lo x : Int32) (w : Nat) (D : SS) (g : Nat) : SS := if (decide (K 5 g = nI w) && !decide (nI g = lo)) = true then callStep n K L x D g else D
theorem bkt_fold {n k : Nat} {K : SS} {L : List Nat} {lo x : Int32} {w : Nat} {D : SS} : (bkt K lo k w).foldl (callStep n K L x) D = (List.range k).foldl (bst n K L lo x w) D := by
  unfold bkt
  rw [List.foldl_filter]
  rfl
def cst (n : Nat) (K : SS) (L : List Nat) (lo x : Int32) (D : SS) (g : Nat) : SS := if (decide (K 5 g = x) && !decide (nI g = lo)) = true then comeStep n K L x D g else D
theorem ord_filter {K : SS} {lo x : Int32} : ∀ {k : Nat}, CK K k → (ordL K lo k).filter (fun g => decide (K 5 g = x)) = (List.range k).filter (fun g => decide (K 5 g = x) && !decide (nI g = lo))
  | 0, _ => by
    have : ordL K lo 0 = [] := by
      unfold ordL
      exact (fm_same (f := bkt K lo 0) (g := fun _ => []) (List.range 100) (fun a _ => rfl)).trans (by simp)
    rw [this]; rfl
  | k + 1, h => by
    obtain ⟨c, hc, e⟩ := h k (by omega)
    obtain ⟨P, Q, e1, -, eQ, e2⟩ := ordL_step (lo := lo) hc e
    have ih := ord_filter (lo := lo) (x := x) h.lt
    rw [List.range_succ, List.filter_append, ← ih, e2]
    by_cases q : nI k = lo
    · rw [if_pos q, ← e1]
      simp [q]
    · rw [if_neg q, e1, List.filter_append, List.filter_append, List.filter_cons]
      by_cases w : K 5 k = x
      · have : Q.filter (fun g => decide (K 5 g = x)) = [] := by
          rw [List.filter_eq_nil_iff]
          intro a ha z
          rw [decide_eq_true_eq] at z
          apply eQ a ha
          rw [z, w, i_le]
          exact Int.le_refl _
        rw [this]
        simp [w, q]
      · simp [w]
theorem come_fold {n k : Nat} {K : SS} {L : List Nat} {lo x : Int32} {D : SS} (h : CK K k) : (ordL K lo k).foldl (comeStep n K L x) D = (List.range k).foldl (cst n K L lo x) D := by
  have h1 : (List.range k).foldl (cst n K L lo x) D = ((List.range k).filter (fun g => decide (K 5 g = x) && !decide (nI g = lo))).foldl (comeStep n K L x) D := by
    rw [List.foldl_filter]
    rfl
  rw [h1, ← ord_filter h, List.foldl_filter]
  apply foldl_same
  intro D g _
  split
  · rfl
  · rename_i q
    unfold comeStep
    rw [if_neg]
    intro z
    exact q (by rw [decide_eq_true_eq]; exact z.2)
theorem come_r1 {n : Nat} {K D : SS} {L : List Nat} {x : Int32} {g c : Nat} (h : c ≠ g) : comeStep n K L x D g 1 c = D 1 c := by
  unfold comeStep
  repeat' split
  · rw [up2_el, if_neg (fun z => h z.2)]
  · rw [up2_el, if_neg (fun z => h z.2)]
  · rw [(sitD_rows D g x c).1, if_neg h]
  · rw [up2_el, if_neg (fun z => h z.2)]
  · rfl
section dayU
variable {n k : Nat} {K b m D : SS} {lo : Int32} {mm : Nat}
theorem waitLR (ok : KOk n k K) (hJ : JJ n k K lo mm D) (x : Int32) : sumL (List.range k) (wv D x) = sumL (ordL K lo k) (wv D x) := by
  refine (sumL_ord (wv D x) ok.ck ?_).symm
  intro g hg e
  have := (hJ.1 g hg).2.2.2.2.2.2.2.1 e
  unfold wv
  rw [this]
  split
  · rfl
  · rw [if_neg (by decide)]
theorem bkt_M (ok : KOk n k K) (hM : MB n k K lo b) (hm : mm < 1000) (kk : Int32 → Int32 → SS → Option SS) {w : Nat} (hw : w < 100) (hJ : JJ n k K lo mm D) (hU : UU k mm D) (hR : RM n k K b m D) :
    ∃ m', M_tryWaiting_15 kk fuel (nI mm) (nI w) 0 m = kk (nI mm) (nI (w + 1)) m' ∧ RM n k K b m' ((bkt K lo k w).foldl (callStep n K (ordL K lo k) (nI mm)) D) ∧ JJ n k K lo mm ((bkt K lo k w).foldl (callStep n K (ordL K lo k) (nI mm)) D) ∧ UU k mm ((bkt K lo k w).foldl (callStep n K (ordL K lo k) (nI mm)) D) := by
  have hk := ok.2.1
  rw [bkt_fold]
  refine loopQ k (fun f i m' => M_tryWaiting_15 kk f (nI mm) (nI w) (nI i) m') (fun i m' => RM n k K b m' ((List.range i).foldl (bst n K (ordL K lo k) lo (nI mm) w) D) ∧ JJ n k K lo mm ((List.range i).foldl (bst n K (ordL K lo k) lo (nI mm) w) D) ∧ UU k mm ((List.range i).foldl (bst n K (ordL K lo k) lo (nI mm) w) D)) (fun r => ∃ m', r = kk (nI mm) (nI (w + 1)) m' ∧ RM n k K b m' ((List.range k).foldl (bst n K (ordL K lo k) lo (nI mm) w) D) ∧ JJ n k K lo mm ((List.range k).foldl (bst n K (ordL K lo k) lo (nI mm) w) D) ∧ UU k mm ((List.range k).foldl (bst n K (ordL K lo k) lo (nI mm) w) D)) ?_ ?_ fuel 0 m (by omega) (by have := fuel_big; omega) ⟨hR, hJ, hU⟩
  · rintro f i m' hi ⟨hR', hJ', hU'⟩
    right
    have h16 : m' 0 16 = nI k := by rw [hR'.r0]; exact hM.2.1
    have h19 : m' 19 i = K 5 i := by rw [hR'.1 19 (by omega)]; exact (hM.2.2.2.2.2.2.2.2 i hi).2.2.1
    have i8 : inb (nI i) 8 = true := inb_nI (by omega) (by omega)
    rw [List.range_succ, List.foldl_append]
    show ∃ st', _ ∧ RM n k K b st' (bst n K (ordL K lo k) lo (nI mm) w ((List.range i).foldl (bst n K (ordL K lo k) lo (nI mm) w) D) i) ∧ JJ n k K lo mm (bst n K (ordL K lo k) lo (nI mm) w ((List.range i).foldl (bst n K (ordL K lo k) lo (nI mm) w) D) i) ∧ UU k mm (bst n K (ordL K lo k) lo (nI mm) w ((List.range i).foldl (bst n K (ordL K lo k) lo (nI mm) w) D) i)
    generalize (List.range i).foldl (bst n K (ordL K lo k) lo (nI mm) w) D = D' at *
    try dsimp only
    rw [M_tryWaiting_15, h16, if_neg (le_no hi (by omega)), if_pos i8, if_pos i8, cl_nI (by omega), (hR'.2.2 i hi).1, h19]
    unfold M_tryWaiting_49
    rw [nI_s]
    by_cases q : D' 1 i = 4
    · rw [if_pos ((stM2 _).mpr q)]
      have hlo : ¬ nI i = lo := by
        intro z
        have := (hJ'.1 i hi).2.2.2.2.2.2.2.1 z
        rw [q] at this; exact absurd this (by decide)
      by_cases z : K 5 i = nI w
      · rw [if_pos z]
        have eb : bst n K (ordL K lo k) lo (nI mm) w D' i = callStep n K (ordL K lo k) (nI mm) D' i := by unfold bst; simp [z, hlo]
        rw [eb]
        obtain ⟨m2, e2, hR2⟩ := triesM (L := ordL K lo k) ok hM hR' hJ'.2.hv hi (fun t ht => hJ'.2.free hk hi (by rw [q]; decide) ht) q (waitLR ok hJ' _) (nI mm)
        rw [e2, bnd0_s]
        have cj := call_J (L := ordL K lo k) ok hm hJ' hU' hi hlo
        exact ⟨m2, rfl, hR2, cj.1, cj.2.1⟩
      · rw [if_neg z]
        have eb : bst n K (ordL K lo k) lo (nI mm) w D' i = D' := by unfold bst; simp [z]
        rw [eb]
        exact ⟨m', rfl, hR', hJ', hU'⟩
    · rw [if_neg (fun z => q ((stM2 _).mp z))]
      have eb : bst n K (ordL K lo k) lo (nI mm) w D' i = D' := by
        unfold bst callStep
        rw [if_neg q]
        split <;> rfl
      rw [eb]
      exact ⟨m', rfl, hR', hJ', hU'⟩
  · rintro f m' ⟨hR', hJ', hU'⟩
    have h16 : m' 0 16 = nI k := by rw [hR'.r0]; exact hM.2.1
    try dsimp only
    rw [M_tryWaiting_15, h16, if_pos (le_ye (Nat.le_refl k) (by omega)), nI_s]
    exact ⟨m', rfl, hR', hJ', hU'⟩
def wst (n k : Nat) (K : SS) (lo x : Int32) (D : SS) (w : Nat) : SS := (bkt K lo k w).foldl (callStep n K (ordL K lo k) x) D
theorem call_M (ok : KOk n k K) (hM : MB n k K lo b) (hm : mm < 1000) (hJ : JJ n k K lo mm D) (hU : UU k mm D) (hR : RM n k K b m D) :
    ∃ m', M_tryWaiting m (nI mm) = some m' ∧ RM n k K b m' ((ordL K lo k).foldl (callStep n K (ordL K lo k) (nI mm)) D) := by
  have hk := ok.2.1
  have eL : (ordL K lo k).foldl (callStep n K (ordL K lo k) (nI mm)) D = (List.range 100).foldl (wst n k K lo (nI mm)) D := by
    conv => lhs; arg 3; unfold ordL
    rw [foldl_fm]; rfl
  rw [eL]
  unfold M_tryWaiting
  refine loopQ 100 (fun f w m' => M_tryWaiting_2 f (nI mm) (nI w) m') (fun w m' => RM n k K b m' ((List.range w).foldl (wst n k K lo (nI mm)) D) ∧ JJ n k K lo mm ((List.range w).foldl (wst n k K lo (nI mm)) D) ∧ UU k mm ((List.range w).foldl (wst n k K lo (nI mm)) D)) (fun r => ∃ m', r = some m' ∧ RM n k K b m' ((List.range 100).foldl (wst n k K lo (nI mm)) D)) ?_ ?_ fuel 0 m (by omega) (by have := fuel_big; omega) ⟨hR, hJ, hU⟩
  · rintro f w m' hw ⟨hR', hJ', hU'⟩
    try dsimp only
    rw [M_tryWaiting_2]
    unfold M_tryWaiting_61
    by_cases q : mm < w
    · left
      rw [if_pos ((nI_lt_iff (by omega) (by omega)).mpr q)]
      refine ⟨m', rfl, ?_⟩
      have e : ∀ j, w ≤ j → j ≤ 100 → (List.range j).foldl (wst n k K lo (nI mm)) D = (List.range w).foldl (wst n k K lo (nI mm)) D := by
        intro j
        induction j with
        | zero => intro h1 h2; rw [show w = 0 by omega]
        | succ j ih =>
          intro h1 h2
          by_cases e : w = j + 1
          · rw [e]
          · have i := ih (by omega) (by omega)
            rw [List.range_succ, List.foldl_append, i]
            show wst n k K lo (nI mm) _ j = _
            unfold wst
            apply fold_id
            intro g hg
            obtain ⟨h1', h2', -⟩ := bkt_mem.mp hg
            have h3 := (hJ'.1 g h1').2.2.2.2.2.2.1 (by rw [h2', nI_T (by omega)]; omega)
            unfold wst at h3
            unfold callStep at h3 ⊢
            rw [if_neg]
            intro z
            rw [h3] at z
            exact absurd z (by decide)
      rw [e 100 (by omega) (Nat.le_refl _)]
      exact hR'
    · right
      rw [if_neg (fun z => q ((nI_lt_iff (by omega) (by omega)).mp z)), if_neg (show ¬ (100 : Int32) ≤ nI w by rw [show (100 : Int32) = nI 100 from by decide]; exact le_no hw (by omega))]
      obtain ⟨m2, e2, h1, h2, h3⟩ := bkt_M ok hM hm (fun a0 a1 a2 => M_tryWaiting_2 f a0 a1 a2) hw hJ' hU' hR'
      rw [e2]
      refine ⟨m2, rfl, ?_⟩
      rw [List.range_succ, List.foldl_append]
      exact ⟨h1, h2, h3⟩
  · rintro f m' ⟨hR', hJ', hU'⟩
    try dsimp only
    rw [M_tryWaiting_2]
    unfold M_tryWaiting_61
    by_cases q : nI mm < nI 100
    · rw [if_pos q]; exact ⟨m', rfl, hR'⟩
    · rw [if_neg q, if_pos (by decide)]; exact ⟨m', rfl, hR'⟩
theorem come_M (ok : KOk n k K) (hM : MB n k K lo b) (hm : mm < 1000) (hJ : JJ n k K lo mm D) (hU : UU k mm D) (hW : WW n k K mm D) (h3 : ∀ g, g < k → K 5 g = nI mm → D 1 g = 3) (hR : RM n k K b m D) :
    ∃ m', M_goMinute_67 fuel (nI mm) 0 m = some m' ∧ RM n k K b m' ((ordL K lo k).foldl (comeStep n K (ordL K lo k) (nI mm)) D) := by
  have hk := ok.2.1
  rw [come_fold ok.ck]
  refine loopQ k (fun f i m' => M_goMinute_67 f (nI mm) (nI i) m') (fun i m' => RM n k K b m' ((List.range i).foldl (cst n K (ordL K lo k) lo (nI mm)) D) ∧ (JJ n k K lo mm ((List.range i).foldl (cst n K (ordL K lo k) lo (nI mm)) D) ∧ UU k mm ((List.range i).foldl (cst n K (ordL K lo k) lo (nI mm)) D) ∧ WW n k K mm ((List.range i).foldl (cst n K (ordL K lo k) lo (nI mm)) D)) ∧ ∀ g, i ≤ g → g < k → K 5 g = nI mm → (List.range i).foldl (cst n K (ordL K lo k) lo (nI mm)) D 1 g = 3) (fun r => ∃ m', r = some m' ∧ RM n k K b m' ((List.range k).foldl (cst n K (ordL K lo k) lo (nI mm)) D)) ?_ ?_ fuel 0 m (by omega) (by have := fuel_big; omega) ⟨hR, ⟨hJ, hU, hW⟩, fun g _ => h3 g⟩
  · rintro f i m' hi ⟨hR', ⟨hJ', hU', hW'⟩, h3'⟩
    right
    have h16 : m' 0 16 = nI k := by rw [hR'.r0]; exact hM.2.1
    have h19 : m' 19 i = K 5 i := by rw [hR'.1 19 (by omega)]; exact (hM.2.2.2.2.2.2.2.2 i hi).2.2.1
    have h29 : nI i = m' 0 29 ↔ nI i = lo := by rw [hR'.r0]; exact hM.2.2.2.2.2.2.1 i hi
    have i8 : inb (nI i) 8 = true := inb_nI (by omega) (by omega)
    rw [List.range_succ, List.foldl_append]
    show ∃ st', _ ∧ RM n k K b st' (cst n K (ordL K lo k) lo (nI mm) ((List.range i).foldl (cst n K (ordL K lo k) lo (nI mm)) D) i) ∧ (JJ n k K lo mm (cst n K (ordL K lo k) lo (nI mm) ((List.range i).foldl (cst n K (ordL K lo k) lo (nI mm)) D) i) ∧ UU k mm (cst n K (ordL K lo k) lo (nI mm) ((List.range i).foldl (cst n K (ordL K lo k) lo (nI mm)) D) i) ∧ WW n k K mm (cst n K (ordL K lo k) lo (nI mm) ((List.range i).foldl (cst n K (ordL K lo k) lo (nI mm)) D) i)) ∧ ∀ g, i + 1 ≤ g → g < k → K 5 g = nI mm → cst n K (ordL K lo k) lo (nI mm) ((List.range i).foldl (cst n K (ordL K lo k) lo (nI mm)) D) i 1 g = 3
    generalize (List.range i).foldl (cst n K (ordL K lo k) lo (nI mm)) D = D' at *
    try dsimp only
    rw [M_goMinute_67, h16, if_neg (le_no hi (by omega)), if_pos i8, cl_nI (by omega), h19]
    unfold M_goMinute_99
    rw [nI_s]
    by_cases q : K 5 i = nI mm
    · rw [if_pos q]
      by_cases z : nI i = lo
      · rw [if_pos (h29.mpr z)]
        have eb : cst n K (ordL K lo k) lo (nI mm) D' i = D' := by unfold cst; simp [z]
        rw [eb]
        exact ⟨m', rfl, hR', ⟨hJ', hU', hW'⟩, fun g hg => h3' g (by omega)⟩
      · rw [if_neg (fun y => z (h29.mp y))]
        have eb : cst n K (ordL K lo k) lo (nI mm) D' i = comeStep n K (ordL K lo k) (nI mm) D' i := by unfold cst; simp [z, q]
        have e3 := h3' i (Nat.le_refl i) hi q
        rw [eb]
        obtain ⟨m2, e2, hR2⟩ := comesM (L := ordL K lo k) ok hM hR' hJ'.2.hv hi (fun t ht => hJ'.2.free hk hi (by rw [e3]; decide) ht) e3 q (waitLR ok hJ' _)
        rw [e2, bnd0_s]
        have cj := come_J (L := ordL K lo k) ok hm hJ' hU' hW' hi z
        exact ⟨m2, rfl, hR2, ⟨cj.1, cj.2.1, cj.2.2.1⟩, fun g h1 h2 h4 => by rw [come_r1 (by omega)]; exact h3' g (by omega) h2 h4⟩
    · rw [if_neg q]
      have eb : cst n K (ordL K lo k) lo (nI mm) D' i = D' := by unfold cst; simp [q]
      rw [eb]
      exact ⟨m', rfl, hR', ⟨hJ', hU', hW'⟩, fun g hg => h3' g (by omega)⟩
  · rintro f m' ⟨hR', -, -⟩
    have h16 : m' 0 16 = nI k := by rw [hR'.r0]; exact hM.2.1
    try dsimp only
    rw [M_goMinute_67, h16, if_pos (le_ye (Nat.le_refl k) (by omega))]
    exact ⟨m', rfl, hR'⟩
end dayU
