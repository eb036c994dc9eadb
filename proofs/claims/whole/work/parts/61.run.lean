/-! a day's run of the class: minute for minute what the state says -/
def itD (n : Nat) (K : SS) (L : List Nat) (D0 : SS) : Nat → SS
  | 0 => D0
  | m + 1 => minD n K L (nI m) (itD n K L D0 m)
section dayR
variable {n k : Nat} {K : SS} {lo : Int32} {L : List Nat}
theorem it_J (ok : KOk n k K) (hL : ∀ g, g ∈ L ↔ g < k ∧ ¬ nI g = lo) {D0 : SS} (h0 : Init k D0) : ∀ m, m < 1000 → JJ n k K lo m (itD n K L D0 m)
  | 0, _ => J_0 ok h0
  | m + 1, hm => E_J (min_E ok hL (by omega) (it_J ok hL h0 m (by omega)))
theorem it_E (ok : KOk n k K) (hL : ∀ g, g ∈ L ↔ g < k ∧ ¬ nI g = lo) {D0 : SS} (h0 : Init k D0) (m : Nat) (hm : m < 1000) : EE n k K lo m (itD n K L D0 (m + 1)) := min_E ok hL hm (it_J ok hL h0 m hm)
theorem it_skip (ok : KOk n k K) (hL : ∀ g, g ∈ L ↔ g < k ∧ ¬ nI g = lo) {D0 : SS} (h0 : Init k D0) {m m2 : Nat} (h2 : m2 ≤ 800) (hq : ∀ x, m < x → x < m2 → Quiet K L x (itD n K L D0 (m + 1))) : ∀ x, m + 1 ≤ x → x ≤ m2 → itD n K L D0 x = itD n K L D0 (m + 1) := by
  intro x
  induction x with
  | zero => intro h; omega
  | succ x ih =>
    intro h1 h3
    by_cases e : x = m
    · subst e; rfl
    · have i := ih (by omega) (by omega)
      obtain ⟨y, rfl⟩ : ∃ y, x = y + 1 := ⟨x - 1, by omega⟩
      have hE := it_E ok hL h0 y (by omega)
      show minD n K L (nI (y + 1)) (itD n K L D0 (y + 1)) = _
      rw [i] at hE ⊢
      exact quiet_id ok hL (by omega) hE (hq (y + 1) (by omega) (by omega))
theorem run_loop {G : GG} {o h : Nat} {b : SS} (hb : CB G o h n k K L b) (ok : KOk n k K) (hL : ∀ g, g ∈ L ↔ g < k ∧ ¬ nI g = lo) (hrain : K 0 4 = -9 ∨ (0 ≤ (K 0 4).toInt ∧ (K 0 4).toInt < 400)) {D0 : SS} (h0 : Init k D0) {q : Nat} (hq : q < 400) :
    ∀ f m D, (∃ p, p ≤ m ∧ p ≤ q + 1 ∧ ∀ x, p ≤ x → x ≤ m → itD n K L D0 x = D) → m ≤ 400 → 400 - m < f → CD_run_13 G o h f (nI q) (nI m) (lay o b D) = some (sumL L (cv K (itD n K L D0 (q + 1))), lay o b (itD n K L D0 (q + 1))) := by
  intro f
  induction f with
  | zero => intro m D _ h1 h2; omega
  | succ f ih =>
    rintro m D ⟨p, hp1, hp2, hp3⟩ h1 h2
    rw [CD_run_13]
    by_cases e : q < m
    · rw [if_pos ((nI_lt_iff (by omega) (by omega)).mpr e), coins_ev hb, bnd_s, hp3 (q + 1) hp2 (by omega)]
    · have eD := hp3 m hp1 (Nat.le_refl m)
      have hJ := it_J ok hL h0 m (by omega)
      rw [if_neg (fun z => e ((nI_lt_iff (by omega) (by omega)).mp z)), over_ev hb, bnd0_s, hb.r5]
      have hv : HV n k (L.foldl (overStep n (nI m)) D) := by
        rw [eD] at hJ
        exact (over_all ok.2.1 hL (by omega) hJ).1.2.hv
      have hdr : (if nI m = K 0 4 then bnd0 (CD_driveIn G o (lay o b (L.foldl (overStep n (nI m)) D)) (nI m)) (fun s11 => CD_run_43 G o h (fun a0 a1 a2 => CD_run_13 G o h f a0 a1 a2) (nI q) (nI m) s11) else CD_run_43 G o h (fun a0 a1 a2 => CD_run_13 G o h f a0 a1 a2) (nI q) (nI m) (lay o b (L.foldl (overStep n (nI m)) D))) = CD_run_43 G o h (fun a0 a1 a2 => CD_run_13 G o h f a0 a1 a2) (nI q) (nI m) (lay o b (if nI m = K 0 4 then driveD n K (nI m) (L.foldl (overStep n (nI m)) D) else L.foldl (overStep n (nI m)) D)) := by
        split
        · rw [drive_ev hb _ _ hv, bnd0_s]
        · rfl
      rw [hdr]
      unfold CD_run_43
      rw [call_ev hb, bnd0_s, come_ev hb, bnd0_s]
      have eM : L.foldl (comeStep n K L (nI m)) (L.foldl (callStep n K L (nI m)) (if nI m = K 0 4 then driveD n K (nI m) (L.foldl (overStep n (nI m)) D) else L.foldl (overStep n (nI m)) D)) = itD n K L D0 (m + 1) := by
        show _ = minD n K L (nI m) (itD n K L D0 m)
        rw [eD]; rfl
      rw [eM, next_ev hb, bnd_s, nI_s]
      have hE := it_E ok hL h0 m (by omega)
      obtain ⟨r1, r2⟩ := next_q ok hL hrain (by omega) hE
      generalize hr : L.foldl (nextStep K (itD n K L D0 (m + 1))) (if K 0 4 ≤ nI m then 400 else K 0 4) = r at r1 r2 ⊢
      by_cases w : nI (m + 1) < r
      · rw [if_pos w]
        have w' := w
        rw [i_lt, nI_T (by omega)] at w'
        have er : r = nI r.toInt.toNat := i_nat (by omega)
        rw [er]
        have sk := it_skip ok hL h0 (m := m) (m2 := r.toInt.toNat) (by omega) (fun x hx1 hx2 => r2 x hx1 (by omega))
        exact ih _ _ ⟨m + 1, by omega, by omega, sk⟩ (by omega) (by omega)
      · rw [if_neg w]
        exact ih _ _ ⟨m + 1, by omega, by omega, fun x hx1 hx2 => by rw [show x = m + 1 by omega]⟩ (by omega) (by omega)
end dayR
theorem run_ev {G : GG} {o h n k : Nat} {K s : SS} (lo : Int32) {q : Nat} (ho : h + 2 < o) (ho8 : 8 ≤ o) (hh : h = 1 ∨ h = 4) (hC : CBh h n K s) (hg : CBg G k K) (ok : KOk n k K) (hrain : K 0 4 = -9 ∨ (0 ≤ (K 0 4).toInt ∧ (K 0 4).toInt < 400)) (h7 : s 7 1 = nI k) (hq : q < 400) :
    ∃ f D0, Init k D0 ∧ CB G o h n k K (ordL K lo k) (base o (up2 s o 9 (hcode h)) f (ordL K lo k).length) ∧ CD_run G o h s lo (nI q) = some (sumL (ordL K lo k) (cv K (itD n K (ordL K lo k) D0 (q + 1))), lay o (base o (up2 s o 9 (hcode h)) f (ordL K lo k).length) (itD n K (ordL K lo k) D0 (q + 1))) := by
  obtain ⟨f, D0, e1, e2, e3⟩ := begin_ev ok.2.1 hg ok.ck lo (up2 s o 9 (hcode h)) (by rw [up2_row (by omega)]; exact h7) ho8
  have hb := CB_mk (lo := lo) ho hh ok.1 ok.2.1 hC hg ok.ck e2
  refine ⟨f, D0, e3, hb, ?_⟩
  unfold CD_run
  rw [e1, bnd0_s]
  have := run_loop hb ok (fun g => ordL_mem ok.ck) hrain e3 hq fuel 0 D0 ⟨0, by omega, by omega, fun x h1 h2 => by rw [show x = 0 by omega]; rfl⟩ (by omega) (by have := fuel_big; omega)
  exact this
