def CNew (s s' m m' : SS) : Prop := RCf s' m' ∧ s' 7 1 = 0 ∧ m' 0 16 = 0 ∧ s' 0 11 = 0 ∧ s' 0 12 = 0 ∧ s' 0 13 = 0 ∧ s' 0 14 = 0 ∧ s' 0 10 = 0 ∧ m' 0 0 = 0 ∧ (∀ a, 10 ≤ a → s' a = s a) ∧ (∀ a, 1 ≤ a → a < 5 → m' a = m a) ∧ m' 0 1 = m 0 1
def COld (s s' m m' : SS) : Prop := ∃ v, s' = up2 s 0 10 v ∧ m' 0 0 = v ∧ (∀ a, a ≠ 0 → a ≠ 14 → a ≠ 15 → m' a = m a) ∧ ∀ c, c ≠ 0 → c ≠ 12 → c ≠ 13 → m' 0 c = m 0 c
theorem fgt_row {s : SS} {a : Nat} (h : a ≠ 0) : fgt s a = s a := by unfold fgt; rw [up2_row h, up2_row h, up2_row h, up2_row h]
theorem fgt_0 {s : SS} {c : Nat} (h : c < 11 ∨ 14 < c) : fgt s 0 c = s 0 c := by
  unfold fgt
  rw [up2_el, if_neg (by omega), up2_el, if_neg (by omega), up2_el, if_neg (by omega), up2_el, if_neg (by omega)]
theorem fgt_11 (s : SS) : fgt s 0 11 = 0 := by simp [fgt, up2_el]
theorem fgt_12 (s : SS) : fgt s 0 12 = 0 := by simp [fgt, up2_el]
theorem fgt_13 (s : SS) : fgt s 0 13 = 0 := by simp [fgt, up2_el]
theorem fgt_14 (s : SS) : fgt s 0 14 = 0 := by simp [fgt, up2_el]
theorem plc_b {c : Int32} (h : ¬ plc c = -9) : ∃ q : Nat, q ≤ 2 ∧ plc c = nI q := by
  unfold plc at h ⊢
  by_cases a : c = 105
  · rw [if_pos a]; exact ⟨2, by omega, by decide⟩
  · rw [if_neg a] at h ⊢
    by_cases b : c = 115
    · rw [if_pos b]; exact ⟨0, by omega, by decide⟩
    · rw [if_neg b] at h ⊢
      by_cases d : c = 119
      · rw [if_pos d]; exact ⟨1, by omega, by decide⟩
      · rw [if_neg d] at h; exact absurd rfl h
theorem sea_b {c : Int32} (h : ¬ (c < 49 ∨ 54 < c)) : ∃ q : Nat, 1 ≤ q ∧ q ≤ 6 ∧ c - 48 = nI q := by
  rw [i_lt, i_lt, t49, t54] at h
  have e : (c - 48).toInt = c.toInt - 48 := by rw [i_sub (by rw [t48]; omega) (by rw [t48]; omega), t48]
  refine ⟨(c - 48).toInt.toNat, by omega, by omega, i_nat (by omega)⟩
theorem cafe_in {G : GG} {s m : SS} {k i0 N : Nat} (hk : k < 4) (hl : i0 + N ≤ 40) (g1 : ∀ i, i < 40 → s (10 + k + 4) i = m 4 (40 * k + i)) :
    ∃ r s' m', (bnd (CT_firstFault G (10 + k) (up2 s 0 10 0) (nI i0) (nI N)) (fun r24 s23 => (if r24 = (-9 : Int32) then (bnd0 (CH_takeText G 1 (10 + k) s23 (nI i0) (nI N)) (fun s28 => (bnd0 (CT_forget G (up2 s28 7 1 (0 : Int32))) (fun s30 => some ((s30 1 2), s30))))) else some (((-100 : Int32) - r24), s23)))) = some (r, s') ∧
      (bnd (M_readCafe (up2 (up2 m 0 0 0) 0 12 (nI (40 * k + i0))) (nI (40 * k + i0 + N))) (fun r13 s12 => (if r13 = (0 : Int32) then some (((-100 : Int32) - ((s12 0 12) - nI (40 * k + i0))), s12) else M_cafe_95 fuel (0 : Int32) (up2 s12 0 5 (s12 0 13))))) = some (r, m') ∧ (COld s s' m m' ∨ CNew s s' m m') := by
  have f := first_ev (G := G) (x0 := 10 + k) (s := up2 s 0 10 0) hl (cc := fun p => s (10 + k + 4) (i0 + p)) (fun p hp => by rw [up2_row (by omega)])
  have r := rd (B := 40 * k + i0) (N := N) (cc := fun p => s (10 + k + 4) (i0 + p)) (m0 := up2 (up2 m 0 0 0) 0 12 (nI (40 * k + i0))) (by omega) (fun p hp => by rw [up2_row (by omega), up2_row (by omega), Nat.add_assoc]; exact (g1 (i0 + p) (by omega)).symm) 6 0 fuel (up2 (up2 (up2 m 0 0 0) 0 12 (nI (40 * k + i0))) 0 13 0) rfl (by have := fuel_big; omega) (RF.u ⟨fun _ _ _ _ => rfl, fun _ _ _ => rfl⟩ (Or.inr rfl) 0) (by rw [up2_at]; exact nI_0.symm) (by rw [up2_el, if_neg (by omega), up2_at]; rfl) (by omega) (fun q hq => by omega) (fun t ht => by omega)
  unfold M_readCafe
  have n10 : ¬ (1 : Int32) = 0 := by decide
  rcases f with ⟨f1, fn⟩ | ⟨e, f1, ff⟩ <;> rcases r with ⟨m', r1, rf, rn, r13, rws⟩ | ⟨m', e', r1, rf, r12, rff⟩
  · have h17 := FN_17 fn
    obtain ⟨s', t1, tw, u2, u3, u4, u6, u5, tfr⟩ := takeT_ev (G := G) (x0 := 10 + k) (s := up2 s 0 10 0) (by omega) hl (cc := fun p => s (10 + k + 4) (i0 + p)) (fun p hp => by rw [up2_row (by omega)]) h17 fn.1
    obtain ⟨m2, c1, c2, c3, c16, c8, c9, c10, c11, c0⟩ := copyM_ev (T := (N + 1) / 3) (by omega) (m := up2 m' 0 5 (m' 0 13)) (by rw [up2_at, r13])
    have hT : 3 * ((N + 1) / 3) = N + 1 := by have := fn.1; omega
    refine ⟨nI ((N + 1) / 3), fgt (up2 s' 7 1 0), m2, ?_, ?_, Or.inr ⟨?_, ?_, c16, fgt_11 _, fgt_12 _, fgt_13 _, fgt_14 _, ?_, ?_, ?_, ?_, ?_⟩⟩
    · rw [f1, bnd_s, if_pos rfl, t1, bnd0_s, forget_ev, bnd0_s, fgt_row (by omega), up2_row (by omega), u2]
    · rw [r1, bnd_s, if_neg n10]; exact c1
    · refine ⟨(N + 1) / 3, by omega, by rw [c0 5 (by omega), up2_at, r13], by rw [fgt_row (by omega), up2_row (by omega), u2], ?_, ⟨?_, 0, by omega, by rw [c8]; decide⟩, ⟨?_, 0, by omega, by rw [c9]; decide⟩, ⟨?_, Or.inl c10⟩, ⟨?_, Or.inl c11⟩⟩
      · intro j hj
        obtain ⟨w1, w2⟩ := tw j hj
        obtain ⟨v1, v2⟩ := c2 j hj
        obtain ⟨y1, y2⟩ := rws j hj
        have p0 := fn.2 (3 * j) (by omega)
        have p1 := fn.2 (3 * j + 1) (by omega)
        unfold gO at p0 p1
        rw [if_pos (show (3 * j) % 3 = 0 by omega)] at p0
        rw [if_neg (show ¬ (3 * j + 1) % 3 = 0 by omega), if_pos (show (3 * j + 1) % 3 = 1 by omega)] at p1
        rw [fgt_row (by omega), up2_row (by omega), fgt_row (by omega), up2_row (by omega), w1, w2, v1, v2, up2_row (by omega), up2_row (by omega), y1, y2]
        exact ⟨rfl, rfl, plc_b (by simpa using p0), sea_b (by simpa using p1)⟩
      · rw [fgt_row (by omega), up2_row (by omega), u3, c8]
      · rw [fgt_row (by omega), up2_row (by omega), u4, c9]
      · rw [fgt_row (by omega), up2_row (by omega), u6, c10]
      · rw [fgt_row (by omega), up2_row (by omega), u5, c11]
    · rw [fgt_row (by omega), up2_at]
    · rw [fgt_0 (by omega), up2_row (by omega), tfr 0 (by omega) (by omega) (by omega), up2_at]
    · rw [c0 0 (by omega), up2_el, if_neg (by omega), rf.2 0 (by omega) (by omega), up2_el, if_neg (by omega), up2_at]
    · intro a ha
      rw [fgt_row (by omega), up2_row (by omega), tfr a (by omega) (by omega) (by omega), up2_row (by omega)]
    · intro a h1 h2
      rw [c3 a (by omega) (by omega) (by omega), up2_row (by omega), rf.1 a (by omega) (by omega) (by omega), up2_row (by omega), up2_row (by omega)]
    · rw [c0 1 (by omega), up2_el, if_neg (by omega), rf.2 1 (by omega) (by omega), up2_el, if_neg (by omega), up2_el, if_neg (by omega)]
  · exact (FF_n rff fn).elim
  · exact (FF_n ff rn).elim
  · have ee := FF_u ff rff
    subst ee
    have eN := ff.1
    refine ⟨-100 - nI e, up2 s 0 10 0, m', ?_, ?_, Or.inl ⟨0, rfl, ?_, ?_, ?_⟩⟩
    · rw [f1, bnd_s, if_neg (nI_ne9b e (by omega))]
    · rw [r1, bnd_s, if_pos rfl, r12, nI_subN (by omega) (by omega), Nat.add_sub_cancel_left]
    · rw [rf.2 0 (by omega) (by omega), up2_el, if_neg (by omega), up2_at]
    · intro a h1 h2 h3
      rw [rf.1 a h1 h2 h3, up2_row h1, up2_row h1]
    · intro c h1 h2 h3
      rw [rf.2 c h2 h3, up2_el, if_neg (fun z => h2 z.2), up2_el, if_neg (fun z => h1 z.2)]
theorem cafe_ev (G : GG) (s m : SS) (x y z w : Int32) (h : RShs s m) : ∃ r s' m', CT_cafe G s x y z w = some (r, s') ∧ M_cafe m x y z w = some (r, m') ∧ (COld s s' m m' ∨ CNew s s' m m') := by
  have fl : ∀ v, COld s (up2 s 0 10 v) m (up2 m 0 0 v) ∨ CNew s (up2 s 0 10 v) m (up2 m 0 0 v) := fun v => Or.inl ⟨v, rfl, up2_at .., fun a h1 _ _ => up2_row h1, fun c h1 _ _ => by rw [up2_el, if_neg (fun q => h1 q.2)]⟩
  have n10 : ¬ (1 : Int32) = 0 := by decide
  have p00 : (0 : Int32) = 0 := rfl
  unfold CT_cafe M_cafe
  rcases sh_cases x with ⟨a, b⟩ | ⟨k, hk, hx, a, b, c, d⟩
  · exact ⟨-1, _, _, by rw [a, bnd0_s, if_neg n10], by rw [b, bnd0_s, if_pos p00], fl 0⟩
  rw [a, b, bnd0_s, bnd0_s, if_pos p00, if_neg n10]
  rcases sort_cases y with ⟨a2, b2⟩ | ⟨a2, b2, y0, y2⟩
  · exact ⟨-2, _, _, by rw [a2, bnd0_s, if_neg n10], by rw [b2, bnd0_s, if_pos p00], fl 0⟩
  have hs : isS (10 + k) = true := by simp [isS]; omega
  rw [a2, b2, bnd0_s, bnd0_s, if_pos p00, if_neg n10, if_pos c, d]
  unfold M_against M_against_23 M_against_70 M_against_75 CT_cafe_55 CT_failed M_fails
  simp only [hs, if_true, c, d, bnd_s, uu, reaches_ev]
  rw [up2_row (show 10 + k ≠ 0 by omega), up2_row (show (2 : Nat) ≠ 0 by omega), up2_row (show (3 : Nat) ≠ 0 by omega)]
  obtain ⟨g1, g2⟩ := h k hk
  rcases g2 with ⟨e1, e2⟩ | ⟨e1, e2, e3, e4, e5, e6⟩
  · exact ⟨-11, _, _, by simp [e1], by simp [e2, bnd_s, uu], fl 1⟩
  have yn : ¬ y = -9 := by rw [i_eq, tm9]; omega
  have ne : ¬ m 2 k = -9 := by rw [e2, i_eq, tm9]; omega
  have n1 : ¬ s (10 + k) 1 = 0 := by rw [e1]; decide
  by_cases q : ¬ s (10 + k) 2 = y
  · have q' : ¬ m 2 k = y := by rw [e2]; exact q
    exact ⟨-12, _, _, by simp [n1, q], by simp [bnd_s, uu, yn, ne, q'], fl 2⟩
  have q := Classical.not_not.mp q
  have q' : m 2 k = y := by rw [e2]; exact q
  by_cases w0 : ¬ (0 : Int32) ≤ w
  · exact ⟨-14, _, _, by simp [n1, q, w0], by simp [bnd_s, uu, yn, ne, q', w0], fl 4⟩
  have w0 := Classical.not_not.mp w0
  rw [e3]
  by_cases z0 : z < 0
  · exact ⟨-13, _, _, by simp [n1, q, w0, z0], by simp [bnd_s, uu, yn, ne, q', w0, z0], fl 3⟩
  by_cases z1 : s (10 + k) 3 < z
  · exact ⟨-13, _, _, by simp [n1, q, w0, z0, z1], by simp [bnd_s, uu, yn, ne, q', w0, z0, z1], fl 3⟩
  have w1 : ¬ w < 0 := by rw [i_lt]; rw [i_le] at w0; omega
  by_cases w2 : s (10 + k) 3 - z < w
  · have w3 : ¬ w ≤ s (10 + k) 3 - z := by rw [i_le]; rw [i_lt] at w2; omega
    exact ⟨-13, _, _, by simp [n1, q, w0, z0, z1, w1, w2], by simp [bnd_s, uu, yn, ne, q', w0, z0, z1, w3], fl 3⟩
  have w3 : w ≤ s (10 + k) 3 - z := by rw [i_le]; rw [i_lt] at w2; omega
  have z0' := z0; have z1' := z1; have w1' := w1; have w2' := w2
  rw [i_lt, t0] at z0' w1'; rw [i_lt] at z1' w2'
  rw [i_sub (by have := i_rng z; omega) (by have := i_rng z; omega)] at w2'
  have hz : z = nI z.toInt.toNat := i_nat (by omega)
  have hw : w = nI w.toInt.toNat := i_nat (by omega)
  have hl : z.toInt.toNat + w.toInt.toNat ≤ 40 := by omega
  obtain ⟨r, s', m', A, B, C⟩ := cafe_in (G := G) (s := s) (m := m) (k := k) (i0 := z.toInt.toNat) (N := w.toInt.toNat) hk hl g1
  have l1 : (40 : Int32) * x + z = nI (40 * k + z.toInt.toNat) := by
    have l0 := lin40 hk (show z.toInt.toNat < 41 by omega)
    rw [← hz] at l0
    rw [hx]; exact l0
  have l2 : (40 : Int32) * x + z + w = nI (40 * k + z.toInt.toNat + w.toInt.toNat) := by
    have l0 := nI_add (40 * k + z.toInt.toNat) w.toInt.toNat
    rw [← hw, ← l1] at l0
    exact l0
  rw [← l1, ← l2] at B
  rw [← hz, ← hw] at A
  refine ⟨r, s', m', ?_, ?_, C⟩
  · rw [← A]
    simp [n1, q, w0, z0, z1, w1, w2]
  · rw [← B]
    simp [bnd_s, uu, yn, ne, q', w0, z0, z1, w3]
