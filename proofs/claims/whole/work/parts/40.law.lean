def AllSteps (Rel : GG → SS → SS → Prop) : Prop :=
  (∀ (G : GG) (s m : SS) (a1 a2 a3 a4 : Int32), Rel G s m → ∃ (r : Int32) (s' m' : SS), CT_cafe G s a1 a2 a3 a4 = some (r, s') ∧ M_cafe m a1 a2 a3 a4 = some (r, m') ∧ Rel G s' m') ∧
  (∀ (G : GG) (s m : SS) (a1 a2 : Int32), Rel G s m → ∃ (r : Int32) (s' m' : SS), CT_ofTable G s a1 a2 = some (r, s') ∧ M_ofTable m a1 a2 = some (r, m') ∧ Rel G s' m') ∧
  (∀ (G : GG) (s m : SS) (a1 : Int32), Rel G s m → ∃ (r : Int32) (s' m' : SS), CT_rule G s a1 = some (r, s') ∧ M_rule m a1 = some (r, m') ∧ Rel G s' m') ∧
  (∀ (G : GG) (s m : SS) (a1 : Int32), Rel G s m → ∃ (r : Int32) (s' m' : SS), CT_patience G s a1 = some (r, s') ∧ M_patience m a1 = some (r, m') ∧ Rel G s' m') ∧
  (∀ (G : GG) (s m : SS) (a1 : Int32), (a1 = 0 ∨ a1 = 1) → Rel G s m → ∃ r s' m', CT_joining G s a1 = some (r, s') ∧ M_joining m a1 = some (r, m') ∧ Rel G s' m') ∧
  (∀ (G : GG) (s m : SS) (a1 : Int32), Rel G s m → ∃ (r : Int32) (s' m' : SS), CT_rain G s a1 = some (r, s') ∧ M_rain m a1 = some (r, m') ∧ Rel G s' m') ∧
  (∀ (G : GG) (s m : SS) (a1 a2 a3 a4 a5 a6 : Int32), Rel G s m → ∃ R r m', CT_group G s a1 a2 a3 a4 a5 a6 = some R ∧ M_group m a1 a2 a3 a4 a5 a6 = some (r, m') ∧ ((∃ s', R = .inl (r, s') ∧ Rel G s' m') ∨ ∃ k s1, R = .inr (k, r, s1) ∧ inb r 8 = true ∧ ∀ q s2, q ∉ gL G → CT_forget (gadd G q r.toNatClampNeg k (vals6 r a2 a3 a4 a5 a6)) (up2 s1 7 1 (r + (1 : Int32))) = some s2 → Rel (gadd G q r.toNatClampNeg k (vals6 r a2 a3 a4 a5 a6)) s2 m')) ∧
  (∀ (G : GG) (s m : SS) (a1 a2 : Int32), Rel G s m → ∃ (r : Int32) (s' m' : SS), CT_ofGroup G s a1 a2 = some (r, s') ∧ M_ofGroup m a1 a2 = some (r, m') ∧ Rel G s' m') ∧
  (∀ (G : GG) (s m : SS) (a1 a2 : Int32), Rel G s m → ∃ (r : Int32) (s' m' : SS), CT_day G s a1 a2 = some (r, s') ∧ M_day m a1 a2 = some (r, m') ∧ Rel G s' m') ∧
  (∀ (G : GG) (s m : SS) (a1 a2 : Int32), Rel G s m → ∃ (r : Int32) (s' m' : SS), CT_taken G s a1 a2 = some (r, s') ∧ M_taken m a1 a2 = some (r, m') ∧ Rel G s' m') ∧
  (∀ (G : GG) (s m : SS), Rel G s m → ∃ (r : Int32) (s' m' : SS), CT_coin G s  = some (r, s') ∧ M_coin m  = some (r, m') ∧ Rel G s' m') ∧
  (∀ (G : GG) (s m : SS) (a1 : Int32), Rel G s m → ∃ (r : Int64) (s' m' : SS), CT_worth G s a1 = some (r, s') ∧ M_worth m a1 = some (r, m') ∧ Rel G s' m') ∧
  (∀ (G : GG) (s m : SS) (a1 : Int32), Rel G s m → ∃ (r : Int32) (s' m' : SS), CT_plan G s a1 = some (r, s') ∧ M_plan m a1 = some (r, m') ∧ Rel G s' m') ∧
  (∀ (G : GG) (s m : SS) (a1 : Int32), Rel G s m → ∃ (r : Int32) (s' m' : SS), CT_bestRule G s a1 = some (r, s') ∧ M_bestRule m a1 = some (r, m') ∧ Rel G s' m') ∧
  (∀ (G : GG) (s m : SS) (a1 : Int32), Rel G s m → ∃ (r : Int32) (s' m' : SS), CT_waiting G s a1 = some (r, s') ∧ M_waiting m a1 = some (r, m') ∧ Rel G s' m') ∧
  (∀ (G : GG) (s m : SS) (a1 a2 : Int32), Rel G s m → ∃ (r : Int32) (s' m' : SS), CT_mix G s a1 a2 = some (r, s') ∧ M_mix m a1 a2 = some (r, m') ∧ Rel G s' m') ∧
  (∀ (G : GG) (s m : SS) (a1 a2 : Int32), Rel G s m → ∃ (r : Int32) (s' m' : SS), CT_till G s a1 a2 = some (r, s') ∧ M_till m a1 a2 = some (r, m') ∧ Rel G s' m') ∧
  (∀ (G : GG) (s m : SS) (a1 a2 a3 a4 a5 a6 : Int32), Rel G s m → ∃ (r : Int64) (s' m' : SS), CT_names G s a1 a2 a3 a4 a5 a6 = some (r, s') ∧ M_names m a1 a2 a3 a4 a5 a6 = some (r, m') ∧ Rel G s' m') ∧
  (∀ (G : GG) (s m : SS) (a1 a2 a3 a4 : Int32), Rel G s m → ∃ (r : Int32) (s' m' : SS), CT_take G s a1 a2 a3 a4 = some (r, s') ∧ M_take m a1 a2 a3 a4 = some (r, m') ∧ Rel G s' m') ∧
  (∀ (G : GG) (s m : SS) (a1 a2 a3 : Int32), Rel G s m → ∃ (r : Int32) (s' m' : SS), CT_sheet G s a1 a2 a3 = some (r, s') ∧ M_sheet m a1 a2 a3 = some (r, m') ∧ Rel G s' m') ∧
  (∀ (G : GG) (s m : SS) (a1 : Int32), Rel G s m → ∃ (r : Int32) (s' m' : SS), CT_lose G s a1 = some (r, s') ∧ M_lose m a1 = some (r, m') ∧ Rel G s' m') ∧
  (∀ (G : GG) (s m : SS) (a1 a2 a3 : Int32), Rel G s m → ∃ (r : Int32) (s' m' : SS), CT_put G s a1 a2 a3 = some (r, s') ∧ M_put m a1 a2 a3 = some (r, m') ∧ Rel G s' m') ∧
  (∀ (G : GG) (s m : SS) (a1 a2 a3 : Int32), Rel G s m → ∃ (r : Int64) (s' m' : SS), CT_cell G s a1 a2 a3 = some (r, s') ∧ M_cell m a1 a2 a3 = some (r, m') ∧ Rel G s' m') ∧
  (∀ (G : GG) (s m : SS) (a1 a2 a3 a4 a5 : Int32), Rel G s m → ∃ (r : Int32) (s' m' : SS), CT_copy G s a1 a2 a3 a4 a5 = some (r, s') ∧ M_copy m a1 a2 a3 a4 a5 = some (r, m') ∧ Rel G s' m') ∧
  (∀ (G : GG) (s m : SS) (a1 : Int32), Rel G s m → ∃ (r : Int32) (s' m' : SS), CT_tell G s a1 = some (r, s') ∧ M_tell m a1 = some (r, m') ∧ Rel G s' m') ∧
  (∀ (G : GG) (s m : SS) (a1 : Int32), Rel G s m → ∃ (r : Int32) (s' m' : SS), CT_serve G s a1 = some (r, s') ∧ M_serve m a1 = some (r, m') ∧ Rel G s' m') ∧
  (∀ (G : GG) (s m : SS) (a1 a2 : Int32), Rel G s m → ∃ (r : Int32) (s' m' : SS), CT_as G s a1 a2 = some (r, s') ∧ M_as m a1 a2 = some (r, m') ∧ Rel G s' m') ∧
  (∀ (G : GG) (s m : SS), Rel G s m → ∃ (r : Int32) (s' m' : SS), CT_trace G s  = some (r, s') ∧ M_trace m  = some (r, m') ∧ Rel G s' m') ∧
  (∀ (G : GG) (s m : SS), Rel G s m → ∃ (r : Int32) (s' m' : SS), CT_fault G s  = some (r, s') ∧ M_fault m  = some (r, m') ∧ Rel G s' m') ∧
  (∀ (G : GG) (s m : SS) (a1 : Int32), Rel G s m → ∃ (r : Int32) (s' m' : SS), CT_many G s a1 = some (r, s') ∧ M_many m a1 = some (r, m') ∧ Rel G s' m')
theorem part_l {D : va_G} {A : Nat → Prop} {w1 w2 : va_W} {H H1 : Heap} (hD : va_D A (w1 ++ w2)) (hP : va_P D vwCl (w1 ++ w2) H) : va_P D vwCl w1 H ∧ va_D A w1 ∧ va_P D vwCl w2 H ∧ va_D A w2 ∧ (∀ (i : Nat) (q : Nat × va_E), w2[i]? = some q → ¬ va_A w1 H.size q.1) ∧ ∀ (i : Nat) (q : Nat × va_E), w1[i]? = some q → ¬ va_A w2 H.size q.1 := by
  have g1 : ∀ (i : Nat) (q : Nat × va_E), w1[i]? = some q → (w1 ++ w2)[i]? = some q := fun i q h => by rw [List.getElem?_append_left (List.getElem?_eq_some_iff.mp h).1]; exact h
  have g2 : ∀ (i : Nat) (q : Nat × va_E), w2[i]? = some q → (w1 ++ w2)[w1.length + i]? = some q := fun i q h => by rw [List.getElem?_append_right (by omega), Nat.add_sub_cancel_left]; exact h
  refine ⟨fun i q h => hP i q (g1 i q h), ⟨fun i j p q h1 h2 e => hD.1 i j p q (g1 i p h1) (g1 j q h2) e, fun i q h => hD.2 i q (g1 i q h)⟩, fun i q h => hP _ q (g2 i q h), ⟨fun i j p q h1 h2 e => by have := hD.1 _ _ p q (g2 i p h1) (g2 j q h2) e; omega, fun i q h => hD.2 _ q (g2 i q h)⟩, fun i q h a => ?_, fun i q h a => ?_⟩
  · rcases a with ⟨k, e, a⟩ | a
    · have h0 := (List.getElem?_eq_some_iff.mp a).1
      have := hD.1 _ _ q (q.1, e) (g2 i q h) (g1 k _ a) rfl
      omega
    · exact absurd (hP _ q (g2 i q h)).lt (Nat.not_lt.mpr a)
  · rcases a with ⟨k, e, a⟩ | a
    · have h0 := (List.getElem?_eq_some_iff.mp h).1
      have := hD.1 _ _ q (q.1, e) (g1 i q h) (g2 k _ a) rfl
      omega
    · exact absurd (hP _ q (g1 i q h)).lt (Nat.not_lt.mpr a)
theorem map_app {w1 w1' w2 w2' : va_W} (h1 : w1'.map (fun q => q.1) = w1.map (fun q => q.1)) (h2 : w2'.map (fun q => q.1) = w2.map (fun q => q.1)) : (w1' ++ w2').map (fun q => q.1) = (w1 ++ w2).map (fun q => q.1) := by rw [List.map_append, List.map_append, h1, h2]
set_option maxHeartbeats 4000000 in
theorem vLC_i {X : Cx} {cc : ByteArray} {own : String} {nL d kc ks pc : Nat} {c : Nat → ClassId} {ls : List (Nat × Value)} {ad bd : Nat → Nat} {G : GG} {s s' m : SS} (K : Ok X cc own nL d c) {y : MethodName} {bytes : ByteArray} {maxL n ix dc : Nat} {ret : Option FieldType} {r : Int32} (As rest : List Value) {stk : List Value} (S : cwVok own ix RX9 y bytes maxL ret n) (hC : Ci (xl X) (xD X) c y bytes maxL ret dc (.ref (ad 0) :: As) (wC ad c G s) r (wC ad c G s')) (hn : As.length = n) (hst : stk = As.reverse ++ .ref (ad 0) :: rest) (hrm : (rest.map fun v => v.category).sum ≤ 8) (hdc : dc + 1 ≤ d) (hk : kc ≤ (xR X).cells ∧ ks ≤ (xR X).slots) (hd : decode cc pc = .ok (.invokevirtual ix, 3)) (k : V X nL kc ks (pc + 3) ls (.int r :: rest) (wC ad c G s' ++ wM bd c m)) : V X nL kc ks pc ls stk (wC ad c G s ++ wM bd c m) := by
  subst hst
  intro H locs la hl hP hD hS
  obtain ⟨k1, k2, k3, k4, k5, k6, k7, k8, k9, k10⟩ := id K
  obtain ⟨hPc, hDc, hPo, hDo, hn1, hn2⟩ := part_l (H1 := H) hD hP
  refine va_calli (va_runV (As := As) (rest := rest) ⟨k1, k2, k3, k4, k5⟩ (hC H.size) (cwV n k5 (BG_app S.2.2.1 S.2.2.2) rfl rfl rfl S.1 (Rsub k9 k10 hdc S.2.1)) ⟨PreW.blind, va_recv (ci := 9) (q0 := 0) k6 hPc rfl rfl, fun U hU hW => ⟨rfl, by rw [hU], by rw [hU]; exact hPc, va_K.moved hW.alike k6, hDc.weaken (fun _ _ _ _ => trivial), NW.warm hW k8⟩⟩ rfl hn hl.1 rfl (lv_room hrm) hd hk) hS (fun q _ h => Asub hDc hS k7 q h) (Asub hDc hS k7) (fun r' u t H1 locs1 ht hvm hw hB hz1 hk1 hS1 => ?_)
  subst hw
  have hPk := hPo.kept (H1 := H1) (fun i q hq => hk1 q.1 ((hPo i q hq).lt) (hn1 i q hq))
  exact k H1 locs1 la hl (va_P.app (by rw [← ht]; exact hB) hPk) (va_D.addr (map_app (wC_same ad c G s s') rfl) hD) hS1
set_option maxHeartbeats 4000000 in
theorem vLM_i {X : Cx} {cc : ByteArray} {own : String} {nL d kc ks pc : Nat} {c : Nat → ClassId} {ls : List (Nat × Value)} {ad bd : Nat → Nat} {G : GG} {s m m' : SS} (K : Ok X cc own nL d c) {y : MethodName} {bytes : ByteArray} {maxL n ix dc : Nat} {ret : Option FieldType} {r : Int32} (As rest : List Value) {stk : List Value} (S : cwVok own ix RX10 y bytes maxL ret n) (hC : Ci (xl X) (xD X) c y bytes maxL ret dc (.ref (bd 0) :: As) (wM bd c m) r (wM bd c m')) (hn : As.length = n) (hst : stk = As.reverse ++ .ref (bd 0) :: rest) (hrm : (rest.map fun v => v.category).sum ≤ 8) (hdc : dc + 1 ≤ d) (hk : kc ≤ (xR X).cells ∧ ks ≤ (xR X).slots) (hd : decode cc pc = .ok (.invokevirtual ix, 3)) (k : V X nL kc ks (pc + 3) ls (.int r :: rest) (wC ad c G s ++ wM bd c m')) : V X nL kc ks pc ls stk (wC ad c G s ++ wM bd c m) := by
  subst hst
  intro H locs la hl hP hD hS
  obtain ⟨k1, k2, k3, k4, k5, k6, k7, k8, k9, k10⟩ := id K
  obtain ⟨hPo, hDo, hPc, hDc, hn2, hn1⟩ := part_l (H1 := H) hD hP
  refine va_calli (va_runV (As := As) (rest := rest) ⟨k1, k2, k3, k4, k5⟩ (hC H.size) (cwV n k5 (BG_app S.2.2.1 S.2.2.2) rfl rfl rfl S.1 (Rsub k9 k10 hdc S.2.1)) ⟨PreW.blind, va_recv (ci := 10) (q0 := 0) k6 hPc rfl rfl, fun U hU hW => ⟨rfl, by rw [hU], by rw [hU]; exact hPc, va_K.moved hW.alike k6, hDc.weaken (fun _ _ _ _ => trivial), NW.warm hW k8⟩⟩ rfl hn hl.1 rfl (lv_room hrm) hd hk) hS (fun q _ h => Asub hDc hS k7 q h) (Asub hDc hS k7) (fun r' u t H1 locs1 ht hvm hw hB hz1 hk1 hS1 => ?_)
  subst hw
  have hPk := hPo.kept (H1 := H1) (fun i q hq => hk1 q.1 ((hPo i q hq).lt) (hn1 i q hq))
  exact k H1 locs1 la hl (va_P.app hPk (by rw [← ht]; exact hB)) (va_D.addr (map_app rfl (wM_same bd c m m')) hD) hS1
set_option maxHeartbeats 4000000 in
theorem vLC_l {X : Cx} {cc : ByteArray} {own : String} {nL d kc ks pc : Nat} {c : Nat → ClassId} {ls : List (Nat × Value)} {ad bd : Nat → Nat} {G : GG} {s s' m : SS} (K : Ok X cc own nL d c) {y : MethodName} {bytes : ByteArray} {maxL n ix dc : Nat} {ret : Option FieldType} {r : Int64} (As rest : List Value) {stk : List Value} (S : cwVok own ix RX9 y bytes maxL ret n) (hC : Cl (xl X) (xD X) c y bytes maxL ret dc (.ref (ad 0) :: As) (wC ad c G s) r (wC ad c G s')) (hn : As.length = n) (hst : stk = As.reverse ++ .ref (ad 0) :: rest) (hrm : (rest.map fun v => v.category).sum ≤ 8) (hdc : dc + 1 ≤ d) (hk : kc ≤ (xR X).cells ∧ ks ≤ (xR X).slots) (hd : decode cc pc = .ok (.invokevirtual ix, 3)) (k : V X nL kc ks (pc + 3) ls (.long r :: rest) (wC ad c G s' ++ wM bd c m)) : V X nL kc ks pc ls stk (wC ad c G s ++ wM bd c m) := by
  subst hst
  intro H locs la hl hP hD hS
  obtain ⟨k1, k2, k3, k4, k5, k6, k7, k8, k9, k10⟩ := id K
  obtain ⟨hPc, hDc, hPo, hDo, hn1, hn2⟩ := part_l (H1 := H) hD hP
  refine va_calll (va_runV (As := As) (rest := rest) ⟨k1, k2, k3, k4, k5⟩ (hC H.size) (cwV n k5 (BG_app S.2.2.1 S.2.2.2) rfl rfl rfl S.1 (Rsub k9 k10 hdc S.2.1)) ⟨PreW.blind, va_recv (ci := 9) (q0 := 0) k6 hPc rfl rfl, fun U hU hW => ⟨rfl, by rw [hU], by rw [hU]; exact hPc, va_K.moved hW.alike k6, hDc.weaken (fun _ _ _ _ => trivial), NW.warm hW k8⟩⟩ rfl hn hl.1 rfl (lv_room hrm) hd hk) hS (fun q _ h => Asub hDc hS k7 q h) (Asub hDc hS k7) (fun r' u t H1 locs1 ht hvm hw hB hz1 hk1 hS1 => ?_)
  subst hw
  have hPk := hPo.kept (H1 := H1) (fun i q hq => hk1 q.1 ((hPo i q hq).lt) (hn1 i q hq))
  exact k H1 locs1 la hl (va_P.app (by rw [← ht]; exact hB) hPk) (va_D.addr (map_app (wC_same ad c G s s') rfl) hD) hS1
set_option maxHeartbeats 4000000 in
theorem vLM_l {X : Cx} {cc : ByteArray} {own : String} {nL d kc ks pc : Nat} {c : Nat → ClassId} {ls : List (Nat × Value)} {ad bd : Nat → Nat} {G : GG} {s m m' : SS} (K : Ok X cc own nL d c) {y : MethodName} {bytes : ByteArray} {maxL n ix dc : Nat} {ret : Option FieldType} {r : Int64} (As rest : List Value) {stk : List Value} (S : cwVok own ix RX10 y bytes maxL ret n) (hC : Cl (xl X) (xD X) c y bytes maxL ret dc (.ref (bd 0) :: As) (wM bd c m) r (wM bd c m')) (hn : As.length = n) (hst : stk = As.reverse ++ .ref (bd 0) :: rest) (hrm : (rest.map fun v => v.category).sum ≤ 8) (hdc : dc + 1 ≤ d) (hk : kc ≤ (xR X).cells ∧ ks ≤ (xR X).slots) (hd : decode cc pc = .ok (.invokevirtual ix, 3)) (k : V X nL kc ks (pc + 3) ls (.long r :: rest) (wC ad c G s ++ wM bd c m')) : V X nL kc ks pc ls stk (wC ad c G s ++ wM bd c m) := by
  subst hst
  intro H locs la hl hP hD hS
  obtain ⟨k1, k2, k3, k4, k5, k6, k7, k8, k9, k10⟩ := id K
  obtain ⟨hPo, hDo, hPc, hDc, hn2, hn1⟩ := part_l (H1 := H) hD hP
  refine va_calll (va_runV (As := As) (rest := rest) ⟨k1, k2, k3, k4, k5⟩ (hC H.size) (cwV n k5 (BG_app S.2.2.1 S.2.2.2) rfl rfl rfl S.1 (Rsub k9 k10 hdc S.2.1)) ⟨PreW.blind, va_recv (ci := 10) (q0 := 0) k6 hPc rfl rfl, fun U hU hW => ⟨rfl, by rw [hU], by rw [hU]; exact hPc, va_K.moved hW.alike k6, hDc.weaken (fun _ _ _ _ => trivial), NW.warm hW k8⟩⟩ rfl hn hl.1 rfl (lv_room hrm) hd hk) hS (fun q _ h => Asub hDc hS k7 q h) (Asub hDc hS k7) (fun r' u t H1 locs1 ht hvm hw hB hz1 hk1 hS1 => ?_)
  subst hw
  have hPk := hPo.kept (H1 := H1) (fun i q hq => hk1 q.1 ((hPo i q hq).lt) (hn1 i q hq))
  exact k H1 locs1 la hl (va_P.app hPk (by rw [← ht]; exact hB)) (va_D.addr (map_app rfl (wM_same bd c m m')) hD) hS1
set_option maxHeartbeats 4000000 in
theorem vLG {X : Cx} {cc : ByteArray} {own : String} {nL d kc ks pc : Nat} {c : Nat → ClassId} {ls : List (Nat × Value)} {ad bd : Nat → Nat} {G : GG} {s m : SS} (K : Ok X cc own nL d c) {y : MethodName} {bytes : ByteArray} {maxL n ix dc mc ms : Nat} {post : Int32 → va_W → Prop} (As rest : List Value) {stk : List Value} (S : cwVok own ix RX9 y bytes maxL (some .int) n) (hC : CNI (xl X) (xD X) c y bytes maxL dc mc ms (.ref (ad 0) :: As) (wC ad c G s) post) (hn : As.length = n) (hst : stk = As.reverse ++ .ref (ad 0) :: rest) (hrm : (rest.map fun v => v.category).sum ≤ 8) (hdc : dc + 1 ≤ d) (hk : kc + mc ≤ (xR X).cells ∧ ks + ms ≤ (xR X).slots) (hd : decode cc pc = .ok (.invokevirtual ix, 3)) (k : ∀ r u, post r u → V X nL (kc + mc) (ks + ms) (pc + 3) ls (.int r :: rest) (u ++ wM bd c m)) : V X nL kc ks pc ls stk (wC ad c G s ++ wM bd c m) := by
  subst hst
  intro H locs la hl hP hD hS
  obtain ⟨k1, k2, k3, k4, k5, k6, k7, k8, k9, k10⟩ := id K
  obtain ⟨hPc, hDc, hPo, hDo, hn1, hn2⟩ := part_l (H1 := H) hD hP
  refine va_calli (va_runV (As := As) (rest := rest) ⟨k1, k2, k3, k4, k5⟩ (hC H.size) (cwV n k5 (BG_app S.2.2.1 S.2.2.2) rfl rfl rfl S.1 (Rsub k9 k10 hdc S.2.1)) ⟨PreW.blind, va_recv (ci := 9) (q0 := 0) k6 hPc rfl rfl, fun U hU hW => ⟨rfl, by rw [hU], by rw [hU]; exact hPc, va_K.moved hW.alike k6, hDc.weaken (fun _ _ _ _ => trivial), NW.warm hW k8⟩⟩ rfl hn hl.1 rfl (lv_room hrm) hd hk) hS (fun q _ h => Asub hDc hS k7 q h) (Asub hDc hS k7) (fun r' u t H1 locs1 ht hvm hw hB hz1 hk1 hS1 => ?_)
  obtain ⟨hP1, hD1⟩ := hB
  rw [ht] at hP1
  have hPk := hPo.kept (H1 := H1) (fun i q hq => hk1 q.1 ((hPo i q hq).lt) (hn1 i q hq))
  refine k r' u hw H1 locs1 la hl (va_P.app hP1 hPk) (va_D.app (hD1.weaken (fun _ q _ h => Asub hDc hS k7 q.1 h)) hDo (fun i j p q h1 h2 e => ?_)) hS1
  exact hn1 j q h2 (by rw [← e]; exact hD1.2 i p h1)
theorem v_sld {X : Cx} {cc : ByteArray} {own : String} {nL d kc ks pc b L : Nat} {xv : Nat → Int32} {c : Nat → ClassId} {ls : List (Nat × Value)} {st : List Value} {ws : va_W} (K : Ok X cc own nL d c) (hX : va_X b L xv (xs X) (xs X).heap) (hbl : b < (xs X).heap.size) (hbA : ¬ xA X b) {i : Int32} (hin : vp_in i L) (hd : decode cc pc = .ok (.iaload, 1)) (k : V X nL kc ks (pc + 1) ls (.int (xv i.toNatClampNeg) :: st) ws) : V X nL kc ks pc ls (.int i :: .ref b :: st) ws := fun H locs la hl hP hD hS => va_sld K.1 K.2.1 hX hbl hbA hS hin hd (k H locs la hl hP hD hS)
theorem v_slen {X : Cx} {cc : ByteArray} {own : String} {nL d kc ks pc b L : Nat} {xv : Nat → Int32} {c : Nat → ClassId} {ls : List (Nat × Value)} {st : List Value} {ws : va_W} (K : Ok X cc own nL d c) (hX : va_X b L xv (xs X) (xs X).heap) (hbl : b < (xs X).heap.size) (hbA : ¬ xA X b) (hd : decode cc pc = .ok (.arraylength, 1)) (k : V X nL kc ks (pc + 1) ls (.int (nI L) :: st) ws) : V X nL kc ks pc ls (.ref b :: st) ws := fun H locs la hl hP hD hS => va_slen K.1 K.2.1 hX hbl hbA hS hd (k H locs la hl hP hD hS)
theorem cw_RL_13 : cwVok RL 13 RX9 yX9_cafe cX9_cafe 7 (some .int) 4 := ⟨⟨rfl, by decide, by decide, by decide +kernel⟩, by decide, all4 (BG_ix 317 (by decide +kernel) rfl) (BG_ix 318 (by decide +kernel) rfl) (BG_ix 319 (by decide +kernel) rfl) (BG_ix 60 (by decide +kernel) rfl), (BG_ix 320 (by decide +kernel) rfl)⟩
theorem cw_RL_17 : cwVok RL 17 RX10 yX10_cafe cX10_cafe 8 (some .int) 4 := ⟨⟨rfl, by decide, by decide, by decide +kernel⟩, by decide, all4 (BG_ix 922 (by decide +kernel) rfl) (BG_ix 923 (by decide +kernel) rfl) (BG_ix 924 (by decide +kernel) rfl) (BG_ix 67 (by decide +kernel) rfl), (BG_ix 925 (by decide +kernel) rfl)⟩
theorem cw_RL_18 : cwVok RL 18 RX9 yX9_ofTable cX9_ofTable 3 (some .int) 2 := ⟨⟨rfl, by decide, by decide, by decide +kernel⟩, by decide, all4 (BG_ix 356 (by decide +kernel) rfl) (BG_ix 357 (by decide +kernel) rfl) (BG_ix 358 (by decide +kernel) rfl) (BG_ix 60 (by decide +kernel) rfl), (BG_ix 359 (by decide +kernel) rfl)⟩
theorem cw_RL_22 : cwVok RL 22 RX10 yX10_ofTable cX10_ofTable 3 (some .int) 2 := ⟨⟨rfl, by decide, by decide, by decide +kernel⟩, by decide, all4 (BG_ix 951 (by decide +kernel) rfl) (BG_ix 952 (by decide +kernel) rfl) (BG_ix 953 (by decide +kernel) rfl) (BG_ix 67 (by decide +kernel) rfl), (BG_ix 954 (by decide +kernel) rfl)⟩
theorem cw_RL_23 : cwVok RL 23 RX9 yX9_rule cX9_rule 3 (some .int) 1 := ⟨⟨rfl, by decide, by decide, by decide +kernel⟩, by decide, all4 (BG_ix 360 (by decide +kernel) rfl) (BG_ix 361 (by decide +kernel) rfl) (BG_ix 362 (by decide +kernel) rfl) (BG_ix 60 (by decide +kernel) rfl), (BG_ix 363 (by decide +kernel) rfl)⟩
theorem cw_RL_27 : cwVok RL 27 RX10 yX10_rule cX10_rule 3 (some .int) 1 := ⟨⟨rfl, by decide, by decide, by decide +kernel⟩, by decide, all4 (BG_ix 955 (by decide +kernel) rfl) (BG_ix 956 (by decide +kernel) rfl) (BG_ix 957 (by decide +kernel) rfl) (BG_ix 67 (by decide +kernel) rfl), (BG_ix 958 (by decide +kernel) rfl)⟩
theorem cw_RL_28 : cwVok RL 28 RX9 yX9_patience cX9_patience 3 (some .int) 1 := ⟨⟨rfl, by decide, by decide, by decide +kernel⟩, by decide, all4 (BG_ix 368 (by decide +kernel) rfl) (BG_ix 369 (by decide +kernel) rfl) (BG_ix 370 (by decide +kernel) rfl) (BG_ix 60 (by decide +kernel) rfl), (BG_ix 371 (by decide +kernel) rfl)⟩
theorem cw_RL_31 : cwVok RL 31 RX10 yX10_patience cX10_patience 3 (some .int) 1 := ⟨⟨rfl, by decide, by decide, by decide +kernel⟩, by decide, all4 (BG_ix 963 (by decide +kernel) rfl) (BG_ix 964 (by decide +kernel) rfl) (BG_ix 965 (by decide +kernel) rfl) (BG_ix 67 (by decide +kernel) rfl), (BG_ix 966 (by decide +kernel) rfl)⟩
theorem cw_RL_32 : cwVok RL 32 RX9 yX9_joining cX9_joining 2 (some .int) 1 := ⟨⟨rfl, by decide, by decide, by decide +kernel⟩, by decide, all4 (BG_ix 372 (by decide +kernel) rfl) (BG_ix 373 (by decide +kernel) rfl) (BG_ix 374 (by decide +kernel) rfl) (BG_ix 60 (by decide +kernel) rfl), (BG_ix 375 (by decide +kernel) rfl)⟩
theorem cw_RL_36 : cwVok RL 36 RX10 yX10_joining cX10_joining 3 (some .int) 1 := ⟨⟨rfl, by decide, by decide, by decide +kernel⟩, by decide, all4 (BG_ix 967 (by decide +kernel) rfl) (BG_ix 968 (by decide +kernel) rfl) (BG_ix 969 (by decide +kernel) rfl) (BG_ix 67 (by decide +kernel) rfl), (BG_ix 970 (by decide +kernel) rfl)⟩
theorem cw_RL_37 : cwVok RL 37 RX9 yX9_rain cX9_rain 2 (some .int) 1 := ⟨⟨rfl, by decide, by decide, by decide +kernel⟩, by decide, all4 (BG_ix 376 (by decide +kernel) rfl) (BG_ix 377 (by decide +kernel) rfl) (BG_ix 378 (by decide +kernel) rfl) (BG_ix 60 (by decide +kernel) rfl), (BG_ix 379 (by decide +kernel) rfl)⟩
theorem cw_RL_40 : cwVok RL 40 RX10 yX10_rain cX10_rain 2 (some .int) 1 := ⟨⟨rfl, by decide, by decide, by decide +kernel⟩, by decide, all4 (BG_ix 971 (by decide +kernel) rfl) (BG_ix 972 (by decide +kernel) rfl) (BG_ix 973 (by decide +kernel) rfl) (BG_ix 67 (by decide +kernel) rfl), (BG_ix 974 (by decide +kernel) rfl)⟩
theorem cw_RL_41 : cwVok RL 41 RX9 yX9_group cX9_group 8 (some .int) 6 := ⟨⟨rfl, by decide, by decide, by decide +kernel⟩, by decide, all4 (BG_ix 380 (by decide +kernel) rfl) (BG_ix 381 (by decide +kernel) rfl) (BG_ix 382 (by decide +kernel) rfl) (BG_ix 60 (by decide +kernel) rfl), (BG_ix 383 (by decide +kernel) rfl)⟩
theorem cw_RL_45 : cwVok RL 45 RX10 yX10_group cX10_group 7 (some .int) 6 := ⟨⟨rfl, by decide, by decide, by decide +kernel⟩, by decide, all4 (BG_ix 975 (by decide +kernel) rfl) (BG_ix 976 (by decide +kernel) rfl) (BG_ix 977 (by decide +kernel) rfl) (BG_ix 67 (by decide +kernel) rfl), (BG_ix 978 (by decide +kernel) rfl)⟩
theorem cw_RL_46 : cwVok RL 46 RX9 yX9_ofGroup cX9_ofGroup 4 (some .int) 2 := ⟨⟨rfl, by decide, by decide, by decide +kernel⟩, by decide, all4 (BG_ix 453 (by decide +kernel) rfl) (BG_ix 454 (by decide +kernel) rfl) (BG_ix 455 (by decide +kernel) rfl) (BG_ix 60 (by decide +kernel) rfl), (BG_ix 456 (by decide +kernel) rfl)⟩
theorem cw_RL_49 : cwVok RL 49 RX10 yX10_ofGroup cX10_ofGroup 3 (some .int) 2 := ⟨⟨rfl, by decide, by decide, by decide +kernel⟩, by decide, all4 (BG_ix 979 (by decide +kernel) rfl) (BG_ix 980 (by decide +kernel) rfl) (BG_ix 981 (by decide +kernel) rfl) (BG_ix 67 (by decide +kernel) rfl), (BG_ix 982 (by decide +kernel) rfl)⟩
theorem cw_RL_50 : cwVok RL 50 RX9 yX9_day cX9_day 4 (some .int) 2 := ⟨⟨rfl, by decide, by decide, by decide +kernel⟩, by decide, all4 (BG_ix 484 (by decide +kernel) rfl) (BG_ix 485 (by decide +kernel) rfl) (BG_ix 486 (by decide +kernel) rfl) (BG_ix 60 (by decide +kernel) rfl), (BG_ix 487 (by decide +kernel) rfl)⟩
theorem cw_RL_53 : cwVok RL 53 RX10 yX10_day cX10_day 4 (some .int) 2 := ⟨⟨rfl, by decide, by decide, by decide +kernel⟩, by decide, all4 (BG_ix 991 (by decide +kernel) rfl) (BG_ix 992 (by decide +kernel) rfl) (BG_ix 993 (by decide +kernel) rfl) (BG_ix 67 (by decide +kernel) rfl), (BG_ix 994 (by decide +kernel) rfl)⟩
theorem cw_RL_54 : cwVok RL 54 RX9 yX9_taken cX9_taken 3 (some .int) 2 := ⟨⟨rfl, by decide, by decide, by decide +kernel⟩, by decide, all4 (BG_ix 578 (by decide +kernel) rfl) (BG_ix 579 (by decide +kernel) rfl) (BG_ix 580 (by decide +kernel) rfl) (BG_ix 60 (by decide +kernel) rfl), (BG_ix 581 (by decide +kernel) rfl)⟩
theorem cw_RL_57 : cwVok RL 57 RX10 yX10_taken cX10_taken 4 (some .int) 2 := ⟨⟨rfl, by decide, by decide, by decide +kernel⟩, by decide, all4 (BG_ix 1079 (by decide +kernel) rfl) (BG_ix 1080 (by decide +kernel) rfl) (BG_ix 1081 (by decide +kernel) rfl) (BG_ix 67 (by decide +kernel) rfl), (BG_ix 1082 (by decide +kernel) rfl)⟩
theorem cw_RL_58 : cwVok RL 58 RX9 yX9_coin cX9_coin 1 (some .int) 0 := ⟨⟨rfl, by decide, by decide, by decide +kernel⟩, by decide, all4 (BG_ix 584 (by decide +kernel) rfl) (BG_ix 585 (by decide +kernel) rfl) (BG_ix 586 (by decide +kernel) rfl) (BG_ix 60 (by decide +kernel) rfl), (BG_ix 587 (by decide +kernel) rfl)⟩
theorem cw_RL_62 : cwVok RL 62 RX10 yX10_coin cX10_coin 1 (some .int) 0 := ⟨⟨rfl, by decide, by decide, by decide +kernel⟩, by decide, all4 (BG_ix 1083 (by decide +kernel) rfl) (BG_ix 1084 (by decide +kernel) rfl) (BG_ix 1085 (by decide +kernel) rfl) (BG_ix 67 (by decide +kernel) rfl), (BG_ix 1086 (by decide +kernel) rfl)⟩
theorem cw_RL_63 : cwVok RL 63 RX9 yX9_worth cX9_worth 3 (some .long) 1 := ⟨⟨rfl, by decide, by decide, by decide +kernel⟩, by decide, all4 (BG_ix 589 (by decide +kernel) rfl) (BG_ix 590 (by decide +kernel) rfl) (BG_ix 591 (by decide +kernel) rfl) (BG_ix 60 (by decide +kernel) rfl), (BG_ix 592 (by decide +kernel) rfl)⟩
theorem cw_RL_67 : cwVok RL 67 RX10 yX10_worth cX10_worth 3 (some .long) 1 := ⟨⟨rfl, by decide, by decide, by decide +kernel⟩, by decide, all4 (BG_ix 1087 (by decide +kernel) rfl) (BG_ix 1088 (by decide +kernel) rfl) (BG_ix 1089 (by decide +kernel) rfl) (BG_ix 67 (by decide +kernel) rfl), (BG_ix 1090 (by decide +kernel) rfl)⟩
theorem cw_RL_68 : cwVok RL 68 RX9 yX9_plan cX9_plan 2 (some .int) 1 := ⟨⟨rfl, by decide, by decide, by decide +kernel⟩, by decide, all4 (BG_ix 594 (by decide +kernel) rfl) (BG_ix 595 (by decide +kernel) rfl) (BG_ix 596 (by decide +kernel) rfl) (BG_ix 60 (by decide +kernel) rfl), (BG_ix 597 (by decide +kernel) rfl)⟩
theorem cw_RL_71 : cwVok RL 71 RX10 yX10_plan cX10_plan 2 (some .int) 1 := ⟨⟨rfl, by decide, by decide, by decide +kernel⟩, by decide, all4 (BG_ix 1092 (by decide +kernel) rfl) (BG_ix 1093 (by decide +kernel) rfl) (BG_ix 1094 (by decide +kernel) rfl) (BG_ix 67 (by decide +kernel) rfl), (BG_ix 1095 (by decide +kernel) rfl)⟩
theorem cw_RL_72 : cwVok RL 72 RX9 yX9_bestRule cX9_bestRule 6 (some .int) 1 := ⟨⟨rfl, by decide, by decide, by decide +kernel⟩, by decide, all4 (BG_ix 619 (by decide +kernel) rfl) (BG_ix 620 (by decide +kernel) rfl) (BG_ix 621 (by decide +kernel) rfl) (BG_ix 60 (by decide +kernel) rfl), (BG_ix 622 (by decide +kernel) rfl)⟩
theorem cw_RL_75 : cwVok RL 75 RX10 yX10_bestRule cX10_bestRule 6 (some .int) 1 := ⟨⟨rfl, by decide, by decide, by decide +kernel⟩, by decide, all4 (BG_ix 1112 (by decide +kernel) rfl) (BG_ix 1113 (by decide +kernel) rfl) (BG_ix 1114 (by decide +kernel) rfl) (BG_ix 67 (by decide +kernel) rfl), (BG_ix 1115 (by decide +kernel) rfl)⟩
theorem cw_RL_76 : cwVok RL 76 RX9 yX9_waiting cX9_waiting 4 (some .int) 1 := ⟨⟨rfl, by decide, by decide, by decide +kernel⟩, by decide, all4 (BG_ix 627 (by decide +kernel) rfl) (BG_ix 628 (by decide +kernel) rfl) (BG_ix 629 (by decide +kernel) rfl) (BG_ix 60 (by decide +kernel) rfl), (BG_ix 630 (by decide +kernel) rfl)⟩
theorem cw_RL_79 : cwVok RL 79 RX10 yX10_waiting cX10_waiting 6 (some .int) 1 := ⟨⟨rfl, by decide, by decide, by decide +kernel⟩, by decide, all4 (BG_ix 1120 (by decide +kernel) rfl) (BG_ix 1121 (by decide +kernel) rfl) (BG_ix 1122 (by decide +kernel) rfl) (BG_ix 67 (by decide +kernel) rfl), (BG_ix 1123 (by decide +kernel) rfl)⟩
theorem cw_RL_80 : cwVok RL 80 RX9 yX9_mix cX9_mix 3 (some .int) 2 := ⟨⟨rfl, by decide, by decide, by decide +kernel⟩, by decide, all4 (BG_ix 635 (by decide +kernel) rfl) (BG_ix 636 (by decide +kernel) rfl) (BG_ix 637 (by decide +kernel) rfl) (BG_ix 60 (by decide +kernel) rfl), (BG_ix 638 (by decide +kernel) rfl)⟩
theorem cw_RL_83 : cwVok RL 83 RX10 yX10_mix cX10_mix 9 (some .int) 2 := ⟨⟨rfl, by decide, by decide, by decide +kernel⟩, by decide, all4 (BG_ix 1124 (by decide +kernel) rfl) (BG_ix 1125 (by decide +kernel) rfl) (BG_ix 1126 (by decide +kernel) rfl) (BG_ix 67 (by decide +kernel) rfl), (BG_ix 1127 (by decide +kernel) rfl)⟩
theorem cw_RL_84 : cwVok RL 84 RX9 yX9_till cX9_till 7 (some .int) 2 := ⟨⟨rfl, by decide, by decide, by decide +kernel⟩, by decide, all4 (BG_ix 651 (by decide +kernel) rfl) (BG_ix 652 (by decide +kernel) rfl) (BG_ix 653 (by decide +kernel) rfl) (BG_ix 60 (by decide +kernel) rfl), (BG_ix 654 (by decide +kernel) rfl)⟩
theorem cw_RL_87 : cwVok RL 87 RX10 yX10_till cX10_till 7 (some .int) 2 := ⟨⟨rfl, by decide, by decide, by decide +kernel⟩, by decide, all4 (BG_ix 1132 (by decide +kernel) rfl) (BG_ix 1133 (by decide +kernel) rfl) (BG_ix 1134 (by decide +kernel) rfl) (BG_ix 67 (by decide +kernel) rfl), (BG_ix 1135 (by decide +kernel) rfl)⟩
theorem cw_RL_88 : cwVok RL 88 RX9 yX9_names cX9_names 13 (some .long) 6 := ⟨⟨rfl, by decide, by decide, by decide +kernel⟩, by decide, all4 (BG_ix 655 (by decide +kernel) rfl) (BG_ix 656 (by decide +kernel) rfl) (BG_ix 657 (by decide +kernel) rfl) (BG_ix 60 (by decide +kernel) rfl), (BG_ix 658 (by decide +kernel) rfl)⟩
theorem cw_RL_92 : cwVok RL 92 RX10 yX10_names cX10_names 7 (some .long) 6 := ⟨⟨rfl, by decide, by decide, by decide +kernel⟩, by decide, all4 (BG_ix 1136 (by decide +kernel) rfl) (BG_ix 1137 (by decide +kernel) rfl) (BG_ix 1138 (by decide +kernel) rfl) (BG_ix 67 (by decide +kernel) rfl), (BG_ix 1139 (by decide +kernel) rfl)⟩
theorem cw_RL_93 : cwVok RL 93 RX9 yX9_take cX9_take 11 (some .int) 4 := ⟨⟨rfl, by decide, by decide, by decide +kernel⟩, by decide, all4 (BG_ix 679 (by decide +kernel) rfl) (BG_ix 680 (by decide +kernel) rfl) (BG_ix 681 (by decide +kernel) rfl) (BG_ix 60 (by decide +kernel) rfl), (BG_ix 682 (by decide +kernel) rfl)⟩
theorem cw_RL_96 : cwVok RL 96 RX10 yX10_take cX10_take 11 (some .int) 4 := ⟨⟨rfl, by decide, by decide, by decide +kernel⟩, by decide, all4 (BG_ix 1153 (by decide +kernel) rfl) (BG_ix 1154 (by decide +kernel) rfl) (BG_ix 1155 (by decide +kernel) rfl) (BG_ix 67 (by decide +kernel) rfl), (BG_ix 1156 (by decide +kernel) rfl)⟩
theorem cw_RL_97 : cwVok RL 97 RX9 yX9_sheet cX9_sheet 4 (some .int) 3 := ⟨⟨rfl, by decide, by decide, by decide +kernel⟩, by decide, all4 (BG_ix 683 (by decide +kernel) rfl) (BG_ix 684 (by decide +kernel) rfl) (BG_ix 685 (by decide +kernel) rfl) (BG_ix 60 (by decide +kernel) rfl), (BG_ix 686 (by decide +kernel) rfl)⟩
theorem cw_RL_101 : cwVok RL 101 RX10 yX10_sheet cX10_sheet 5 (some .int) 3 := ⟨⟨rfl, by decide, by decide, by decide +kernel⟩, by decide, all4 (BG_ix 1157 (by decide +kernel) rfl) (BG_ix 1158 (by decide +kernel) rfl) (BG_ix 1159 (by decide +kernel) rfl) (BG_ix 67 (by decide +kernel) rfl), (BG_ix 1160 (by decide +kernel) rfl)⟩
theorem cw_RL_102 : cwVok RL 102 RX9 yX9_lose cX9_lose 2 (some .int) 1 := ⟨⟨rfl, by decide, by decide, by decide +kernel⟩, by decide, all4 (BG_ix 692 (by decide +kernel) rfl) (BG_ix 693 (by decide +kernel) rfl) (BG_ix 694 (by decide +kernel) rfl) (BG_ix 60 (by decide +kernel) rfl), (BG_ix 695 (by decide +kernel) rfl)⟩
theorem cw_RL_105 : cwVok RL 105 RX10 yX10_lose cX10_lose 3 (some .int) 1 := ⟨⟨rfl, by decide, by decide, by decide +kernel⟩, by decide, all4 (BG_ix 1161 (by decide +kernel) rfl) (BG_ix 1162 (by decide +kernel) rfl) (BG_ix 1163 (by decide +kernel) rfl) (BG_ix 67 (by decide +kernel) rfl), (BG_ix 1164 (by decide +kernel) rfl)⟩
theorem cw_RL_106 : cwVok RL 106 RX9 yX9_put cX9_put 5 (some .int) 3 := ⟨⟨rfl, by decide, by decide, by decide +kernel⟩, by decide, all4 (BG_ix 696 (by decide +kernel) rfl) (BG_ix 697 (by decide +kernel) rfl) (BG_ix 698 (by decide +kernel) rfl) (BG_ix 60 (by decide +kernel) rfl), (BG_ix 699 (by decide +kernel) rfl)⟩
theorem cw_RL_109 : cwVok RL 109 RX10 yX10_put cX10_put 4 (some .int) 3 := ⟨⟨rfl, by decide, by decide, by decide +kernel⟩, by decide, all4 (BG_ix 1165 (by decide +kernel) rfl) (BG_ix 1166 (by decide +kernel) rfl) (BG_ix 1167 (by decide +kernel) rfl) (BG_ix 67 (by decide +kernel) rfl), (BG_ix 1168 (by decide +kernel) rfl)⟩
theorem cw_RL_110 : cwVok RL 110 RX9 yX9_cell cX9_cell 5 (some .long) 3 := ⟨⟨rfl, by decide, by decide, by decide +kernel⟩, by decide, all4 (BG_ix 704 (by decide +kernel) rfl) (BG_ix 705 (by decide +kernel) rfl) (BG_ix 706 (by decide +kernel) rfl) (BG_ix 60 (by decide +kernel) rfl), (BG_ix 707 (by decide +kernel) rfl)⟩
theorem cw_RL_114 : cwVok RL 114 RX10 yX10_cell cX10_cell 4 (some .long) 3 := ⟨⟨rfl, by decide, by decide, by decide +kernel⟩, by decide, all4 (BG_ix 1169 (by decide +kernel) rfl) (BG_ix 1170 (by decide +kernel) rfl) (BG_ix 1171 (by decide +kernel) rfl) (BG_ix 67 (by decide +kernel) rfl), (BG_ix 1172 (by decide +kernel) rfl)⟩
theorem cw_RL_115 : cwVok RL 115 RX9 yX9_copy cX9_copy 8 (some .int) 5 := ⟨⟨rfl, by decide, by decide, by decide +kernel⟩, by decide, all4 (BG_ix 712 (by decide +kernel) rfl) (BG_ix 713 (by decide +kernel) rfl) (BG_ix 714 (by decide +kernel) rfl) (BG_ix 60 (by decide +kernel) rfl), (BG_ix 715 (by decide +kernel) rfl)⟩
theorem cw_RL_119 : cwVok RL 119 RX10 yX10_copy cX10_copy 10 (some .int) 5 := ⟨⟨rfl, by decide, by decide, by decide +kernel⟩, by decide, all4 (BG_ix 1177 (by decide +kernel) rfl) (BG_ix 1178 (by decide +kernel) rfl) (BG_ix 1179 (by decide +kernel) rfl) (BG_ix 67 (by decide +kernel) rfl), (BG_ix 1180 (by decide +kernel) rfl)⟩
theorem cw_RL_120 : cwVok RL 120 RX9 yX9_tell cX9_tell 3 (some .int) 1 := ⟨⟨rfl, by decide, by decide, by decide +kernel⟩, by decide, all4 (BG_ix 719 (by decide +kernel) rfl) (BG_ix 720 (by decide +kernel) rfl) (BG_ix 721 (by decide +kernel) rfl) (BG_ix 60 (by decide +kernel) rfl), (BG_ix 722 (by decide +kernel) rfl)⟩
theorem cw_RL_123 : cwVok RL 123 RX10 yX10_tell cX10_tell 3 (some .int) 1 := ⟨⟨rfl, by decide, by decide, by decide +kernel⟩, by decide, all4 (BG_ix 1181 (by decide +kernel) rfl) (BG_ix 1182 (by decide +kernel) rfl) (BG_ix 1183 (by decide +kernel) rfl) (BG_ix 67 (by decide +kernel) rfl), (BG_ix 1184 (by decide +kernel) rfl)⟩
theorem cw_RL_124 : cwVok RL 124 RX9 yX9_serve cX9_serve 3 (some .int) 1 := ⟨⟨rfl, by decide, by decide, by decide +kernel⟩, by decide, all4 (BG_ix 749 (by decide +kernel) rfl) (BG_ix 750 (by decide +kernel) rfl) (BG_ix 751 (by decide +kernel) rfl) (BG_ix 60 (by decide +kernel) rfl), (BG_ix 752 (by decide +kernel) rfl)⟩
theorem cw_RL_127 : cwVok RL 127 RX10 yX10_serve cX10_serve 2 (some .int) 1 := ⟨⟨rfl, by decide, by decide, by decide +kernel⟩, by decide, all4 (BG_ix 1189 (by decide +kernel) rfl) (BG_ix 1190 (by decide +kernel) rfl) (BG_ix 1191 (by decide +kernel) rfl) (BG_ix 67 (by decide +kernel) rfl), (BG_ix 1192 (by decide +kernel) rfl)⟩
theorem cw_RL_128 : cwVok RL 128 RX9 yX9_as cX9_as 5 (some .int) 2 := ⟨⟨rfl, by decide, by decide, by decide +kernel⟩, by decide, all4 (BG_ix 762 (by decide +kernel) rfl) (BG_ix 763 (by decide +kernel) rfl) (BG_ix 764 (by decide +kernel) rfl) (BG_ix 60 (by decide +kernel) rfl), (BG_ix 765 (by decide +kernel) rfl)⟩
theorem cw_RL_131 : cwVok RL 131 RX10 yX10_as cX10_as 3 (some .int) 2 := ⟨⟨rfl, by decide, by decide, by decide +kernel⟩, by decide, all4 (BG_ix 1193 (by decide +kernel) rfl) (BG_ix 1194 (by decide +kernel) rfl) (BG_ix 1195 (by decide +kernel) rfl) (BG_ix 67 (by decide +kernel) rfl), (BG_ix 1196 (by decide +kernel) rfl)⟩
theorem cw_RL_132 : cwVok RL 132 RX9 yX9_trace cX9_trace 1 (some .int) 0 := ⟨⟨rfl, by decide, by decide, by decide +kernel⟩, by decide, all4 (BG_ix 766 (by decide +kernel) rfl) (BG_ix 767 (by decide +kernel) rfl) (BG_ix 768 (by decide +kernel) rfl) (BG_ix 60 (by decide +kernel) rfl), (BG_ix 769 (by decide +kernel) rfl)⟩
theorem cw_RL_135 : cwVok RL 135 RX10 yX10_trace cX10_trace 1 (some .int) 0 := ⟨⟨rfl, by decide, by decide, by decide +kernel⟩, by decide, all4 (BG_ix 1197 (by decide +kernel) rfl) (BG_ix 1198 (by decide +kernel) rfl) (BG_ix 1199 (by decide +kernel) rfl) (BG_ix 67 (by decide +kernel) rfl), (BG_ix 1200 (by decide +kernel) rfl)⟩
theorem cw_RL_136 : cwVok RL 136 RX9 yX9_fault cX9_fault 1 (some .int) 0 := ⟨⟨rfl, by decide, by decide, by decide +kernel⟩, by decide, all4 (BG_ix 770 (by decide +kernel) rfl) (BG_ix 771 (by decide +kernel) rfl) (BG_ix 772 (by decide +kernel) rfl) (BG_ix 60 (by decide +kernel) rfl), (BG_ix 773 (by decide +kernel) rfl)⟩
theorem cw_RL_139 : cwVok RL 139 RX10 yX10_fault cX10_fault 1 (some .int) 0 := ⟨⟨rfl, by decide, by decide, by decide +kernel⟩, by decide, all4 (BG_ix 1201 (by decide +kernel) rfl) (BG_ix 1202 (by decide +kernel) rfl) (BG_ix 1203 (by decide +kernel) rfl) (BG_ix 67 (by decide +kernel) rfl), (BG_ix 1204 (by decide +kernel) rfl)⟩
theorem cw_RL_140 : cwVok RL 140 RX9 yX9_many cX9_many 2 (some .int) 1 := ⟨⟨rfl, by decide, by decide, by decide +kernel⟩, by decide, all4 (BG_ix 774 (by decide +kernel) rfl) (BG_ix 775 (by decide +kernel) rfl) (BG_ix 776 (by decide +kernel) rfl) (BG_ix 60 (by decide +kernel) rfl), (BG_ix 777 (by decide +kernel) rfl)⟩
theorem cw_RL_143 : cwVok RL 143 RX10 yX10_many cX10_many 4 (some .int) 1 := ⟨⟨rfl, by decide, by decide, by decide +kernel⟩, by decide, all4 (BG_ix 1205 (by decide +kernel) rfl) (BG_ix 1206 (by decide +kernel) rfl) (BG_ix 1207 (by decide +kernel) rfl) (BG_ix 67 (by decide +kernel) rfl), (BG_ix 1208 (by decide +kernel) rfl)⟩
set_option maxHeartbeats 4000000 in
set_option maxRecDepth 100000 in
theorem lc_0 {X : Cx} {c : Nat → ClassId} {ad bd : Nat → Nat} {b L kc ks : Nat} {xv : Nat → Int32} {x3 : Int32} {Rel : GG → SS → SS → Prop} {G : GG} {s m : SS} (HS : AllSteps Rel) (hgok : ∀ G s m, Rel G s m → gok G) (hfg : ∀ G s, ∃ s2, CT_forget G s = some s2) (K : Ok X code RL 4 1000 c) (hX : va_X b L xv (xs X) (xs X).heap) (hbl : b < (xs X).heap.size) (hbA : ¬ xA X b) (h1 : vp_in (x3 + (1 : Int32)) L) (h2 : vp_in (x3 + (2 : Int32)) L) (h3 : vp_in (x3 + (3 : Int32)) L) (h4 : vp_in (x3 + (4 : Int32)) L) (h5 : vp_in (x3 + (5 : Int32)) L) (h6 : vp_in (x3 + (6 : Int32)) L) (hk : kc + 1 ≤ (xR X).cells ∧ ks + 6 ≤ (xR X).slots) (hRel : Rel G s m) (NXT : ∀ G s m, Rel G s m → V X 4 (kc + 1) (ks + 6) 1181 [(0, .ref b), (1, .ref (ad 0)), (2, .ref (bd 0)), (3, .int x3)] [] (wC ad c G s ++ wM bd c m)) : V X 4 kc ks 168 [(0, .ref b), (1, .ref (ad 0)), (2, .ref (bd 0)), (3, .int x3)] [] (wC ad c G s ++ wM bd c m) := by
  obtain ⟨r, s1, m1, e1, e2, hR⟩ := HS.1 G s m (xv (x3 + (1 : Int32)).toNatClampNeg) (xv (x3 + (2 : Int32)).toNatClampNeg) (xv (x3 + (3 : Int32)).toNatClampNeg) (xv (x3 + (4 : Int32)).toNatClampNeg) hRel
  refine v_aload_n K 1 rfl dL_law_168 ?_
  refine v_aload_n K 0 rfl dL_law_169 ?_
  refine v_iload_n K 3 rfl dL_law_170 ?_
  refine v_iconst (v := (1 : Int32)) K dL_law_171 (by decide) ?_
  refine v_iadd K dL_law_172 ?_
  refine v_sld K hX hbl hbA h1 dL_law_173 ?_
  refine v_aload_n K 0 rfl dL_law_174 ?_
  refine v_iload_n K 3 rfl dL_law_175 ?_
  refine v_iconst (v := (2 : Int32)) K dL_law_176 (by decide) ?_
  refine v_iadd K dL_law_177 ?_
  refine v_sld K hX hbl hbA h2 dL_law_178 ?_
  refine v_aload_n K 0 rfl dL_law_179 ?_
  refine v_iload_n K 3 rfl dL_law_180 ?_
  refine v_iconst (v := (3 : Int32)) K dL_law_181 (by decide) ?_
  refine v_iadd K dL_law_182 ?_
  refine v_sld K hX hbl hbA h3 dL_law_183 ?_
  refine v_aload_n K 0 rfl dL_law_184 ?_
  refine v_iload_n K 3 rfl dL_law_185 ?_
  refine v_iconst (v := (4 : Int32)) K dL_law_186 (by decide) ?_
  refine v_iadd K dL_law_187 ?_
  refine v_sld K hX hbl hbA h4 dL_law_188 ?_
  refine vLC_i K [.int (xv (x3 + (1 : Int32)).toNatClampNeg), .int (xv (x3 + (2 : Int32)).toNatClampNeg), .int (xv (x3 + (3 : Int32)).toNatClampNeg), .int (xv (x3 + (4 : Int32)).toNatClampNeg)] [] cw_RL_13 (cCT_cafe (hgok _ _ _ hRel) e1) rfl rfl (Nat.le_of_ble_eq_true rfl) (by decide) ⟨Nat.le_trans (Nat.le_succ _) hk.1, Nat.le_trans (Nat.le_add_right _ 6) hk.2⟩ dL_law_189 ?_
  refine v_aload_n K 2 rfl dL_law_192 ?_
  refine v_aload_n K 0 rfl dL_law_193 ?_
  refine v_iload_n K 3 rfl dL_law_194 ?_
  refine v_iconst (v := (1 : Int32)) K dL_law_195 (by decide) ?_
  refine v_iadd K dL_law_196 ?_
  refine v_sld K hX hbl hbA h1 dL_law_197 ?_
  refine v_aload_n K 0 rfl dL_law_198 ?_
  refine v_iload_n K 3 rfl dL_law_199 ?_
  refine v_iconst (v := (2 : Int32)) K dL_law_200 (by decide) ?_
  refine v_iadd K dL_law_201 ?_
  refine v_sld K hX hbl hbA h2 dL_law_202 ?_
  refine v_aload_n K 0 rfl dL_law_203 ?_
  refine v_iload_n K 3 rfl dL_law_204 ?_
  refine v_iconst (v := (3 : Int32)) K dL_law_205 (by decide) ?_
  refine v_iadd K dL_law_206 ?_
  refine v_sld K hX hbl hbA h3 dL_law_207 ?_
  refine v_aload_n K 0 rfl dL_law_208 ?_
  refine v_iload_n K 3 rfl dL_law_209 ?_
  refine v_iconst (v := (4 : Int32)) K dL_law_210 (by decide) ?_
  refine v_iadd K dL_law_211 ?_
  refine v_sld K hX hbl hbA h4 dL_law_212 ?_
  refine vLM_i K [.int (xv (x3 + (1 : Int32)).toNatClampNeg), .int (xv (x3 + (2 : Int32)).toNatClampNeg), .int (xv (x3 + (3 : Int32)).toNatClampNeg), .int (xv (x3 + (4 : Int32)).toNatClampNeg)] [.int r] cw_RL_17 (cM_cafe e2) rfl rfl (Nat.le_of_ble_eq_true rfl) (by decide) ⟨Nat.le_trans (Nat.le_succ _) hk.1, Nat.le_trans (Nat.le_add_right _ 6) hk.2⟩ dL_law_213 ?_
  refine v_icmp_eq K 1181 dL_law_216 (by decide) (fun _ => ?_) (fun q => absurd rfl q)
  refine v_widen (Nat.le_succ _) (Nat.le_add_right _ 6) ?_
  exact NXT _ _ _ hR
set_option maxHeartbeats 4000000 in
set_option maxRecDepth 100000 in
theorem lc_1 {X : Cx} {c : Nat → ClassId} {ad bd : Nat → Nat} {b L kc ks : Nat} {xv : Nat → Int32} {x3 : Int32} {Rel : GG → SS → SS → Prop} {G : GG} {s m : SS} (HS : AllSteps Rel) (hgok : ∀ G s m, Rel G s m → gok G) (hfg : ∀ G s, ∃ s2, CT_forget G s = some s2) (K : Ok X code RL 4 1000 c) (hX : va_X b L xv (xs X) (xs X).heap) (hbl : b < (xs X).heap.size) (hbA : ¬ xA X b) (h1 : vp_in (x3 + (1 : Int32)) L) (h2 : vp_in (x3 + (2 : Int32)) L) (h3 : vp_in (x3 + (3 : Int32)) L) (h4 : vp_in (x3 + (4 : Int32)) L) (h5 : vp_in (x3 + (5 : Int32)) L) (h6 : vp_in (x3 + (6 : Int32)) L) (hk : kc + 1 ≤ (xR X).cells ∧ ks + 6 ≤ (xR X).slots) (hRel : Rel G s m) (NXT : ∀ G s m, Rel G s m → V X 4 (kc + 1) (ks + 6) 1181 [(0, .ref b), (1, .ref (ad 0)), (2, .ref (bd 0)), (3, .int x3)] [] (wC ad c G s ++ wM bd c m)) : V X 4 kc ks 221 [(0, .ref b), (1, .ref (ad 0)), (2, .ref (bd 0)), (3, .int x3)] [] (wC ad c G s ++ wM bd c m) := by
  obtain ⟨r, s1, m1, e1, e2, hR⟩ := HS.2.1 G s m (xv (x3 + (1 : Int32)).toNatClampNeg) (xv (x3 + (2 : Int32)).toNatClampNeg) hRel
  refine v_aload_n K 1 rfl dL_law_221 ?_
  refine v_aload_n K 0 rfl dL_law_222 ?_
  refine v_iload_n K 3 rfl dL_law_223 ?_
  refine v_iconst (v := (1 : Int32)) K dL_law_224 (by decide) ?_
  refine v_iadd K dL_law_225 ?_
  refine v_sld K hX hbl hbA h1 dL_law_226 ?_
  refine v_aload_n K 0 rfl dL_law_227 ?_
  refine v_iload_n K 3 rfl dL_law_228 ?_
  refine v_iconst (v := (2 : Int32)) K dL_law_229 (by decide) ?_
  refine v_iadd K dL_law_230 ?_
  refine v_sld K hX hbl hbA h2 dL_law_231 ?_
  refine vLC_i K [.int (xv (x3 + (1 : Int32)).toNatClampNeg), .int (xv (x3 + (2 : Int32)).toNatClampNeg)] [] cw_RL_18 (cCT_ofTable (hgok _ _ _ hRel) e1) rfl rfl (Nat.le_of_ble_eq_true rfl) (by decide) ⟨Nat.le_trans (Nat.le_succ _) hk.1, Nat.le_trans (Nat.le_add_right _ 6) hk.2⟩ dL_law_232 ?_
  refine v_aload_n K 2 rfl dL_law_235 ?_
  refine v_aload_n K 0 rfl dL_law_236 ?_
  refine v_iload_n K 3 rfl dL_law_237 ?_
  refine v_iconst (v := (1 : Int32)) K dL_law_238 (by decide) ?_
  refine v_iadd K dL_law_239 ?_
  refine v_sld K hX hbl hbA h1 dL_law_240 ?_
  refine v_aload_n K 0 rfl dL_law_241 ?_
  refine v_iload_n K 3 rfl dL_law_242 ?_
  refine v_iconst (v := (2 : Int32)) K dL_law_243 (by decide) ?_
  refine v_iadd K dL_law_244 ?_
  refine v_sld K hX hbl hbA h2 dL_law_245 ?_
  refine vLM_i K [.int (xv (x3 + (1 : Int32)).toNatClampNeg), .int (xv (x3 + (2 : Int32)).toNatClampNeg)] [.int r] cw_RL_22 (cM_ofTable e2) rfl rfl (Nat.le_of_ble_eq_true rfl) (by decide) ⟨Nat.le_trans (Nat.le_succ _) hk.1, Nat.le_trans (Nat.le_add_right _ 6) hk.2⟩ dL_law_246 ?_
  refine v_icmp_eq K 1181 dL_law_249 (by decide) (fun _ => ?_) (fun q => absurd rfl q)
  refine v_widen (Nat.le_succ _) (Nat.le_add_right _ 6) ?_
  exact NXT _ _ _ hR
set_option maxHeartbeats 4000000 in
set_option maxRecDepth 100000 in
theorem lc_2 {X : Cx} {c : Nat → ClassId} {ad bd : Nat → Nat} {b L kc ks : Nat} {xv : Nat → Int32} {x3 : Int32} {Rel : GG → SS → SS → Prop} {G : GG} {s m : SS} (HS : AllSteps Rel) (hgok : ∀ G s m, Rel G s m → gok G) (hfg : ∀ G s, ∃ s2, CT_forget G s = some s2) (K : Ok X code RL 4 1000 c) (hX : va_X b L xv (xs X) (xs X).heap) (hbl : b < (xs X).heap.size) (hbA : ¬ xA X b) (h1 : vp_in (x3 + (1 : Int32)) L) (h2 : vp_in (x3 + (2 : Int32)) L) (h3 : vp_in (x3 + (3 : Int32)) L) (h4 : vp_in (x3 + (4 : Int32)) L) (h5 : vp_in (x3 + (5 : Int32)) L) (h6 : vp_in (x3 + (6 : Int32)) L) (hk : kc + 1 ≤ (xR X).cells ∧ ks + 6 ≤ (xR X).slots) (hRel : Rel G s m) (NXT : ∀ G s m, Rel G s m → V X 4 (kc + 1) (ks + 6) 1181 [(0, .ref b), (1, .ref (ad 0)), (2, .ref (bd 0)), (3, .int x3)] [] (wC ad c G s ++ wM bd c m)) : V X 4 kc ks 254 [(0, .ref b), (1, .ref (ad 0)), (2, .ref (bd 0)), (3, .int x3)] [] (wC ad c G s ++ wM bd c m) := by
  obtain ⟨r, s1, m1, e1, e2, hR⟩ := HS.2.2.1 G s m (xv (x3 + (1 : Int32)).toNatClampNeg) hRel
  refine v_aload_n K 1 rfl dL_law_254 ?_
  refine v_aload_n K 0 rfl dL_law_255 ?_
  refine v_iload_n K 3 rfl dL_law_256 ?_
  refine v_iconst (v := (1 : Int32)) K dL_law_257 (by decide) ?_
  refine v_iadd K dL_law_258 ?_
  refine v_sld K hX hbl hbA h1 dL_law_259 ?_
  refine vLC_i K [.int (xv (x3 + (1 : Int32)).toNatClampNeg)] [] cw_RL_23 (cCT_rule (hgok _ _ _ hRel) e1) rfl rfl (Nat.le_of_ble_eq_true rfl) (by decide) ⟨Nat.le_trans (Nat.le_succ _) hk.1, Nat.le_trans (Nat.le_add_right _ 6) hk.2⟩ dL_law_260 ?_
  refine v_aload_n K 2 rfl dL_law_263 ?_
  refine v_aload_n K 0 rfl dL_law_264 ?_
  refine v_iload_n K 3 rfl dL_law_265 ?_
  refine v_iconst (v := (1 : Int32)) K dL_law_266 (by decide) ?_
  refine v_iadd K dL_law_267 ?_
  refine v_sld K hX hbl hbA h1 dL_law_268 ?_
  refine vLM_i K [.int (xv (x3 + (1 : Int32)).toNatClampNeg)] [.int r] cw_RL_27 (cM_rule e2) rfl rfl (Nat.le_of_ble_eq_true rfl) (by decide) ⟨Nat.le_trans (Nat.le_succ _) hk.1, Nat.le_trans (Nat.le_add_right _ 6) hk.2⟩ dL_law_269 ?_
  refine v_icmp_eq K 1181 dL_law_272 (by decide) (fun _ => ?_) (fun q => absurd rfl q)
  refine v_widen (Nat.le_succ _) (Nat.le_add_right _ 6) ?_
  exact NXT _ _ _ hR
set_option maxHeartbeats 4000000 in
set_option maxRecDepth 100000 in
theorem lc_3 {X : Cx} {c : Nat → ClassId} {ad bd : Nat → Nat} {b L kc ks : Nat} {xv : Nat → Int32} {x3 : Int32} {Rel : GG → SS → SS → Prop} {G : GG} {s m : SS} (HS : AllSteps Rel) (hgok : ∀ G s m, Rel G s m → gok G) (hfg : ∀ G s, ∃ s2, CT_forget G s = some s2) (K : Ok X code RL 4 1000 c) (hX : va_X b L xv (xs X) (xs X).heap) (hbl : b < (xs X).heap.size) (hbA : ¬ xA X b) (h1 : vp_in (x3 + (1 : Int32)) L) (h2 : vp_in (x3 + (2 : Int32)) L) (h3 : vp_in (x3 + (3 : Int32)) L) (h4 : vp_in (x3 + (4 : Int32)) L) (h5 : vp_in (x3 + (5 : Int32)) L) (h6 : vp_in (x3 + (6 : Int32)) L) (hk : kc + 1 ≤ (xR X).cells ∧ ks + 6 ≤ (xR X).slots) (hRel : Rel G s m) (NXT : ∀ G s m, Rel G s m → V X 4 (kc + 1) (ks + 6) 1181 [(0, .ref b), (1, .ref (ad 0)), (2, .ref (bd 0)), (3, .int x3)] [] (wC ad c G s ++ wM bd c m)) : V X 4 kc ks 277 [(0, .ref b), (1, .ref (ad 0)), (2, .ref (bd 0)), (3, .int x3)] [] (wC ad c G s ++ wM bd c m) := by
  obtain ⟨r, s1, m1, e1, e2, hR⟩ := HS.2.2.2.1 G s m (xv (x3 + (1 : Int32)).toNatClampNeg) hRel
  refine v_aload_n K 1 rfl dL_law_277 ?_
  refine v_aload_n K 0 rfl dL_law_278 ?_
  refine v_iload_n K 3 rfl dL_law_279 ?_
  refine v_iconst (v := (1 : Int32)) K dL_law_280 (by decide) ?_
  refine v_iadd K dL_law_281 ?_
  refine v_sld K hX hbl hbA h1 dL_law_282 ?_
  refine vLC_i K [.int (xv (x3 + (1 : Int32)).toNatClampNeg)] [] cw_RL_28 (cCT_patience (hgok _ _ _ hRel) e1) rfl rfl (Nat.le_of_ble_eq_true rfl) (by decide) ⟨Nat.le_trans (Nat.le_succ _) hk.1, Nat.le_trans (Nat.le_add_right _ 6) hk.2⟩ dL_law_283 ?_
  refine v_aload_n K 2 rfl dL_law_286 ?_
  refine v_aload_n K 0 rfl dL_law_287 ?_
  refine v_iload_n K 3 rfl dL_law_288 ?_
  refine v_iconst (v := (1 : Int32)) K dL_law_289 (by decide) ?_
  refine v_iadd K dL_law_290 ?_
  refine v_sld K hX hbl hbA h1 dL_law_291 ?_
  refine vLM_i K [.int (xv (x3 + (1 : Int32)).toNatClampNeg)] [.int r] cw_RL_31 (cM_patience e2) rfl rfl (Nat.le_of_ble_eq_true rfl) (by decide) ⟨Nat.le_trans (Nat.le_succ _) hk.1, Nat.le_trans (Nat.le_add_right _ 6) hk.2⟩ dL_law_292 ?_
  refine v_icmp_eq K 1181 dL_law_295 (by decide) (fun _ => ?_) (fun q => absurd rfl q)
  refine v_widen (Nat.le_succ _) (Nat.le_add_right _ 6) ?_
  exact NXT _ _ _ hR
set_option maxHeartbeats 4000000 in
set_option maxRecDepth 100000 in
theorem lc_4 {X : Cx} {c : Nat → ClassId} {ad bd : Nat → Nat} {b L kc ks : Nat} {xv : Nat → Int32} {x3 : Int32} {Rel : GG → SS → SS → Prop} {G : GG} {s m : SS} (HS : AllSteps Rel) (hgok : ∀ G s m, Rel G s m → gok G) (hfg : ∀ G s, ∃ s2, CT_forget G s = some s2) (K : Ok X code RL 4 1000 c) (hX : va_X b L xv (xs X) (xs X).heap) (hbl : b < (xs X).heap.size) (hbA : ¬ xA X b) (h1 : vp_in (x3 + (1 : Int32)) L) (h2 : vp_in (x3 + (2 : Int32)) L) (h3 : vp_in (x3 + (3 : Int32)) L) (h4 : vp_in (x3 + (4 : Int32)) L) (h5 : vp_in (x3 + (5 : Int32)) L) (h6 : vp_in (x3 + (6 : Int32)) L) (hk : kc + 1 ≤ (xR X).cells ∧ ks + 6 ≤ (xR X).slots) (hRel : Rel G s m) (NXT : ∀ G s m, Rel G s m → V X 4 (kc + 1) (ks + 6) 1181 [(0, .ref b), (1, .ref (ad 0)), (2, .ref (bd 0)), (3, .int x3)] [] (wC ad c G s ++ wM bd c m)) : V X 4 kc ks 300 [(0, .ref b), (1, .ref (ad 0)), (2, .ref (bd 0)), (3, .int x3)] [] (wC ad c G s ++ wM bd c m) := by
  refine v_aload_n K 1 rfl dL_law_300 ?_
  refine v_aload_n K 0 rfl dL_law_301 ?_
  refine v_iload_n K 3 rfl dL_law_302 ?_
  refine v_iconst (v := (1 : Int32)) K dL_law_303 (by decide) ?_
  refine v_iadd K dL_law_304 ?_
  refine v_sld K hX hbl hbA h1 dL_law_305 ?_
  refine v_if_eq K 313 dL_law_306 (by decide) (fun q => ?_) (fun q => ?_)
  · obtain ⟨r, s1, m1, e1, e2, hR⟩ := HS.2.2.2.2.1 G s m 0 (Or.inl rfl) hRel
    refine v_iconst (v := (0 : Int32)) K dL_law_313 (by decide) ?_
    refine vLC_i K [.int (0 : Int32)] [] cw_RL_32 (cCT_joining (hgok _ _ _ hRel) e1) rfl rfl (Nat.le_of_ble_eq_true rfl) (by decide) ⟨Nat.le_trans (Nat.le_succ _) hk.1, Nat.le_trans (Nat.le_add_right _ 6) hk.2⟩ dL_law_314 ?_
    refine v_aload_n K 2 rfl dL_law_317 ?_
    refine v_aload_n K 0 rfl dL_law_318 ?_
    refine v_iload_n K 3 rfl dL_law_319 ?_
    refine v_iconst (v := (1 : Int32)) K dL_law_320 (by decide) ?_
    refine v_iadd K dL_law_321 ?_
    refine v_sld K hX hbl hbA h1 dL_law_322 ?_
    refine v_if_eq K 330 dL_law_323 (by decide) (fun _ => ?_) (fun q2 => absurd q q2)
    refine v_iconst (v := (0 : Int32)) K dL_law_330 (by decide) ?_
    refine vLM_i K [.int (0 : Int32)] [.int r] cw_RL_36 (cM_joining e2) rfl rfl (Nat.le_of_ble_eq_true rfl) (by decide) ⟨Nat.le_trans (Nat.le_succ _) hk.1, Nat.le_trans (Nat.le_add_right _ 6) hk.2⟩ dL_law_331 ?_
    refine v_icmp_eq K 1181 dL_law_334 (by decide) (fun _ => ?_) (fun q => absurd rfl q)
    refine v_widen (Nat.le_succ _) (Nat.le_add_right _ 6) ?_
    exact NXT _ _ _ hR
  · obtain ⟨r, s1, m1, e1, e2, hR⟩ := HS.2.2.2.2.1 G s m 1 (Or.inr rfl) hRel
    refine v_iconst (v := (1 : Int32)) K dL_law_309 (by decide) ?_
    refine v_goto K 314 dL_law_310 (by decide) ?_
    refine vLC_i K [.int (1 : Int32)] [] cw_RL_32 (cCT_joining (hgok _ _ _ hRel) e1) rfl rfl (Nat.le_of_ble_eq_true rfl) (by decide) ⟨Nat.le_trans (Nat.le_succ _) hk.1, Nat.le_trans (Nat.le_add_right _ 6) hk.2⟩ dL_law_314 ?_
    refine v_aload_n K 2 rfl dL_law_317 ?_
    refine v_aload_n K 0 rfl dL_law_318 ?_
    refine v_iload_n K 3 rfl dL_law_319 ?_
    refine v_iconst (v := (1 : Int32)) K dL_law_320 (by decide) ?_
    refine v_iadd K dL_law_321 ?_
    refine v_sld K hX hbl hbA h1 dL_law_322 ?_
    refine v_if_eq K 330 dL_law_323 (by decide) (fun q2 => absurd q2 q) (fun _ => ?_)
    refine v_iconst (v := (1 : Int32)) K dL_law_326 (by decide) ?_
    refine v_goto K 331 dL_law_327 (by decide) ?_
    refine vLM_i K [.int (1 : Int32)] [.int r] cw_RL_36 (cM_joining e2) rfl rfl (Nat.le_of_ble_eq_true rfl) (by decide) ⟨Nat.le_trans (Nat.le_succ _) hk.1, Nat.le_trans (Nat.le_add_right _ 6) hk.2⟩ dL_law_331 ?_
    refine v_icmp_eq K 1181 dL_law_334 (by decide) (fun _ => ?_) (fun q => absurd rfl q)
    refine v_widen (Nat.le_succ _) (Nat.le_add_right _ 6) ?_
    exact NXT _ _ _ hR
set_option maxHeartbeats 4000000 in
set_option maxRecDepth 100000 in
theorem lc_5 {X : Cx} {c : Nat → ClassId} {ad bd : Nat → Nat} {b L kc ks : Nat} {xv : Nat → Int32} {x3 : Int32} {Rel : GG → SS → SS → Prop} {G : GG} {s m : SS} (HS : AllSteps Rel) (hgok : ∀ G s m, Rel G s m → gok G) (hfg : ∀ G s, ∃ s2, CT_forget G s = some s2) (K : Ok X code RL 4 1000 c) (hX : va_X b L xv (xs X) (xs X).heap) (hbl : b < (xs X).heap.size) (hbA : ¬ xA X b) (h1 : vp_in (x3 + (1 : Int32)) L) (h2 : vp_in (x3 + (2 : Int32)) L) (h3 : vp_in (x3 + (3 : Int32)) L) (h4 : vp_in (x3 + (4 : Int32)) L) (h5 : vp_in (x3 + (5 : Int32)) L) (h6 : vp_in (x3 + (6 : Int32)) L) (hk : kc + 1 ≤ (xR X).cells ∧ ks + 6 ≤ (xR X).slots) (hRel : Rel G s m) (NXT : ∀ G s m, Rel G s m → V X 4 (kc + 1) (ks + 6) 1181 [(0, .ref b), (1, .ref (ad 0)), (2, .ref (bd 0)), (3, .int x3)] [] (wC ad c G s ++ wM bd c m)) : V X 4 kc ks 339 [(0, .ref b), (1, .ref (ad 0)), (2, .ref (bd 0)), (3, .int x3)] [] (wC ad c G s ++ wM bd c m) := by
  obtain ⟨r, s1, m1, e1, e2, hR⟩ := HS.2.2.2.2.2.1 G s m (xv (x3 + (1 : Int32)).toNatClampNeg) hRel
  refine v_aload_n K 1 rfl dL_law_339 ?_
  refine v_aload_n K 0 rfl dL_law_340 ?_
  refine v_iload_n K 3 rfl dL_law_341 ?_
  refine v_iconst (v := (1 : Int32)) K dL_law_342 (by decide) ?_
  refine v_iadd K dL_law_343 ?_
  refine v_sld K hX hbl hbA h1 dL_law_344 ?_
  refine vLC_i K [.int (xv (x3 + (1 : Int32)).toNatClampNeg)] [] cw_RL_37 (cCT_rain (hgok _ _ _ hRel) e1) rfl rfl (Nat.le_of_ble_eq_true rfl) (by decide) ⟨Nat.le_trans (Nat.le_succ _) hk.1, Nat.le_trans (Nat.le_add_right _ 6) hk.2⟩ dL_law_345 ?_
  refine v_aload_n K 2 rfl dL_law_348 ?_
  refine v_aload_n K 0 rfl dL_law_349 ?_
  refine v_iload_n K 3 rfl dL_law_350 ?_
  refine v_iconst (v := (1 : Int32)) K dL_law_351 (by decide) ?_
  refine v_iadd K dL_law_352 ?_
  refine v_sld K hX hbl hbA h1 dL_law_353 ?_
  refine vLM_i K [.int (xv (x3 + (1 : Int32)).toNatClampNeg)] [.int r] cw_RL_40 (cM_rain e2) rfl rfl (Nat.le_of_ble_eq_true rfl) (by decide) ⟨Nat.le_trans (Nat.le_succ _) hk.1, Nat.le_trans (Nat.le_add_right _ 6) hk.2⟩ dL_law_354 ?_
  refine v_icmp_eq K 1181 dL_law_357 (by decide) (fun _ => ?_) (fun q => absurd rfl q)
  refine v_widen (Nat.le_succ _) (Nat.le_add_right _ 6) ?_
  exact NXT _ _ _ hR
set_option maxHeartbeats 4000000 in
set_option maxRecDepth 100000 in
theorem lc_6 {X : Cx} {c : Nat → ClassId} {ad bd : Nat → Nat} {b L kc ks : Nat} {xv : Nat → Int32} {x3 : Int32} {Rel : GG → SS → SS → Prop} {G : GG} {s m : SS} (HS : AllSteps Rel) (hgok : ∀ G s m, Rel G s m → gok G) (hfg : ∀ G s, ∃ s2, CT_forget G s = some s2) (K : Ok X code RL 4 1000 c) (hX : va_X b L xv (xs X) (xs X).heap) (hbl : b < (xs X).heap.size) (hbA : ¬ xA X b) (h1 : vp_in (x3 + (1 : Int32)) L) (h2 : vp_in (x3 + (2 : Int32)) L) (h3 : vp_in (x3 + (3 : Int32)) L) (h4 : vp_in (x3 + (4 : Int32)) L) (h5 : vp_in (x3 + (5 : Int32)) L) (h6 : vp_in (x3 + (6 : Int32)) L) (hk : kc + 1 ≤ (xR X).cells ∧ ks + 6 ≤ (xR X).slots) (hRel : Rel G s m) (NXT : ∀ G s m, Rel G s m → V X 4 (kc + 1) (ks + 6) 1181 [(0, .ref b), (1, .ref (ad 0)), (2, .ref (bd 0)), (3, .int x3)] [] (wC ad c G s ++ wM bd c m)) : V X 4 kc ks 362 [(0, .ref b), (1, .ref (ad 0)), (2, .ref (bd 0)), (3, .int x3)] [] (wC ad c G s ++ wM bd c m) := by
  obtain ⟨R, r, m1, e1, e2, hR⟩ := HS.2.2.2.2.2.2.1 G s m (xv (x3 + (1 : Int32)).toNatClampNeg) (xv (x3 + (2 : Int32)).toNatClampNeg) (xv (x3 + (3 : Int32)).toNatClampNeg) (xv (x3 + (4 : Int32)).toNatClampNeg) (xv (x3 + (5 : Int32)).toNatClampNeg) (xv (x3 + (6 : Int32)).toNatClampNeg) hRel
  refine v_aload_n K 1 rfl dL_law_362 ?_
  refine v_aload_n K 0 rfl dL_law_363 ?_
  refine v_iload_n K 3 rfl dL_law_364 ?_
  refine v_iconst (v := (1 : Int32)) K dL_law_365 (by decide) ?_
  refine v_iadd K dL_law_366 ?_
  refine v_sld K hX hbl hbA h1 dL_law_367 ?_
  refine v_aload_n K 0 rfl dL_law_368 ?_
  refine v_iload_n K 3 rfl dL_law_369 ?_
  refine v_iconst (v := (2 : Int32)) K dL_law_370 (by decide) ?_
  refine v_iadd K dL_law_371 ?_
  refine v_sld K hX hbl hbA h2 dL_law_372 ?_
  refine v_aload_n K 0 rfl dL_law_373 ?_
  refine v_iload_n K 3 rfl dL_law_374 ?_
  refine v_iconst (v := (3 : Int32)) K dL_law_375 (by decide) ?_
  refine v_iadd K dL_law_376 ?_
  refine v_sld K hX hbl hbA h3 dL_law_377 ?_
  refine v_aload_n K 0 rfl dL_law_378 ?_
  refine v_iload_n K 3 rfl dL_law_379 ?_
  refine v_iconst (v := (4 : Int32)) K dL_law_380 (by decide) ?_
  refine v_iadd K dL_law_381 ?_
  refine v_sld K hX hbl hbA h4 dL_law_382 ?_
  refine v_aload_n K 0 rfl dL_law_383 ?_
  refine v_iload_n K 3 rfl dL_law_384 ?_
  refine v_iconst (v := (5 : Int32)) K dL_law_385 (by decide) ?_
  refine v_iadd K dL_law_386 ?_
  refine v_sld K hX hbl hbA h5 dL_law_387 ?_
  refine v_aload_n K 0 rfl dL_law_388 ?_
  refine v_iload_n K 3 rfl dL_law_389 ?_
  refine v_bipush (v := (6 : Int32)) K dL_law_390 (by decide) ?_
  refine v_iadd K dL_law_392 ?_
  refine v_sld K hX hbl hbA h6 dL_law_393 ?_
  refine vLG K [.int (xv (x3 + (1 : Int32)).toNatClampNeg), .int (xv (x3 + (2 : Int32)).toNatClampNeg), .int (xv (x3 + (3 : Int32)).toNatClampNeg), .int (xv (x3 + (4 : Int32)).toNatClampNeg), .int (xv (x3 + (5 : Int32)).toNatClampNeg), .int (xv (x3 + (6 : Int32)).toNatClampNeg)] [] cw_RL_41 (cCT_group (hgok _ _ _ hRel) hfg (fun k n s1 e => ?_) e1) rfl rfl (Nat.le_of_ble_eq_true rfl) (by decide) hk dL_law_394 (fun r2 u hu => ?_)
  · rcases hR with ⟨s2, e3, -⟩ | ⟨k2, s3, e3, hb, -⟩
    · rw [e3] at e; cases e
    · rw [e3] at e; cases e; exact hb
  · obtain ⟨G2, s2, rfl, rfl, hR2⟩ : ∃ G2 s2, r2 = r ∧ u = wC ad c G2 s2 ∧ Rel G2 s2 m1 := by
      rcases hu with ⟨s4, e4, e5⟩ | ⟨k4, s4, s5, q, e4, hq, e5, e6⟩
      · rcases hR with ⟨s2, e3, h3⟩ | ⟨k2, s3, e3, hb, -⟩
        · rw [e3] at e4; cases e4; exact ⟨G, _, rfl, e5, h3⟩
        · rw [e3] at e4; cases e4
      · rcases hR with ⟨s2, e3, h3⟩ | ⟨k2, s3, e3, hb, h3⟩
        · rw [e3] at e4; cases e4
        · rw [e3] at e4; cases e4; exact ⟨_, s5, rfl, e6, h3 q s5 hq e5⟩
    refine v_aload_n K 2 rfl dL_law_397 ?_
    refine v_aload_n K 0 rfl dL_law_398 ?_
    refine v_iload_n K 3 rfl dL_law_399 ?_
    refine v_iconst (v := (1 : Int32)) K dL_law_400 (by decide) ?_
    refine v_iadd K dL_law_401 ?_
    refine v_sld K hX hbl hbA h1 dL_law_402 ?_
    refine v_aload_n K 0 rfl dL_law_403 ?_
    refine v_iload_n K 3 rfl dL_law_404 ?_
    refine v_iconst (v := (2 : Int32)) K dL_law_405 (by decide) ?_
    refine v_iadd K dL_law_406 ?_
    refine v_sld K hX hbl hbA h2 dL_law_407 ?_
    refine v_aload_n K 0 rfl dL_law_408 ?_
    refine v_iload_n K 3 rfl dL_law_409 ?_
    refine v_iconst (v := (3 : Int32)) K dL_law_410 (by decide) ?_
    refine v_iadd K dL_law_411 ?_
    refine v_sld K hX hbl hbA h3 dL_law_412 ?_
    refine v_aload_n K 0 rfl dL_law_413 ?_
    refine v_iload_n K 3 rfl dL_law_414 ?_
    refine v_iconst (v := (4 : Int32)) K dL_law_415 (by decide) ?_
    refine v_iadd K dL_law_416 ?_
    refine v_sld K hX hbl hbA h4 dL_law_417 ?_
    refine v_aload_n K 0 rfl dL_law_418 ?_
    refine v_iload_n K 3 rfl dL_law_419 ?_
    refine v_iconst (v := (5 : Int32)) K dL_law_420 (by decide) ?_
    refine v_iadd K dL_law_421 ?_
    refine v_sld K hX hbl hbA h5 dL_law_422 ?_
    refine v_aload_n K 0 rfl dL_law_423 ?_
    refine v_iload_n K 3 rfl dL_law_424 ?_
    refine v_bipush (v := (6 : Int32)) K dL_law_425 (by decide) ?_
    refine v_iadd K dL_law_427 ?_
    refine v_sld K hX hbl hbA h6 dL_law_428 ?_
    refine vLM_i K [.int (xv (x3 + (1 : Int32)).toNatClampNeg), .int (xv (x3 + (2 : Int32)).toNatClampNeg), .int (xv (x3 + (3 : Int32)).toNatClampNeg), .int (xv (x3 + (4 : Int32)).toNatClampNeg), .int (xv (x3 + (5 : Int32)).toNatClampNeg), .int (xv (x3 + (6 : Int32)).toNatClampNeg)] [.int r2] cw_RL_45 (cM_group e2) rfl rfl (Nat.le_of_ble_eq_true rfl) (by decide) hk dL_law_429 ?_
    refine v_icmp_eq K 1181 dL_law_432 (by decide) (fun _ => ?_) (fun q => absurd rfl q)
    exact NXT _ _ _ hR2
set_option maxHeartbeats 4000000 in
set_option maxRecDepth 100000 in
theorem lc_7 {X : Cx} {c : Nat → ClassId} {ad bd : Nat → Nat} {b L kc ks : Nat} {xv : Nat → Int32} {x3 : Int32} {Rel : GG → SS → SS → Prop} {G : GG} {s m : SS} (HS : AllSteps Rel) (hgok : ∀ G s m, Rel G s m → gok G) (hfg : ∀ G s, ∃ s2, CT_forget G s = some s2) (K : Ok X code RL 4 1000 c) (hX : va_X b L xv (xs X) (xs X).heap) (hbl : b < (xs X).heap.size) (hbA : ¬ xA X b) (h1 : vp_in (x3 + (1 : Int32)) L) (h2 : vp_in (x3 + (2 : Int32)) L) (h3 : vp_in (x3 + (3 : Int32)) L) (h4 : vp_in (x3 + (4 : Int32)) L) (h5 : vp_in (x3 + (5 : Int32)) L) (h6 : vp_in (x3 + (6 : Int32)) L) (hk : kc + 1 ≤ (xR X).cells ∧ ks + 6 ≤ (xR X).slots) (hRel : Rel G s m) (NXT : ∀ G s m, Rel G s m → V X 4 (kc + 1) (ks + 6) 1181 [(0, .ref b), (1, .ref (ad 0)), (2, .ref (bd 0)), (3, .int x3)] [] (wC ad c G s ++ wM bd c m)) : V X 4 kc ks 437 [(0, .ref b), (1, .ref (ad 0)), (2, .ref (bd 0)), (3, .int x3)] [] (wC ad c G s ++ wM bd c m) := by
  obtain ⟨r, s1, m1, e1, e2, hR⟩ := HS.2.2.2.2.2.2.2.1 G s m (xv (x3 + (1 : Int32)).toNatClampNeg) (xv (x3 + (2 : Int32)).toNatClampNeg) hRel
  refine v_aload_n K 1 rfl dL_law_437 ?_
  refine v_aload_n K 0 rfl dL_law_438 ?_
  refine v_iload_n K 3 rfl dL_law_439 ?_
  refine v_iconst (v := (1 : Int32)) K dL_law_440 (by decide) ?_
  refine v_iadd K dL_law_441 ?_
  refine v_sld K hX hbl hbA h1 dL_law_442 ?_
  refine v_aload_n K 0 rfl dL_law_443 ?_
  refine v_iload_n K 3 rfl dL_law_444 ?_
  refine v_iconst (v := (2 : Int32)) K dL_law_445 (by decide) ?_
  refine v_iadd K dL_law_446 ?_
  refine v_sld K hX hbl hbA h2 dL_law_447 ?_
  refine vLC_i K [.int (xv (x3 + (1 : Int32)).toNatClampNeg), .int (xv (x3 + (2 : Int32)).toNatClampNeg)] [] cw_RL_46 (cCT_ofGroup (hgok _ _ _ hRel) e1) rfl rfl (Nat.le_of_ble_eq_true rfl) (by decide) ⟨Nat.le_trans (Nat.le_succ _) hk.1, Nat.le_trans (Nat.le_add_right _ 6) hk.2⟩ dL_law_448 ?_
  refine v_aload_n K 2 rfl dL_law_451 ?_
  refine v_aload_n K 0 rfl dL_law_452 ?_
  refine v_iload_n K 3 rfl dL_law_453 ?_
  refine v_iconst (v := (1 : Int32)) K dL_law_454 (by decide) ?_
  refine v_iadd K dL_law_455 ?_
  refine v_sld K hX hbl hbA h1 dL_law_456 ?_
  refine v_aload_n K 0 rfl dL_law_457 ?_
  refine v_iload_n K 3 rfl dL_law_458 ?_
  refine v_iconst (v := (2 : Int32)) K dL_law_459 (by decide) ?_
  refine v_iadd K dL_law_460 ?_
  refine v_sld K hX hbl hbA h2 dL_law_461 ?_
  refine vLM_i K [.int (xv (x3 + (1 : Int32)).toNatClampNeg), .int (xv (x3 + (2 : Int32)).toNatClampNeg)] [.int r] cw_RL_49 (cM_ofGroup e2) rfl rfl (Nat.le_of_ble_eq_true rfl) (by decide) ⟨Nat.le_trans (Nat.le_succ _) hk.1, Nat.le_trans (Nat.le_add_right _ 6) hk.2⟩ dL_law_462 ?_
  refine v_icmp_eq K 1181 dL_law_465 (by decide) (fun _ => ?_) (fun q => absurd rfl q)
  refine v_widen (Nat.le_succ _) (Nat.le_add_right _ 6) ?_
  exact NXT _ _ _ hR
set_option maxHeartbeats 4000000 in
set_option maxRecDepth 100000 in
theorem lc_8 {X : Cx} {c : Nat → ClassId} {ad bd : Nat → Nat} {b L kc ks : Nat} {xv : Nat → Int32} {x3 : Int32} {Rel : GG → SS → SS → Prop} {G : GG} {s m : SS} (HS : AllSteps Rel) (hgok : ∀ G s m, Rel G s m → gok G) (hfg : ∀ G s, ∃ s2, CT_forget G s = some s2) (K : Ok X code RL 4 1000 c) (hX : va_X b L xv (xs X) (xs X).heap) (hbl : b < (xs X).heap.size) (hbA : ¬ xA X b) (h1 : vp_in (x3 + (1 : Int32)) L) (h2 : vp_in (x3 + (2 : Int32)) L) (h3 : vp_in (x3 + (3 : Int32)) L) (h4 : vp_in (x3 + (4 : Int32)) L) (h5 : vp_in (x3 + (5 : Int32)) L) (h6 : vp_in (x3 + (6 : Int32)) L) (hk : kc + 1 ≤ (xR X).cells ∧ ks + 6 ≤ (xR X).slots) (hRel : Rel G s m) (NXT : ∀ G s m, Rel G s m → V X 4 (kc + 1) (ks + 6) 1181 [(0, .ref b), (1, .ref (ad 0)), (2, .ref (bd 0)), (3, .int x3)] [] (wC ad c G s ++ wM bd c m)) : V X 4 kc ks 470 [(0, .ref b), (1, .ref (ad 0)), (2, .ref (bd 0)), (3, .int x3)] [] (wC ad c G s ++ wM bd c m) := by
  obtain ⟨r, s1, m1, e1, e2, hR⟩ := HS.2.2.2.2.2.2.2.2.1 G s m (xv (x3 + (1 : Int32)).toNatClampNeg) (xv (x3 + (2 : Int32)).toNatClampNeg) hRel
  refine v_aload_n K 1 rfl dL_law_470 ?_
  refine v_aload_n K 0 rfl dL_law_471 ?_
  refine v_iload_n K 3 rfl dL_law_472 ?_
  refine v_iconst (v := (1 : Int32)) K dL_law_473 (by decide) ?_
  refine v_iadd K dL_law_474 ?_
  refine v_sld K hX hbl hbA h1 dL_law_475 ?_
  refine v_aload_n K 0 rfl dL_law_476 ?_
  refine v_iload_n K 3 rfl dL_law_477 ?_
  refine v_iconst (v := (2 : Int32)) K dL_law_478 (by decide) ?_
  refine v_iadd K dL_law_479 ?_
  refine v_sld K hX hbl hbA h2 dL_law_480 ?_
  refine vLC_i K [.int (xv (x3 + (1 : Int32)).toNatClampNeg), .int (xv (x3 + (2 : Int32)).toNatClampNeg)] [] cw_RL_50 (cCT_day (hgok _ _ _ hRel) e1) rfl rfl (Nat.le_of_ble_eq_true rfl) (by decide) ⟨Nat.le_trans (Nat.le_succ _) hk.1, Nat.le_trans (Nat.le_add_right _ 6) hk.2⟩ dL_law_481 ?_
  refine v_aload_n K 2 rfl dL_law_484 ?_
  refine v_aload_n K 0 rfl dL_law_485 ?_
  refine v_iload_n K 3 rfl dL_law_486 ?_
  refine v_iconst (v := (1 : Int32)) K dL_law_487 (by decide) ?_
  refine v_iadd K dL_law_488 ?_
  refine v_sld K hX hbl hbA h1 dL_law_489 ?_
  refine v_aload_n K 0 rfl dL_law_490 ?_
  refine v_iload_n K 3 rfl dL_law_491 ?_
  refine v_iconst (v := (2 : Int32)) K dL_law_492 (by decide) ?_
  refine v_iadd K dL_law_493 ?_
  refine v_sld K hX hbl hbA h2 dL_law_494 ?_
  refine vLM_i K [.int (xv (x3 + (1 : Int32)).toNatClampNeg), .int (xv (x3 + (2 : Int32)).toNatClampNeg)] [.int r] cw_RL_53 (cM_day e2) rfl rfl (Nat.le_of_ble_eq_true rfl) (by decide) ⟨Nat.le_trans (Nat.le_succ _) hk.1, Nat.le_trans (Nat.le_add_right _ 6) hk.2⟩ dL_law_495 ?_
  refine v_icmp_eq K 1181 dL_law_498 (by decide) (fun _ => ?_) (fun q => absurd rfl q)
  refine v_widen (Nat.le_succ _) (Nat.le_add_right _ 6) ?_
  exact NXT _ _ _ hR
set_option maxHeartbeats 4000000 in
set_option maxRecDepth 100000 in
theorem lc_9 {X : Cx} {c : Nat → ClassId} {ad bd : Nat → Nat} {b L kc ks : Nat} {xv : Nat → Int32} {x3 : Int32} {Rel : GG → SS → SS → Prop} {G : GG} {s m : SS} (HS : AllSteps Rel) (hgok : ∀ G s m, Rel G s m → gok G) (hfg : ∀ G s, ∃ s2, CT_forget G s = some s2) (K : Ok X code RL 4 1000 c) (hX : va_X b L xv (xs X) (xs X).heap) (hbl : b < (xs X).heap.size) (hbA : ¬ xA X b) (h1 : vp_in (x3 + (1 : Int32)) L) (h2 : vp_in (x3 + (2 : Int32)) L) (h3 : vp_in (x3 + (3 : Int32)) L) (h4 : vp_in (x3 + (4 : Int32)) L) (h5 : vp_in (x3 + (5 : Int32)) L) (h6 : vp_in (x3 + (6 : Int32)) L) (hk : kc + 1 ≤ (xR X).cells ∧ ks + 6 ≤ (xR X).slots) (hRel : Rel G s m) (NXT : ∀ G s m, Rel G s m → V X 4 (kc + 1) (ks + 6) 1181 [(0, .ref b), (1, .ref (ad 0)), (2, .ref (bd 0)), (3, .int x3)] [] (wC ad c G s ++ wM bd c m)) : V X 4 kc ks 503 [(0, .ref b), (1, .ref (ad 0)), (2, .ref (bd 0)), (3, .int x3)] [] (wC ad c G s ++ wM bd c m) := by
  obtain ⟨r, s1, m1, e1, e2, hR⟩ := HS.2.2.2.2.2.2.2.2.2.1 G s m (xv (x3 + (1 : Int32)).toNatClampNeg) (xv (x3 + (2 : Int32)).toNatClampNeg) hRel
  refine v_aload_n K 1 rfl dL_law_503 ?_
  refine v_aload_n K 0 rfl dL_law_504 ?_
  refine v_iload_n K 3 rfl dL_law_505 ?_
  refine v_iconst (v := (1 : Int32)) K dL_law_506 (by decide) ?_
  refine v_iadd K dL_law_507 ?_
  refine v_sld K hX hbl hbA h1 dL_law_508 ?_
  refine v_aload_n K 0 rfl dL_law_509 ?_
  refine v_iload_n K 3 rfl dL_law_510 ?_
  refine v_iconst (v := (2 : Int32)) K dL_law_511 (by decide) ?_
  refine v_iadd K dL_law_512 ?_
  refine v_sld K hX hbl hbA h2 dL_law_513 ?_
  refine vLC_i K [.int (xv (x3 + (1 : Int32)).toNatClampNeg), .int (xv (x3 + (2 : Int32)).toNatClampNeg)] [] cw_RL_54 (cCT_taken (hgok _ _ _ hRel) e1) rfl rfl (Nat.le_of_ble_eq_true rfl) (by decide) ⟨Nat.le_trans (Nat.le_succ _) hk.1, Nat.le_trans (Nat.le_add_right _ 6) hk.2⟩ dL_law_514 ?_
  refine v_aload_n K 2 rfl dL_law_517 ?_
  refine v_aload_n K 0 rfl dL_law_518 ?_
  refine v_iload_n K 3 rfl dL_law_519 ?_
  refine v_iconst (v := (1 : Int32)) K dL_law_520 (by decide) ?_
  refine v_iadd K dL_law_521 ?_
  refine v_sld K hX hbl hbA h1 dL_law_522 ?_
  refine v_aload_n K 0 rfl dL_law_523 ?_
  refine v_iload_n K 3 rfl dL_law_524 ?_
  refine v_iconst (v := (2 : Int32)) K dL_law_525 (by decide) ?_
  refine v_iadd K dL_law_526 ?_
  refine v_sld K hX hbl hbA h2 dL_law_527 ?_
  refine vLM_i K [.int (xv (x3 + (1 : Int32)).toNatClampNeg), .int (xv (x3 + (2 : Int32)).toNatClampNeg)] [.int r] cw_RL_57 (cM_taken e2) rfl rfl (Nat.le_of_ble_eq_true rfl) (by decide) ⟨Nat.le_trans (Nat.le_succ _) hk.1, Nat.le_trans (Nat.le_add_right _ 6) hk.2⟩ dL_law_528 ?_
  refine v_icmp_eq K 1181 dL_law_531 (by decide) (fun _ => ?_) (fun q => absurd rfl q)
  refine v_widen (Nat.le_succ _) (Nat.le_add_right _ 6) ?_
  exact NXT _ _ _ hR
set_option maxHeartbeats 4000000 in
set_option maxRecDepth 100000 in
theorem lc_10 {X : Cx} {c : Nat → ClassId} {ad bd : Nat → Nat} {b L kc ks : Nat} {xv : Nat → Int32} {x3 : Int32} {Rel : GG → SS → SS → Prop} {G : GG} {s m : SS} (HS : AllSteps Rel) (hgok : ∀ G s m, Rel G s m → gok G) (hfg : ∀ G s, ∃ s2, CT_forget G s = some s2) (K : Ok X code RL 4 1000 c) (hX : va_X b L xv (xs X) (xs X).heap) (hbl : b < (xs X).heap.size) (hbA : ¬ xA X b) (h1 : vp_in (x3 + (1 : Int32)) L) (h2 : vp_in (x3 + (2 : Int32)) L) (h3 : vp_in (x3 + (3 : Int32)) L) (h4 : vp_in (x3 + (4 : Int32)) L) (h5 : vp_in (x3 + (5 : Int32)) L) (h6 : vp_in (x3 + (6 : Int32)) L) (hk : kc + 1 ≤ (xR X).cells ∧ ks + 6 ≤ (xR X).slots) (hRel : Rel G s m) (NXT : ∀ G s m, Rel G s m → V X 4 (kc + 1) (ks + 6) 1181 [(0, .ref b), (1, .ref (ad 0)), (2, .ref (bd 0)), (3, .int x3)] [] (wC ad c G s ++ wM bd c m)) : V X 4 kc ks 536 [(0, .ref b), (1, .ref (ad 0)), (2, .ref (bd 0)), (3, .int x3)] [] (wC ad c G s ++ wM bd c m) := by
  obtain ⟨r, s1, m1, e1, e2, hR⟩ := HS.2.2.2.2.2.2.2.2.2.2.1 G s m  hRel
  refine v_aload_n K 1 rfl dL_law_536 ?_
  refine vLC_i K [] [] cw_RL_58 (cCT_coin (hgok _ _ _ hRel) e1) rfl rfl (Nat.le_of_ble_eq_true rfl) (by decide) ⟨Nat.le_trans (Nat.le_succ _) hk.1, Nat.le_trans (Nat.le_add_right _ 6) hk.2⟩ dL_law_537 ?_
  refine v_aload_n K 2 rfl dL_law_540 ?_
  refine vLM_i K [] [.int r] cw_RL_62 (cM_coin e2) rfl rfl (Nat.le_of_ble_eq_true rfl) (by decide) ⟨Nat.le_trans (Nat.le_succ _) hk.1, Nat.le_trans (Nat.le_add_right _ 6) hk.2⟩ dL_law_541 ?_
  refine v_icmp_eq K 1181 dL_law_544 (by decide) (fun _ => ?_) (fun q => absurd rfl q)
  refine v_widen (Nat.le_succ _) (Nat.le_add_right _ 6) ?_
  exact NXT _ _ _ hR
set_option maxHeartbeats 4000000 in
set_option maxRecDepth 100000 in
theorem lc_11 {X : Cx} {c : Nat → ClassId} {ad bd : Nat → Nat} {b L kc ks : Nat} {xv : Nat → Int32} {x3 : Int32} {Rel : GG → SS → SS → Prop} {G : GG} {s m : SS} (HS : AllSteps Rel) (hgok : ∀ G s m, Rel G s m → gok G) (hfg : ∀ G s, ∃ s2, CT_forget G s = some s2) (K : Ok X code RL 4 1000 c) (hX : va_X b L xv (xs X) (xs X).heap) (hbl : b < (xs X).heap.size) (hbA : ¬ xA X b) (h1 : vp_in (x3 + (1 : Int32)) L) (h2 : vp_in (x3 + (2 : Int32)) L) (h3 : vp_in (x3 + (3 : Int32)) L) (h4 : vp_in (x3 + (4 : Int32)) L) (h5 : vp_in (x3 + (5 : Int32)) L) (h6 : vp_in (x3 + (6 : Int32)) L) (hk : kc + 1 ≤ (xR X).cells ∧ ks + 6 ≤ (xR X).slots) (hRel : Rel G s m) (NXT : ∀ G s m, Rel G s m → V X 4 (kc + 1) (ks + 6) 1181 [(0, .ref b), (1, .ref (ad 0)), (2, .ref (bd 0)), (3, .int x3)] [] (wC ad c G s ++ wM bd c m)) : V X 4 kc ks 549 [(0, .ref b), (1, .ref (ad 0)), (2, .ref (bd 0)), (3, .int x3)] [] (wC ad c G s ++ wM bd c m) := by
  obtain ⟨r, s1, m1, e1, e2, hR⟩ := HS.2.2.2.2.2.2.2.2.2.2.2.1 G s m (xv (x3 + (1 : Int32)).toNatClampNeg) hRel
  refine v_aload_n K 1 rfl dL_law_549 ?_
  refine v_aload_n K 0 rfl dL_law_550 ?_
  refine v_iload_n K 3 rfl dL_law_551 ?_
  refine v_iconst (v := (1 : Int32)) K dL_law_552 (by decide) ?_
  refine v_iadd K dL_law_553 ?_
  refine v_sld K hX hbl hbA h1 dL_law_554 ?_
  refine vLC_l K [.int (xv (x3 + (1 : Int32)).toNatClampNeg)] [] cw_RL_63 (cCT_worth (hgok _ _ _ hRel) e1) rfl rfl (Nat.le_of_ble_eq_true rfl) (by decide) ⟨Nat.le_trans (Nat.le_succ _) hk.1, Nat.le_trans (Nat.le_add_right _ 6) hk.2⟩ dL_law_555 ?_
  refine v_aload_n K 2 rfl dL_law_558 ?_
  refine v_aload_n K 0 rfl dL_law_559 ?_
  refine v_iload_n K 3 rfl dL_law_560 ?_
  refine v_iconst (v := (1 : Int32)) K dL_law_561 (by decide) ?_
  refine v_iadd K dL_law_562 ?_
  refine v_sld K hX hbl hbA h1 dL_law_563 ?_
  refine vLM_l K [.int (xv (x3 + (1 : Int32)).toNatClampNeg)] [.long r] cw_RL_67 (cM_worth e2) rfl rfl (Nat.le_of_ble_eq_true rfl) (by decide) ⟨Nat.le_trans (Nat.le_succ _) hk.1, Nat.le_trans (Nat.le_add_right _ 6) hk.2⟩ dL_law_564 ?_
  refine v_lcmp K dL_law_567 ?_
  refine v_if_eq K 1181 dL_law_568 (by decide) (fun _ => ?_) (fun q => absurd (by simp [lg_cmp]) q)
  refine v_widen (Nat.le_succ _) (Nat.le_add_right _ 6) ?_
  exact NXT _ _ _ hR
set_option maxHeartbeats 4000000 in
set_option maxRecDepth 100000 in
theorem lc_12 {X : Cx} {c : Nat → ClassId} {ad bd : Nat → Nat} {b L kc ks : Nat} {xv : Nat → Int32} {x3 : Int32} {Rel : GG → SS → SS → Prop} {G : GG} {s m : SS} (HS : AllSteps Rel) (hgok : ∀ G s m, Rel G s m → gok G) (hfg : ∀ G s, ∃ s2, CT_forget G s = some s2) (K : Ok X code RL 4 1000 c) (hX : va_X b L xv (xs X) (xs X).heap) (hbl : b < (xs X).heap.size) (hbA : ¬ xA X b) (h1 : vp_in (x3 + (1 : Int32)) L) (h2 : vp_in (x3 + (2 : Int32)) L) (h3 : vp_in (x3 + (3 : Int32)) L) (h4 : vp_in (x3 + (4 : Int32)) L) (h5 : vp_in (x3 + (5 : Int32)) L) (h6 : vp_in (x3 + (6 : Int32)) L) (hk : kc + 1 ≤ (xR X).cells ∧ ks + 6 ≤ (xR X).slots) (hRel : Rel G s m) (NXT : ∀ G s m, Rel G s m → V X 4 (kc + 1) (ks + 6) 1181 [(0, .ref b), (1, .ref (ad 0)), (2, .ref (bd 0)), (3, .int x3)] [] (wC ad c G s ++ wM bd c m)) : V X 4 kc ks 573 [(0, .ref b), (1, .ref (ad 0)), (2, .ref (bd 0)), (3, .int x3)] [] (wC ad c G s ++ wM bd c m) := by
  obtain ⟨r, s1, m1, e1, e2, hR⟩ := HS.2.2.2.2.2.2.2.2.2.2.2.2.1 G s m (xv (x3 + (1 : Int32)).toNatClampNeg) hRel
  refine v_aload_n K 1 rfl dL_law_573 ?_
  refine v_aload_n K 0 rfl dL_law_574 ?_
  refine v_iload_n K 3 rfl dL_law_575 ?_
  refine v_iconst (v := (1 : Int32)) K dL_law_576 (by decide) ?_
  refine v_iadd K dL_law_577 ?_
  refine v_sld K hX hbl hbA h1 dL_law_578 ?_
  refine vLC_i K [.int (xv (x3 + (1 : Int32)).toNatClampNeg)] [] cw_RL_68 (cCT_plan (hgok _ _ _ hRel) e1) rfl rfl (Nat.le_of_ble_eq_true rfl) (by decide) ⟨Nat.le_trans (Nat.le_succ _) hk.1, Nat.le_trans (Nat.le_add_right _ 6) hk.2⟩ dL_law_579 ?_
  refine v_aload_n K 2 rfl dL_law_582 ?_
  refine v_aload_n K 0 rfl dL_law_583 ?_
  refine v_iload_n K 3 rfl dL_law_584 ?_
  refine v_iconst (v := (1 : Int32)) K dL_law_585 (by decide) ?_
  refine v_iadd K dL_law_586 ?_
  refine v_sld K hX hbl hbA h1 dL_law_587 ?_
  refine vLM_i K [.int (xv (x3 + (1 : Int32)).toNatClampNeg)] [.int r] cw_RL_71 (cM_plan e2) rfl rfl (Nat.le_of_ble_eq_true rfl) (by decide) ⟨Nat.le_trans (Nat.le_succ _) hk.1, Nat.le_trans (Nat.le_add_right _ 6) hk.2⟩ dL_law_588 ?_
  refine v_icmp_eq K 1181 dL_law_591 (by decide) (fun _ => ?_) (fun q => absurd rfl q)
  refine v_widen (Nat.le_succ _) (Nat.le_add_right _ 6) ?_
  exact NXT _ _ _ hR
set_option maxHeartbeats 4000000 in
set_option maxRecDepth 100000 in
theorem lc_13 {X : Cx} {c : Nat → ClassId} {ad bd : Nat → Nat} {b L kc ks : Nat} {xv : Nat → Int32} {x3 : Int32} {Rel : GG → SS → SS → Prop} {G : GG} {s m : SS} (HS : AllSteps Rel) (hgok : ∀ G s m, Rel G s m → gok G) (hfg : ∀ G s, ∃ s2, CT_forget G s = some s2) (K : Ok X code RL 4 1000 c) (hX : va_X b L xv (xs X) (xs X).heap) (hbl : b < (xs X).heap.size) (hbA : ¬ xA X b) (h1 : vp_in (x3 + (1 : Int32)) L) (h2 : vp_in (x3 + (2 : Int32)) L) (h3 : vp_in (x3 + (3 : Int32)) L) (h4 : vp_in (x3 + (4 : Int32)) L) (h5 : vp_in (x3 + (5 : Int32)) L) (h6 : vp_in (x3 + (6 : Int32)) L) (hk : kc + 1 ≤ (xR X).cells ∧ ks + 6 ≤ (xR X).slots) (hRel : Rel G s m) (NXT : ∀ G s m, Rel G s m → V X 4 (kc + 1) (ks + 6) 1181 [(0, .ref b), (1, .ref (ad 0)), (2, .ref (bd 0)), (3, .int x3)] [] (wC ad c G s ++ wM bd c m)) : V X 4 kc ks 596 [(0, .ref b), (1, .ref (ad 0)), (2, .ref (bd 0)), (3, .int x3)] [] (wC ad c G s ++ wM bd c m) := by
  obtain ⟨r, s1, m1, e1, e2, hR⟩ := HS.2.2.2.2.2.2.2.2.2.2.2.2.2.1 G s m (xv (x3 + (1 : Int32)).toNatClampNeg) hRel
  refine v_aload_n K 1 rfl dL_law_596 ?_
  refine v_aload_n K 0 rfl dL_law_597 ?_
  refine v_iload_n K 3 rfl dL_law_598 ?_
  refine v_iconst (v := (1 : Int32)) K dL_law_599 (by decide) ?_
  refine v_iadd K dL_law_600 ?_
  refine v_sld K hX hbl hbA h1 dL_law_601 ?_
  refine vLC_i K [.int (xv (x3 + (1 : Int32)).toNatClampNeg)] [] cw_RL_72 (cCT_bestRule (hgok _ _ _ hRel) e1) rfl rfl (Nat.le_of_ble_eq_true rfl) (by decide) ⟨Nat.le_trans (Nat.le_succ _) hk.1, Nat.le_trans (Nat.le_add_right _ 6) hk.2⟩ dL_law_602 ?_
  refine v_aload_n K 2 rfl dL_law_605 ?_
  refine v_aload_n K 0 rfl dL_law_606 ?_
  refine v_iload_n K 3 rfl dL_law_607 ?_
  refine v_iconst (v := (1 : Int32)) K dL_law_608 (by decide) ?_
  refine v_iadd K dL_law_609 ?_
  refine v_sld K hX hbl hbA h1 dL_law_610 ?_
  refine vLM_i K [.int (xv (x3 + (1 : Int32)).toNatClampNeg)] [.int r] cw_RL_75 (cM_bestRule e2) rfl rfl (Nat.le_of_ble_eq_true rfl) (by decide) ⟨Nat.le_trans (Nat.le_succ _) hk.1, Nat.le_trans (Nat.le_add_right _ 6) hk.2⟩ dL_law_611 ?_
  refine v_icmp_eq K 1181 dL_law_614 (by decide) (fun _ => ?_) (fun q => absurd rfl q)
  refine v_widen (Nat.le_succ _) (Nat.le_add_right _ 6) ?_
  exact NXT _ _ _ hR
set_option maxHeartbeats 4000000 in
set_option maxRecDepth 100000 in
theorem lc_14 {X : Cx} {c : Nat → ClassId} {ad bd : Nat → Nat} {b L kc ks : Nat} {xv : Nat → Int32} {x3 : Int32} {Rel : GG → SS → SS → Prop} {G : GG} {s m : SS} (HS : AllSteps Rel) (hgok : ∀ G s m, Rel G s m → gok G) (hfg : ∀ G s, ∃ s2, CT_forget G s = some s2) (K : Ok X code RL 4 1000 c) (hX : va_X b L xv (xs X) (xs X).heap) (hbl : b < (xs X).heap.size) (hbA : ¬ xA X b) (h1 : vp_in (x3 + (1 : Int32)) L) (h2 : vp_in (x3 + (2 : Int32)) L) (h3 : vp_in (x3 + (3 : Int32)) L) (h4 : vp_in (x3 + (4 : Int32)) L) (h5 : vp_in (x3 + (5 : Int32)) L) (h6 : vp_in (x3 + (6 : Int32)) L) (hk : kc + 1 ≤ (xR X).cells ∧ ks + 6 ≤ (xR X).slots) (hRel : Rel G s m) (NXT : ∀ G s m, Rel G s m → V X 4 (kc + 1) (ks + 6) 1181 [(0, .ref b), (1, .ref (ad 0)), (2, .ref (bd 0)), (3, .int x3)] [] (wC ad c G s ++ wM bd c m)) : V X 4 kc ks 619 [(0, .ref b), (1, .ref (ad 0)), (2, .ref (bd 0)), (3, .int x3)] [] (wC ad c G s ++ wM bd c m) := by
  obtain ⟨r, s1, m1, e1, e2, hR⟩ := HS.2.2.2.2.2.2.2.2.2.2.2.2.2.2.1 G s m (xv (x3 + (1 : Int32)).toNatClampNeg) hRel
  refine v_aload_n K 1 rfl dL_law_619 ?_
  refine v_aload_n K 0 rfl dL_law_620 ?_
  refine v_iload_n K 3 rfl dL_law_621 ?_
  refine v_iconst (v := (1 : Int32)) K dL_law_622 (by decide) ?_
  refine v_iadd K dL_law_623 ?_
  refine v_sld K hX hbl hbA h1 dL_law_624 ?_
  refine vLC_i K [.int (xv (x3 + (1 : Int32)).toNatClampNeg)] [] cw_RL_76 (cCT_waiting (hgok _ _ _ hRel) e1) rfl rfl (Nat.le_of_ble_eq_true rfl) (by decide) ⟨Nat.le_trans (Nat.le_succ _) hk.1, Nat.le_trans (Nat.le_add_right _ 6) hk.2⟩ dL_law_625 ?_
  refine v_aload_n K 2 rfl dL_law_628 ?_
  refine v_aload_n K 0 rfl dL_law_629 ?_
  refine v_iload_n K 3 rfl dL_law_630 ?_
  refine v_iconst (v := (1 : Int32)) K dL_law_631 (by decide) ?_
  refine v_iadd K dL_law_632 ?_
  refine v_sld K hX hbl hbA h1 dL_law_633 ?_
  refine vLM_i K [.int (xv (x3 + (1 : Int32)).toNatClampNeg)] [.int r] cw_RL_79 (cM_waiting e2) rfl rfl (Nat.le_of_ble_eq_true rfl) (by decide) ⟨Nat.le_trans (Nat.le_succ _) hk.1, Nat.le_trans (Nat.le_add_right _ 6) hk.2⟩ dL_law_634 ?_
  refine v_icmp_eq K 1181 dL_law_637 (by decide) (fun _ => ?_) (fun q => absurd rfl q)
  refine v_widen (Nat.le_succ _) (Nat.le_add_right _ 6) ?_
  exact NXT _ _ _ hR
set_option maxHeartbeats 4000000 in
set_option maxRecDepth 100000 in
theorem lc_15 {X : Cx} {c : Nat → ClassId} {ad bd : Nat → Nat} {b L kc ks : Nat} {xv : Nat → Int32} {x3 : Int32} {Rel : GG → SS → SS → Prop} {G : GG} {s m : SS} (HS : AllSteps Rel) (hgok : ∀ G s m, Rel G s m → gok G) (hfg : ∀ G s, ∃ s2, CT_forget G s = some s2) (K : Ok X code RL 4 1000 c) (hX : va_X b L xv (xs X) (xs X).heap) (hbl : b < (xs X).heap.size) (hbA : ¬ xA X b) (h1 : vp_in (x3 + (1 : Int32)) L) (h2 : vp_in (x3 + (2 : Int32)) L) (h3 : vp_in (x3 + (3 : Int32)) L) (h4 : vp_in (x3 + (4 : Int32)) L) (h5 : vp_in (x3 + (5 : Int32)) L) (h6 : vp_in (x3 + (6 : Int32)) L) (hk : kc + 1 ≤ (xR X).cells ∧ ks + 6 ≤ (xR X).slots) (hRel : Rel G s m) (NXT : ∀ G s m, Rel G s m → V X 4 (kc + 1) (ks + 6) 1181 [(0, .ref b), (1, .ref (ad 0)), (2, .ref (bd 0)), (3, .int x3)] [] (wC ad c G s ++ wM bd c m)) : V X 4 kc ks 642 [(0, .ref b), (1, .ref (ad 0)), (2, .ref (bd 0)), (3, .int x3)] [] (wC ad c G s ++ wM bd c m) := by
  obtain ⟨r, s1, m1, e1, e2, hR⟩ := HS.2.2.2.2.2.2.2.2.2.2.2.2.2.2.2.1 G s m (xv (x3 + (1 : Int32)).toNatClampNeg) (xv (x3 + (2 : Int32)).toNatClampNeg) hRel
  refine v_aload_n K 1 rfl dL_law_642 ?_
  refine v_aload_n K 0 rfl dL_law_643 ?_
  refine v_iload_n K 3 rfl dL_law_644 ?_
  refine v_iconst (v := (1 : Int32)) K dL_law_645 (by decide) ?_
  refine v_iadd K dL_law_646 ?_
  refine v_sld K hX hbl hbA h1 dL_law_647 ?_
  refine v_aload_n K 0 rfl dL_law_648 ?_
  refine v_iload_n K 3 rfl dL_law_649 ?_
  refine v_iconst (v := (2 : Int32)) K dL_law_650 (by decide) ?_
  refine v_iadd K dL_law_651 ?_
  refine v_sld K hX hbl hbA h2 dL_law_652 ?_
  refine vLC_i K [.int (xv (x3 + (1 : Int32)).toNatClampNeg), .int (xv (x3 + (2 : Int32)).toNatClampNeg)] [] cw_RL_80 (cCT_mix (hgok _ _ _ hRel) e1) rfl rfl (Nat.le_of_ble_eq_true rfl) (by decide) ⟨Nat.le_trans (Nat.le_succ _) hk.1, Nat.le_trans (Nat.le_add_right _ 6) hk.2⟩ dL_law_653 ?_
  refine v_aload_n K 2 rfl dL_law_656 ?_
  refine v_aload_n K 0 rfl dL_law_657 ?_
  refine v_iload_n K 3 rfl dL_law_658 ?_
  refine v_iconst (v := (1 : Int32)) K dL_law_659 (by decide) ?_
  refine v_iadd K dL_law_660 ?_
  refine v_sld K hX hbl hbA h1 dL_law_661 ?_
  refine v_aload_n K 0 rfl dL_law_662 ?_
  refine v_iload_n K 3 rfl dL_law_663 ?_
  refine v_iconst (v := (2 : Int32)) K dL_law_664 (by decide) ?_
  refine v_iadd K dL_law_665 ?_
  refine v_sld K hX hbl hbA h2 dL_law_666 ?_
  refine vLM_i K [.int (xv (x3 + (1 : Int32)).toNatClampNeg), .int (xv (x3 + (2 : Int32)).toNatClampNeg)] [.int r] cw_RL_83 (cM_mix e2) rfl rfl (Nat.le_of_ble_eq_true rfl) (by decide) ⟨Nat.le_trans (Nat.le_succ _) hk.1, Nat.le_trans (Nat.le_add_right _ 6) hk.2⟩ dL_law_667 ?_
  refine v_icmp_eq K 1181 dL_law_670 (by decide) (fun _ => ?_) (fun q => absurd rfl q)
  refine v_widen (Nat.le_succ _) (Nat.le_add_right _ 6) ?_
  exact NXT _ _ _ hR
set_option maxHeartbeats 4000000 in
set_option maxRecDepth 100000 in
theorem lc_16 {X : Cx} {c : Nat → ClassId} {ad bd : Nat → Nat} {b L kc ks : Nat} {xv : Nat → Int32} {x3 : Int32} {Rel : GG → SS → SS → Prop} {G : GG} {s m : SS} (HS : AllSteps Rel) (hgok : ∀ G s m, Rel G s m → gok G) (hfg : ∀ G s, ∃ s2, CT_forget G s = some s2) (K : Ok X code RL 4 1000 c) (hX : va_X b L xv (xs X) (xs X).heap) (hbl : b < (xs X).heap.size) (hbA : ¬ xA X b) (h1 : vp_in (x3 + (1 : Int32)) L) (h2 : vp_in (x3 + (2 : Int32)) L) (h3 : vp_in (x3 + (3 : Int32)) L) (h4 : vp_in (x3 + (4 : Int32)) L) (h5 : vp_in (x3 + (5 : Int32)) L) (h6 : vp_in (x3 + (6 : Int32)) L) (hk : kc + 1 ≤ (xR X).cells ∧ ks + 6 ≤ (xR X).slots) (hRel : Rel G s m) (NXT : ∀ G s m, Rel G s m → V X 4 (kc + 1) (ks + 6) 1181 [(0, .ref b), (1, .ref (ad 0)), (2, .ref (bd 0)), (3, .int x3)] [] (wC ad c G s ++ wM bd c m)) : V X 4 kc ks 675 [(0, .ref b), (1, .ref (ad 0)), (2, .ref (bd 0)), (3, .int x3)] [] (wC ad c G s ++ wM bd c m) := by
  obtain ⟨r, s1, m1, e1, e2, hR⟩ := HS.2.2.2.2.2.2.2.2.2.2.2.2.2.2.2.2.1 G s m (xv (x3 + (1 : Int32)).toNatClampNeg) (xv (x3 + (2 : Int32)).toNatClampNeg) hRel
  refine v_aload_n K 1 rfl dL_law_675 ?_
  refine v_aload_n K 0 rfl dL_law_676 ?_
  refine v_iload_n K 3 rfl dL_law_677 ?_
  refine v_iconst (v := (1 : Int32)) K dL_law_678 (by decide) ?_
  refine v_iadd K dL_law_679 ?_
  refine v_sld K hX hbl hbA h1 dL_law_680 ?_
  refine v_aload_n K 0 rfl dL_law_681 ?_
  refine v_iload_n K 3 rfl dL_law_682 ?_
  refine v_iconst (v := (2 : Int32)) K dL_law_683 (by decide) ?_
  refine v_iadd K dL_law_684 ?_
  refine v_sld K hX hbl hbA h2 dL_law_685 ?_
  refine vLC_i K [.int (xv (x3 + (1 : Int32)).toNatClampNeg), .int (xv (x3 + (2 : Int32)).toNatClampNeg)] [] cw_RL_84 (cCT_till (hgok _ _ _ hRel) e1) rfl rfl (Nat.le_of_ble_eq_true rfl) (by decide) ⟨Nat.le_trans (Nat.le_succ _) hk.1, Nat.le_trans (Nat.le_add_right _ 6) hk.2⟩ dL_law_686 ?_
  refine v_aload_n K 2 rfl dL_law_689 ?_
  refine v_aload_n K 0 rfl dL_law_690 ?_
  refine v_iload_n K 3 rfl dL_law_691 ?_
  refine v_iconst (v := (1 : Int32)) K dL_law_692 (by decide) ?_
  refine v_iadd K dL_law_693 ?_
  refine v_sld K hX hbl hbA h1 dL_law_694 ?_
  refine v_aload_n K 0 rfl dL_law_695 ?_
  refine v_iload_n K 3 rfl dL_law_696 ?_
  refine v_iconst (v := (2 : Int32)) K dL_law_697 (by decide) ?_
  refine v_iadd K dL_law_698 ?_
  refine v_sld K hX hbl hbA h2 dL_law_699 ?_
  refine vLM_i K [.int (xv (x3 + (1 : Int32)).toNatClampNeg), .int (xv (x3 + (2 : Int32)).toNatClampNeg)] [.int r] cw_RL_87 (cM_till e2) rfl rfl (Nat.le_of_ble_eq_true rfl) (by decide) ⟨Nat.le_trans (Nat.le_succ _) hk.1, Nat.le_trans (Nat.le_add_right _ 6) hk.2⟩ dL_law_700 ?_
  refine v_icmp_eq K 1181 dL_law_703 (by decide) (fun _ => ?_) (fun q => absurd rfl q)
  refine v_widen (Nat.le_succ _) (Nat.le_add_right _ 6) ?_
  exact NXT _ _ _ hR
set_option maxHeartbeats 4000000 in
set_option maxRecDepth 100000 in
theorem lc_17 {X : Cx} {c : Nat → ClassId} {ad bd : Nat → Nat} {b L kc ks : Nat} {xv : Nat → Int32} {x3 : Int32} {Rel : GG → SS → SS → Prop} {G : GG} {s m : SS} (HS : AllSteps Rel) (hgok : ∀ G s m, Rel G s m → gok G) (hfg : ∀ G s, ∃ s2, CT_forget G s = some s2) (K : Ok X code RL 4 1000 c) (hX : va_X b L xv (xs X) (xs X).heap) (hbl : b < (xs X).heap.size) (hbA : ¬ xA X b) (h1 : vp_in (x3 + (1 : Int32)) L) (h2 : vp_in (x3 + (2 : Int32)) L) (h3 : vp_in (x3 + (3 : Int32)) L) (h4 : vp_in (x3 + (4 : Int32)) L) (h5 : vp_in (x3 + (5 : Int32)) L) (h6 : vp_in (x3 + (6 : Int32)) L) (hk : kc + 1 ≤ (xR X).cells ∧ ks + 6 ≤ (xR X).slots) (hRel : Rel G s m) (NXT : ∀ G s m, Rel G s m → V X 4 (kc + 1) (ks + 6) 1181 [(0, .ref b), (1, .ref (ad 0)), (2, .ref (bd 0)), (3, .int x3)] [] (wC ad c G s ++ wM bd c m)) : V X 4 kc ks 708 [(0, .ref b), (1, .ref (ad 0)), (2, .ref (bd 0)), (3, .int x3)] [] (wC ad c G s ++ wM bd c m) := by
  obtain ⟨r, s1, m1, e1, e2, hR⟩ := HS.2.2.2.2.2.2.2.2.2.2.2.2.2.2.2.2.2.1 G s m (xv (x3 + (1 : Int32)).toNatClampNeg) (xv (x3 + (2 : Int32)).toNatClampNeg) (xv (x3 + (3 : Int32)).toNatClampNeg) (xv (x3 + (4 : Int32)).toNatClampNeg) (xv (x3 + (5 : Int32)).toNatClampNeg) (xv (x3 + (6 : Int32)).toNatClampNeg) hRel
  refine v_aload_n K 1 rfl dL_law_708 ?_
  refine v_aload_n K 0 rfl dL_law_709 ?_
  refine v_iload_n K 3 rfl dL_law_710 ?_
  refine v_iconst (v := (1 : Int32)) K dL_law_711 (by decide) ?_
  refine v_iadd K dL_law_712 ?_
  refine v_sld K hX hbl hbA h1 dL_law_713 ?_
  refine v_aload_n K 0 rfl dL_law_714 ?_
  refine v_iload_n K 3 rfl dL_law_715 ?_
  refine v_iconst (v := (2 : Int32)) K dL_law_716 (by decide) ?_
  refine v_iadd K dL_law_717 ?_
  refine v_sld K hX hbl hbA h2 dL_law_718 ?_
  refine v_aload_n K 0 rfl dL_law_719 ?_
  refine v_iload_n K 3 rfl dL_law_720 ?_
  refine v_iconst (v := (3 : Int32)) K dL_law_721 (by decide) ?_
  refine v_iadd K dL_law_722 ?_
  refine v_sld K hX hbl hbA h3 dL_law_723 ?_
  refine v_aload_n K 0 rfl dL_law_724 ?_
  refine v_iload_n K 3 rfl dL_law_725 ?_
  refine v_iconst (v := (4 : Int32)) K dL_law_726 (by decide) ?_
  refine v_iadd K dL_law_727 ?_
  refine v_sld K hX hbl hbA h4 dL_law_728 ?_
  refine v_aload_n K 0 rfl dL_law_729 ?_
  refine v_iload_n K 3 rfl dL_law_730 ?_
  refine v_iconst (v := (5 : Int32)) K dL_law_731 (by decide) ?_
  refine v_iadd K dL_law_732 ?_
  refine v_sld K hX hbl hbA h5 dL_law_733 ?_
  refine v_aload_n K 0 rfl dL_law_734 ?_
  refine v_iload_n K 3 rfl dL_law_735 ?_
  refine v_bipush (v := (6 : Int32)) K dL_law_736 (by decide) ?_
  refine v_iadd K dL_law_738 ?_
  refine v_sld K hX hbl hbA h6 dL_law_739 ?_
  refine vLC_l K [.int (xv (x3 + (1 : Int32)).toNatClampNeg), .int (xv (x3 + (2 : Int32)).toNatClampNeg), .int (xv (x3 + (3 : Int32)).toNatClampNeg), .int (xv (x3 + (4 : Int32)).toNatClampNeg), .int (xv (x3 + (5 : Int32)).toNatClampNeg), .int (xv (x3 + (6 : Int32)).toNatClampNeg)] [] cw_RL_88 (cCT_names (hgok _ _ _ hRel) e1) rfl rfl (Nat.le_of_ble_eq_true rfl) (by decide) ⟨Nat.le_trans (Nat.le_succ _) hk.1, Nat.le_trans (Nat.le_add_right _ 6) hk.2⟩ dL_law_740 ?_
  refine v_aload_n K 2 rfl dL_law_743 ?_
  refine v_aload_n K 0 rfl dL_law_744 ?_
  refine v_iload_n K 3 rfl dL_law_745 ?_
  refine v_iconst (v := (1 : Int32)) K dL_law_746 (by decide) ?_
  refine v_iadd K dL_law_747 ?_
  refine v_sld K hX hbl hbA h1 dL_law_748 ?_
  refine v_aload_n K 0 rfl dL_law_749 ?_
  refine v_iload_n K 3 rfl dL_law_750 ?_
  refine v_iconst (v := (2 : Int32)) K dL_law_751 (by decide) ?_
  refine v_iadd K dL_law_752 ?_
  refine v_sld K hX hbl hbA h2 dL_law_753 ?_
  refine v_aload_n K 0 rfl dL_law_754 ?_
  refine v_iload_n K 3 rfl dL_law_755 ?_
  refine v_iconst (v := (3 : Int32)) K dL_law_756 (by decide) ?_
  refine v_iadd K dL_law_757 ?_
  refine v_sld K hX hbl hbA h3 dL_law_758 ?_
  refine v_aload_n K 0 rfl dL_law_759 ?_
  refine v_iload_n K 3 rfl dL_law_760 ?_
  refine v_iconst (v := (4 : Int32)) K dL_law_761 (by decide) ?_
  refine v_iadd K dL_law_762 ?_
  refine v_sld K hX hbl hbA h4 dL_law_763 ?_
  refine v_aload_n K 0 rfl dL_law_764 ?_
  refine v_iload_n K 3 rfl dL_law_765 ?_
  refine v_iconst (v := (5 : Int32)) K dL_law_766 (by decide) ?_
  refine v_iadd K dL_law_767 ?_
  refine v_sld K hX hbl hbA h5 dL_law_768 ?_
  refine v_aload_n K 0 rfl dL_law_769 ?_
  refine v_iload_n K 3 rfl dL_law_770 ?_
  refine v_bipush (v := (6 : Int32)) K dL_law_771 (by decide) ?_
  refine v_iadd K dL_law_773 ?_
  refine v_sld K hX hbl hbA h6 dL_law_774 ?_
  refine vLM_l K [.int (xv (x3 + (1 : Int32)).toNatClampNeg), .int (xv (x3 + (2 : Int32)).toNatClampNeg), .int (xv (x3 + (3 : Int32)).toNatClampNeg), .int (xv (x3 + (4 : Int32)).toNatClampNeg), .int (xv (x3 + (5 : Int32)).toNatClampNeg), .int (xv (x3 + (6 : Int32)).toNatClampNeg)] [.long r] cw_RL_92 (cM_names e2) rfl rfl (Nat.le_of_ble_eq_true rfl) (by decide) ⟨Nat.le_trans (Nat.le_succ _) hk.1, Nat.le_trans (Nat.le_add_right _ 6) hk.2⟩ dL_law_775 ?_
  refine v_lcmp K dL_law_778 ?_
  refine v_if_eq K 1181 dL_law_779 (by decide) (fun _ => ?_) (fun q => absurd (by simp [lg_cmp]) q)
  refine v_widen (Nat.le_succ _) (Nat.le_add_right _ 6) ?_
  exact NXT _ _ _ hR
set_option maxHeartbeats 4000000 in
set_option maxRecDepth 100000 in
theorem lc_18 {X : Cx} {c : Nat → ClassId} {ad bd : Nat → Nat} {b L kc ks : Nat} {xv : Nat → Int32} {x3 : Int32} {Rel : GG → SS → SS → Prop} {G : GG} {s m : SS} (HS : AllSteps Rel) (hgok : ∀ G s m, Rel G s m → gok G) (hfg : ∀ G s, ∃ s2, CT_forget G s = some s2) (K : Ok X code RL 4 1000 c) (hX : va_X b L xv (xs X) (xs X).heap) (hbl : b < (xs X).heap.size) (hbA : ¬ xA X b) (h1 : vp_in (x3 + (1 : Int32)) L) (h2 : vp_in (x3 + (2 : Int32)) L) (h3 : vp_in (x3 + (3 : Int32)) L) (h4 : vp_in (x3 + (4 : Int32)) L) (h5 : vp_in (x3 + (5 : Int32)) L) (h6 : vp_in (x3 + (6 : Int32)) L) (hk : kc + 1 ≤ (xR X).cells ∧ ks + 6 ≤ (xR X).slots) (hRel : Rel G s m) (NXT : ∀ G s m, Rel G s m → V X 4 (kc + 1) (ks + 6) 1181 [(0, .ref b), (1, .ref (ad 0)), (2, .ref (bd 0)), (3, .int x3)] [] (wC ad c G s ++ wM bd c m)) : V X 4 kc ks 784 [(0, .ref b), (1, .ref (ad 0)), (2, .ref (bd 0)), (3, .int x3)] [] (wC ad c G s ++ wM bd c m) := by
  obtain ⟨r, s1, m1, e1, e2, hR⟩ := HS.2.2.2.2.2.2.2.2.2.2.2.2.2.2.2.2.2.2.1 G s m (xv (x3 + (1 : Int32)).toNatClampNeg) (xv (x3 + (2 : Int32)).toNatClampNeg) (xv (x3 + (3 : Int32)).toNatClampNeg) (xv (x3 + (4 : Int32)).toNatClampNeg) hRel
  refine v_aload_n K 1 rfl dL_law_784 ?_
  refine v_aload_n K 0 rfl dL_law_785 ?_
  refine v_iload_n K 3 rfl dL_law_786 ?_
  refine v_iconst (v := (1 : Int32)) K dL_law_787 (by decide) ?_
  refine v_iadd K dL_law_788 ?_
  refine v_sld K hX hbl hbA h1 dL_law_789 ?_
  refine v_aload_n K 0 rfl dL_law_790 ?_
  refine v_iload_n K 3 rfl dL_law_791 ?_
  refine v_iconst (v := (2 : Int32)) K dL_law_792 (by decide) ?_
  refine v_iadd K dL_law_793 ?_
  refine v_sld K hX hbl hbA h2 dL_law_794 ?_
  refine v_aload_n K 0 rfl dL_law_795 ?_
  refine v_iload_n K 3 rfl dL_law_796 ?_
  refine v_iconst (v := (3 : Int32)) K dL_law_797 (by decide) ?_
  refine v_iadd K dL_law_798 ?_
  refine v_sld K hX hbl hbA h3 dL_law_799 ?_
  refine v_aload_n K 0 rfl dL_law_800 ?_
  refine v_iload_n K 3 rfl dL_law_801 ?_
  refine v_iconst (v := (4 : Int32)) K dL_law_802 (by decide) ?_
  refine v_iadd K dL_law_803 ?_
  refine v_sld K hX hbl hbA h4 dL_law_804 ?_
  refine vLC_i K [.int (xv (x3 + (1 : Int32)).toNatClampNeg), .int (xv (x3 + (2 : Int32)).toNatClampNeg), .int (xv (x3 + (3 : Int32)).toNatClampNeg), .int (xv (x3 + (4 : Int32)).toNatClampNeg)] [] cw_RL_93 (cCT_take (hgok _ _ _ hRel) e1) rfl rfl (Nat.le_of_ble_eq_true rfl) (by decide) ⟨Nat.le_trans (Nat.le_succ _) hk.1, Nat.le_trans (Nat.le_add_right _ 6) hk.2⟩ dL_law_805 ?_
  refine v_aload_n K 2 rfl dL_law_808 ?_
  refine v_aload_n K 0 rfl dL_law_809 ?_
  refine v_iload_n K 3 rfl dL_law_810 ?_
  refine v_iconst (v := (1 : Int32)) K dL_law_811 (by decide) ?_
  refine v_iadd K dL_law_812 ?_
  refine v_sld K hX hbl hbA h1 dL_law_813 ?_
  refine v_aload_n K 0 rfl dL_law_814 ?_
  refine v_iload_n K 3 rfl dL_law_815 ?_
  refine v_iconst (v := (2 : Int32)) K dL_law_816 (by decide) ?_
  refine v_iadd K dL_law_817 ?_
  refine v_sld K hX hbl hbA h2 dL_law_818 ?_
  refine v_aload_n K 0 rfl dL_law_819 ?_
  refine v_iload_n K 3 rfl dL_law_820 ?_
  refine v_iconst (v := (3 : Int32)) K dL_law_821 (by decide) ?_
  refine v_iadd K dL_law_822 ?_
  refine v_sld K hX hbl hbA h3 dL_law_823 ?_
  refine v_aload_n K 0 rfl dL_law_824 ?_
  refine v_iload_n K 3 rfl dL_law_825 ?_
  refine v_iconst (v := (4 : Int32)) K dL_law_826 (by decide) ?_
  refine v_iadd K dL_law_827 ?_
  refine v_sld K hX hbl hbA h4 dL_law_828 ?_
  refine vLM_i K [.int (xv (x3 + (1 : Int32)).toNatClampNeg), .int (xv (x3 + (2 : Int32)).toNatClampNeg), .int (xv (x3 + (3 : Int32)).toNatClampNeg), .int (xv (x3 + (4 : Int32)).toNatClampNeg)] [.int r] cw_RL_96 (cM_take e2) rfl rfl (Nat.le_of_ble_eq_true rfl) (by decide) ⟨Nat.le_trans (Nat.le_succ _) hk.1, Nat.le_trans (Nat.le_add_right _ 6) hk.2⟩ dL_law_829 ?_
  refine v_icmp_eq K 1181 dL_law_832 (by decide) (fun _ => ?_) (fun q => absurd rfl q)
  refine v_widen (Nat.le_succ _) (Nat.le_add_right _ 6) ?_
  exact NXT _ _ _ hR
set_option maxHeartbeats 4000000 in
set_option maxRecDepth 100000 in
theorem lc_19 {X : Cx} {c : Nat → ClassId} {ad bd : Nat → Nat} {b L kc ks : Nat} {xv : Nat → Int32} {x3 : Int32} {Rel : GG → SS → SS → Prop} {G : GG} {s m : SS} (HS : AllSteps Rel) (hgok : ∀ G s m, Rel G s m → gok G) (hfg : ∀ G s, ∃ s2, CT_forget G s = some s2) (K : Ok X code RL 4 1000 c) (hX : va_X b L xv (xs X) (xs X).heap) (hbl : b < (xs X).heap.size) (hbA : ¬ xA X b) (h1 : vp_in (x3 + (1 : Int32)) L) (h2 : vp_in (x3 + (2 : Int32)) L) (h3 : vp_in (x3 + (3 : Int32)) L) (h4 : vp_in (x3 + (4 : Int32)) L) (h5 : vp_in (x3 + (5 : Int32)) L) (h6 : vp_in (x3 + (6 : Int32)) L) (hk : kc + 1 ≤ (xR X).cells ∧ ks + 6 ≤ (xR X).slots) (hRel : Rel G s m) (NXT : ∀ G s m, Rel G s m → V X 4 (kc + 1) (ks + 6) 1181 [(0, .ref b), (1, .ref (ad 0)), (2, .ref (bd 0)), (3, .int x3)] [] (wC ad c G s ++ wM bd c m)) : V X 4 kc ks 837 [(0, .ref b), (1, .ref (ad 0)), (2, .ref (bd 0)), (3, .int x3)] [] (wC ad c G s ++ wM bd c m) := by
  obtain ⟨r, s1, m1, e1, e2, hR⟩ := HS.2.2.2.2.2.2.2.2.2.2.2.2.2.2.2.2.2.2.2.1 G s m (xv (x3 + (1 : Int32)).toNatClampNeg) (xv (x3 + (2 : Int32)).toNatClampNeg) (xv (x3 + (3 : Int32)).toNatClampNeg) hRel
  refine v_aload_n K 1 rfl dL_law_837 ?_
  refine v_aload_n K 0 rfl dL_law_838 ?_
  refine v_iload_n K 3 rfl dL_law_839 ?_
  refine v_iconst (v := (1 : Int32)) K dL_law_840 (by decide) ?_
  refine v_iadd K dL_law_841 ?_
  refine v_sld K hX hbl hbA h1 dL_law_842 ?_
  refine v_aload_n K 0 rfl dL_law_843 ?_
  refine v_iload_n K 3 rfl dL_law_844 ?_
  refine v_iconst (v := (2 : Int32)) K dL_law_845 (by decide) ?_
  refine v_iadd K dL_law_846 ?_
  refine v_sld K hX hbl hbA h2 dL_law_847 ?_
  refine v_aload_n K 0 rfl dL_law_848 ?_
  refine v_iload_n K 3 rfl dL_law_849 ?_
  refine v_iconst (v := (3 : Int32)) K dL_law_850 (by decide) ?_
  refine v_iadd K dL_law_851 ?_
  refine v_sld K hX hbl hbA h3 dL_law_852 ?_
  refine vLC_i K [.int (xv (x3 + (1 : Int32)).toNatClampNeg), .int (xv (x3 + (2 : Int32)).toNatClampNeg), .int (xv (x3 + (3 : Int32)).toNatClampNeg)] [] cw_RL_97 (cCT_sheet (hgok _ _ _ hRel) e1) rfl rfl (Nat.le_of_ble_eq_true rfl) (by decide) ⟨Nat.le_trans (Nat.le_succ _) hk.1, Nat.le_trans (Nat.le_add_right _ 6) hk.2⟩ dL_law_853 ?_
  refine v_aload_n K 2 rfl dL_law_856 ?_
  refine v_aload_n K 0 rfl dL_law_857 ?_
  refine v_iload_n K 3 rfl dL_law_858 ?_
  refine v_iconst (v := (1 : Int32)) K dL_law_859 (by decide) ?_
  refine v_iadd K dL_law_860 ?_
  refine v_sld K hX hbl hbA h1 dL_law_861 ?_
  refine v_aload_n K 0 rfl dL_law_862 ?_
  refine v_iload_n K 3 rfl dL_law_863 ?_
  refine v_iconst (v := (2 : Int32)) K dL_law_864 (by decide) ?_
  refine v_iadd K dL_law_865 ?_
  refine v_sld K hX hbl hbA h2 dL_law_866 ?_
  refine v_aload_n K 0 rfl dL_law_867 ?_
  refine v_iload_n K 3 rfl dL_law_868 ?_
  refine v_iconst (v := (3 : Int32)) K dL_law_869 (by decide) ?_
  refine v_iadd K dL_law_870 ?_
  refine v_sld K hX hbl hbA h3 dL_law_871 ?_
  refine vLM_i K [.int (xv (x3 + (1 : Int32)).toNatClampNeg), .int (xv (x3 + (2 : Int32)).toNatClampNeg), .int (xv (x3 + (3 : Int32)).toNatClampNeg)] [.int r] cw_RL_101 (cM_sheet e2) rfl rfl (Nat.le_of_ble_eq_true rfl) (by decide) ⟨Nat.le_trans (Nat.le_succ _) hk.1, Nat.le_trans (Nat.le_add_right _ 6) hk.2⟩ dL_law_872 ?_
  refine v_icmp_eq K 1181 dL_law_875 (by decide) (fun _ => ?_) (fun q => absurd rfl q)
  refine v_widen (Nat.le_succ _) (Nat.le_add_right _ 6) ?_
  exact NXT _ _ _ hR
set_option maxHeartbeats 4000000 in
set_option maxRecDepth 100000 in
theorem lc_20 {X : Cx} {c : Nat → ClassId} {ad bd : Nat → Nat} {b L kc ks : Nat} {xv : Nat → Int32} {x3 : Int32} {Rel : GG → SS → SS → Prop} {G : GG} {s m : SS} (HS : AllSteps Rel) (hgok : ∀ G s m, Rel G s m → gok G) (hfg : ∀ G s, ∃ s2, CT_forget G s = some s2) (K : Ok X code RL 4 1000 c) (hX : va_X b L xv (xs X) (xs X).heap) (hbl : b < (xs X).heap.size) (hbA : ¬ xA X b) (h1 : vp_in (x3 + (1 : Int32)) L) (h2 : vp_in (x3 + (2 : Int32)) L) (h3 : vp_in (x3 + (3 : Int32)) L) (h4 : vp_in (x3 + (4 : Int32)) L) (h5 : vp_in (x3 + (5 : Int32)) L) (h6 : vp_in (x3 + (6 : Int32)) L) (hk : kc + 1 ≤ (xR X).cells ∧ ks + 6 ≤ (xR X).slots) (hRel : Rel G s m) (NXT : ∀ G s m, Rel G s m → V X 4 (kc + 1) (ks + 6) 1181 [(0, .ref b), (1, .ref (ad 0)), (2, .ref (bd 0)), (3, .int x3)] [] (wC ad c G s ++ wM bd c m)) : V X 4 kc ks 880 [(0, .ref b), (1, .ref (ad 0)), (2, .ref (bd 0)), (3, .int x3)] [] (wC ad c G s ++ wM bd c m) := by
  obtain ⟨r, s1, m1, e1, e2, hR⟩ := HS.2.2.2.2.2.2.2.2.2.2.2.2.2.2.2.2.2.2.2.2.1 G s m (xv (x3 + (1 : Int32)).toNatClampNeg) hRel
  refine v_aload_n K 1 rfl dL_law_880 ?_
  refine v_aload_n K 0 rfl dL_law_881 ?_
  refine v_iload_n K 3 rfl dL_law_882 ?_
  refine v_iconst (v := (1 : Int32)) K dL_law_883 (by decide) ?_
  refine v_iadd K dL_law_884 ?_
  refine v_sld K hX hbl hbA h1 dL_law_885 ?_
  refine vLC_i K [.int (xv (x3 + (1 : Int32)).toNatClampNeg)] [] cw_RL_102 (cCT_lose (hgok _ _ _ hRel) e1) rfl rfl (Nat.le_of_ble_eq_true rfl) (by decide) ⟨Nat.le_trans (Nat.le_succ _) hk.1, Nat.le_trans (Nat.le_add_right _ 6) hk.2⟩ dL_law_886 ?_
  refine v_aload_n K 2 rfl dL_law_889 ?_
  refine v_aload_n K 0 rfl dL_law_890 ?_
  refine v_iload_n K 3 rfl dL_law_891 ?_
  refine v_iconst (v := (1 : Int32)) K dL_law_892 (by decide) ?_
  refine v_iadd K dL_law_893 ?_
  refine v_sld K hX hbl hbA h1 dL_law_894 ?_
  refine vLM_i K [.int (xv (x3 + (1 : Int32)).toNatClampNeg)] [.int r] cw_RL_105 (cM_lose e2) rfl rfl (Nat.le_of_ble_eq_true rfl) (by decide) ⟨Nat.le_trans (Nat.le_succ _) hk.1, Nat.le_trans (Nat.le_add_right _ 6) hk.2⟩ dL_law_895 ?_
  refine v_icmp_eq K 1181 dL_law_898 (by decide) (fun _ => ?_) (fun q => absurd rfl q)
  refine v_widen (Nat.le_succ _) (Nat.le_add_right _ 6) ?_
  exact NXT _ _ _ hR
set_option maxHeartbeats 4000000 in
set_option maxRecDepth 100000 in
theorem lc_21 {X : Cx} {c : Nat → ClassId} {ad bd : Nat → Nat} {b L kc ks : Nat} {xv : Nat → Int32} {x3 : Int32} {Rel : GG → SS → SS → Prop} {G : GG} {s m : SS} (HS : AllSteps Rel) (hgok : ∀ G s m, Rel G s m → gok G) (hfg : ∀ G s, ∃ s2, CT_forget G s = some s2) (K : Ok X code RL 4 1000 c) (hX : va_X b L xv (xs X) (xs X).heap) (hbl : b < (xs X).heap.size) (hbA : ¬ xA X b) (h1 : vp_in (x3 + (1 : Int32)) L) (h2 : vp_in (x3 + (2 : Int32)) L) (h3 : vp_in (x3 + (3 : Int32)) L) (h4 : vp_in (x3 + (4 : Int32)) L) (h5 : vp_in (x3 + (5 : Int32)) L) (h6 : vp_in (x3 + (6 : Int32)) L) (hk : kc + 1 ≤ (xR X).cells ∧ ks + 6 ≤ (xR X).slots) (hRel : Rel G s m) (NXT : ∀ G s m, Rel G s m → V X 4 (kc + 1) (ks + 6) 1181 [(0, .ref b), (1, .ref (ad 0)), (2, .ref (bd 0)), (3, .int x3)] [] (wC ad c G s ++ wM bd c m)) : V X 4 kc ks 903 [(0, .ref b), (1, .ref (ad 0)), (2, .ref (bd 0)), (3, .int x3)] [] (wC ad c G s ++ wM bd c m) := by
  obtain ⟨r, s1, m1, e1, e2, hR⟩ := HS.2.2.2.2.2.2.2.2.2.2.2.2.2.2.2.2.2.2.2.2.2.1 G s m (xv (x3 + (1 : Int32)).toNatClampNeg) (xv (x3 + (2 : Int32)).toNatClampNeg) (xv (x3 + (3 : Int32)).toNatClampNeg) hRel
  refine v_aload_n K 1 rfl dL_law_903 ?_
  refine v_aload_n K 0 rfl dL_law_904 ?_
  refine v_iload_n K 3 rfl dL_law_905 ?_
  refine v_iconst (v := (1 : Int32)) K dL_law_906 (by decide) ?_
  refine v_iadd K dL_law_907 ?_
  refine v_sld K hX hbl hbA h1 dL_law_908 ?_
  refine v_aload_n K 0 rfl dL_law_909 ?_
  refine v_iload_n K 3 rfl dL_law_910 ?_
  refine v_iconst (v := (2 : Int32)) K dL_law_911 (by decide) ?_
  refine v_iadd K dL_law_912 ?_
  refine v_sld K hX hbl hbA h2 dL_law_913 ?_
  refine v_aload_n K 0 rfl dL_law_914 ?_
  refine v_iload_n K 3 rfl dL_law_915 ?_
  refine v_iconst (v := (3 : Int32)) K dL_law_916 (by decide) ?_
  refine v_iadd K dL_law_917 ?_
  refine v_sld K hX hbl hbA h3 dL_law_918 ?_
  refine vLC_i K [.int (xv (x3 + (1 : Int32)).toNatClampNeg), .int (xv (x3 + (2 : Int32)).toNatClampNeg), .int (xv (x3 + (3 : Int32)).toNatClampNeg)] [] cw_RL_106 (cCT_put (hgok _ _ _ hRel) e1) rfl rfl (Nat.le_of_ble_eq_true rfl) (by decide) ⟨Nat.le_trans (Nat.le_succ _) hk.1, Nat.le_trans (Nat.le_add_right _ 6) hk.2⟩ dL_law_919 ?_
  refine v_aload_n K 2 rfl dL_law_922 ?_
  refine v_aload_n K 0 rfl dL_law_923 ?_
  refine v_iload_n K 3 rfl dL_law_924 ?_
  refine v_iconst (v := (1 : Int32)) K dL_law_925 (by decide) ?_
  refine v_iadd K dL_law_926 ?_
  refine v_sld K hX hbl hbA h1 dL_law_927 ?_
  refine v_aload_n K 0 rfl dL_law_928 ?_
  refine v_iload_n K 3 rfl dL_law_929 ?_
  refine v_iconst (v := (2 : Int32)) K dL_law_930 (by decide) ?_
  refine v_iadd K dL_law_931 ?_
  refine v_sld K hX hbl hbA h2 dL_law_932 ?_
  refine v_aload_n K 0 rfl dL_law_933 ?_
  refine v_iload_n K 3 rfl dL_law_934 ?_
  refine v_iconst (v := (3 : Int32)) K dL_law_935 (by decide) ?_
  refine v_iadd K dL_law_936 ?_
  refine v_sld K hX hbl hbA h3 dL_law_937 ?_
  refine vLM_i K [.int (xv (x3 + (1 : Int32)).toNatClampNeg), .int (xv (x3 + (2 : Int32)).toNatClampNeg), .int (xv (x3 + (3 : Int32)).toNatClampNeg)] [.int r] cw_RL_109 (cM_put e2) rfl rfl (Nat.le_of_ble_eq_true rfl) (by decide) ⟨Nat.le_trans (Nat.le_succ _) hk.1, Nat.le_trans (Nat.le_add_right _ 6) hk.2⟩ dL_law_938 ?_
  refine v_icmp_eq K 1181 dL_law_941 (by decide) (fun _ => ?_) (fun q => absurd rfl q)
  refine v_widen (Nat.le_succ _) (Nat.le_add_right _ 6) ?_
  exact NXT _ _ _ hR
set_option maxHeartbeats 4000000 in
set_option maxRecDepth 100000 in
theorem lc_22 {X : Cx} {c : Nat → ClassId} {ad bd : Nat → Nat} {b L kc ks : Nat} {xv : Nat → Int32} {x3 : Int32} {Rel : GG → SS → SS → Prop} {G : GG} {s m : SS} (HS : AllSteps Rel) (hgok : ∀ G s m, Rel G s m → gok G) (hfg : ∀ G s, ∃ s2, CT_forget G s = some s2) (K : Ok X code RL 4 1000 c) (hX : va_X b L xv (xs X) (xs X).heap) (hbl : b < (xs X).heap.size) (hbA : ¬ xA X b) (h1 : vp_in (x3 + (1 : Int32)) L) (h2 : vp_in (x3 + (2 : Int32)) L) (h3 : vp_in (x3 + (3 : Int32)) L) (h4 : vp_in (x3 + (4 : Int32)) L) (h5 : vp_in (x3 + (5 : Int32)) L) (h6 : vp_in (x3 + (6 : Int32)) L) (hk : kc + 1 ≤ (xR X).cells ∧ ks + 6 ≤ (xR X).slots) (hRel : Rel G s m) (NXT : ∀ G s m, Rel G s m → V X 4 (kc + 1) (ks + 6) 1181 [(0, .ref b), (1, .ref (ad 0)), (2, .ref (bd 0)), (3, .int x3)] [] (wC ad c G s ++ wM bd c m)) : V X 4 kc ks 946 [(0, .ref b), (1, .ref (ad 0)), (2, .ref (bd 0)), (3, .int x3)] [] (wC ad c G s ++ wM bd c m) := by
  obtain ⟨r, s1, m1, e1, e2, hR⟩ := HS.2.2.2.2.2.2.2.2.2.2.2.2.2.2.2.2.2.2.2.2.2.2.1 G s m (xv (x3 + (1 : Int32)).toNatClampNeg) (xv (x3 + (2 : Int32)).toNatClampNeg) (xv (x3 + (3 : Int32)).toNatClampNeg) hRel
  refine v_aload_n K 1 rfl dL_law_946 ?_
  refine v_aload_n K 0 rfl dL_law_947 ?_
  refine v_iload_n K 3 rfl dL_law_948 ?_
  refine v_iconst (v := (1 : Int32)) K dL_law_949 (by decide) ?_
  refine v_iadd K dL_law_950 ?_
  refine v_sld K hX hbl hbA h1 dL_law_951 ?_
  refine v_aload_n K 0 rfl dL_law_952 ?_
  refine v_iload_n K 3 rfl dL_law_953 ?_
  refine v_iconst (v := (2 : Int32)) K dL_law_954 (by decide) ?_
  refine v_iadd K dL_law_955 ?_
  refine v_sld K hX hbl hbA h2 dL_law_956 ?_
  refine v_aload_n K 0 rfl dL_law_957 ?_
  refine v_iload_n K 3 rfl dL_law_958 ?_
  refine v_iconst (v := (3 : Int32)) K dL_law_959 (by decide) ?_
  refine v_iadd K dL_law_960 ?_
  refine v_sld K hX hbl hbA h3 dL_law_961 ?_
  refine vLC_l K [.int (xv (x3 + (1 : Int32)).toNatClampNeg), .int (xv (x3 + (2 : Int32)).toNatClampNeg), .int (xv (x3 + (3 : Int32)).toNatClampNeg)] [] cw_RL_110 (cCT_cell (hgok _ _ _ hRel) e1) rfl rfl (Nat.le_of_ble_eq_true rfl) (by decide) ⟨Nat.le_trans (Nat.le_succ _) hk.1, Nat.le_trans (Nat.le_add_right _ 6) hk.2⟩ dL_law_962 ?_
  refine v_aload_n K 2 rfl dL_law_965 ?_
  refine v_aload_n K 0 rfl dL_law_966 ?_
  refine v_iload_n K 3 rfl dL_law_967 ?_
  refine v_iconst (v := (1 : Int32)) K dL_law_968 (by decide) ?_
  refine v_iadd K dL_law_969 ?_
  refine v_sld K hX hbl hbA h1 dL_law_970 ?_
  refine v_aload_n K 0 rfl dL_law_971 ?_
  refine v_iload_n K 3 rfl dL_law_972 ?_
  refine v_iconst (v := (2 : Int32)) K dL_law_973 (by decide) ?_
  refine v_iadd K dL_law_974 ?_
  refine v_sld K hX hbl hbA h2 dL_law_975 ?_
  refine v_aload_n K 0 rfl dL_law_976 ?_
  refine v_iload_n K 3 rfl dL_law_977 ?_
  refine v_iconst (v := (3 : Int32)) K dL_law_978 (by decide) ?_
  refine v_iadd K dL_law_979 ?_
  refine v_sld K hX hbl hbA h3 dL_law_980 ?_
  refine vLM_l K [.int (xv (x3 + (1 : Int32)).toNatClampNeg), .int (xv (x3 + (2 : Int32)).toNatClampNeg), .int (xv (x3 + (3 : Int32)).toNatClampNeg)] [.long r] cw_RL_114 (cM_cell e2) rfl rfl (Nat.le_of_ble_eq_true rfl) (by decide) ⟨Nat.le_trans (Nat.le_succ _) hk.1, Nat.le_trans (Nat.le_add_right _ 6) hk.2⟩ dL_law_981 ?_
  refine v_lcmp K dL_law_984 ?_
  refine v_if_eq K 1181 dL_law_985 (by decide) (fun _ => ?_) (fun q => absurd (by simp [lg_cmp]) q)
  refine v_widen (Nat.le_succ _) (Nat.le_add_right _ 6) ?_
  exact NXT _ _ _ hR
set_option maxHeartbeats 4000000 in
set_option maxRecDepth 100000 in
theorem lc_23 {X : Cx} {c : Nat → ClassId} {ad bd : Nat → Nat} {b L kc ks : Nat} {xv : Nat → Int32} {x3 : Int32} {Rel : GG → SS → SS → Prop} {G : GG} {s m : SS} (HS : AllSteps Rel) (hgok : ∀ G s m, Rel G s m → gok G) (hfg : ∀ G s, ∃ s2, CT_forget G s = some s2) (K : Ok X code RL 4 1000 c) (hX : va_X b L xv (xs X) (xs X).heap) (hbl : b < (xs X).heap.size) (hbA : ¬ xA X b) (h1 : vp_in (x3 + (1 : Int32)) L) (h2 : vp_in (x3 + (2 : Int32)) L) (h3 : vp_in (x3 + (3 : Int32)) L) (h4 : vp_in (x3 + (4 : Int32)) L) (h5 : vp_in (x3 + (5 : Int32)) L) (h6 : vp_in (x3 + (6 : Int32)) L) (hk : kc + 1 ≤ (xR X).cells ∧ ks + 6 ≤ (xR X).slots) (hRel : Rel G s m) (NXT : ∀ G s m, Rel G s m → V X 4 (kc + 1) (ks + 6) 1181 [(0, .ref b), (1, .ref (ad 0)), (2, .ref (bd 0)), (3, .int x3)] [] (wC ad c G s ++ wM bd c m)) : V X 4 kc ks 990 [(0, .ref b), (1, .ref (ad 0)), (2, .ref (bd 0)), (3, .int x3)] [] (wC ad c G s ++ wM bd c m) := by
  obtain ⟨r, s1, m1, e1, e2, hR⟩ := HS.2.2.2.2.2.2.2.2.2.2.2.2.2.2.2.2.2.2.2.2.2.2.2.1 G s m (xv (x3 + (1 : Int32)).toNatClampNeg) (xv (x3 + (2 : Int32)).toNatClampNeg) (xv (x3 + (3 : Int32)).toNatClampNeg) (xv (x3 + (4 : Int32)).toNatClampNeg) (xv (x3 + (5 : Int32)).toNatClampNeg) hRel
  refine v_aload_n K 1 rfl dL_law_990 ?_
  refine v_aload_n K 0 rfl dL_law_991 ?_
  refine v_iload_n K 3 rfl dL_law_992 ?_
  refine v_iconst (v := (1 : Int32)) K dL_law_993 (by decide) ?_
  refine v_iadd K dL_law_994 ?_
  refine v_sld K hX hbl hbA h1 dL_law_995 ?_
  refine v_aload_n K 0 rfl dL_law_996 ?_
  refine v_iload_n K 3 rfl dL_law_997 ?_
  refine v_iconst (v := (2 : Int32)) K dL_law_998 (by decide) ?_
  refine v_iadd K dL_law_999 ?_
  refine v_sld K hX hbl hbA h2 dL_law_1000 ?_
  refine v_aload_n K 0 rfl dL_law_1001 ?_
  refine v_iload_n K 3 rfl dL_law_1002 ?_
  refine v_iconst (v := (3 : Int32)) K dL_law_1003 (by decide) ?_
  refine v_iadd K dL_law_1004 ?_
  refine v_sld K hX hbl hbA h3 dL_law_1005 ?_
  refine v_aload_n K 0 rfl dL_law_1006 ?_
  refine v_iload_n K 3 rfl dL_law_1007 ?_
  refine v_iconst (v := (4 : Int32)) K dL_law_1008 (by decide) ?_
  refine v_iadd K dL_law_1009 ?_
  refine v_sld K hX hbl hbA h4 dL_law_1010 ?_
  refine v_aload_n K 0 rfl dL_law_1011 ?_
  refine v_iload_n K 3 rfl dL_law_1012 ?_
  refine v_iconst (v := (5 : Int32)) K dL_law_1013 (by decide) ?_
  refine v_iadd K dL_law_1014 ?_
  refine v_sld K hX hbl hbA h5 dL_law_1015 ?_
  refine vLC_i K [.int (xv (x3 + (1 : Int32)).toNatClampNeg), .int (xv (x3 + (2 : Int32)).toNatClampNeg), .int (xv (x3 + (3 : Int32)).toNatClampNeg), .int (xv (x3 + (4 : Int32)).toNatClampNeg), .int (xv (x3 + (5 : Int32)).toNatClampNeg)] [] cw_RL_115 (cCT_copy (hgok _ _ _ hRel) e1) rfl rfl (Nat.le_of_ble_eq_true rfl) (by decide) ⟨Nat.le_trans (Nat.le_succ _) hk.1, Nat.le_trans (Nat.le_add_right _ 6) hk.2⟩ dL_law_1016 ?_
  refine v_aload_n K 2 rfl dL_law_1019 ?_
  refine v_aload_n K 0 rfl dL_law_1020 ?_
  refine v_iload_n K 3 rfl dL_law_1021 ?_
  refine v_iconst (v := (1 : Int32)) K dL_law_1022 (by decide) ?_
  refine v_iadd K dL_law_1023 ?_
  refine v_sld K hX hbl hbA h1 dL_law_1024 ?_
  refine v_aload_n K 0 rfl dL_law_1025 ?_
  refine v_iload_n K 3 rfl dL_law_1026 ?_
  refine v_iconst (v := (2 : Int32)) K dL_law_1027 (by decide) ?_
  refine v_iadd K dL_law_1028 ?_
  refine v_sld K hX hbl hbA h2 dL_law_1029 ?_
  refine v_aload_n K 0 rfl dL_law_1030 ?_
  refine v_iload_n K 3 rfl dL_law_1031 ?_
  refine v_iconst (v := (3 : Int32)) K dL_law_1032 (by decide) ?_
  refine v_iadd K dL_law_1033 ?_
  refine v_sld K hX hbl hbA h3 dL_law_1034 ?_
  refine v_aload_n K 0 rfl dL_law_1035 ?_
  refine v_iload_n K 3 rfl dL_law_1036 ?_
  refine v_iconst (v := (4 : Int32)) K dL_law_1037 (by decide) ?_
  refine v_iadd K dL_law_1038 ?_
  refine v_sld K hX hbl hbA h4 dL_law_1039 ?_
  refine v_aload_n K 0 rfl dL_law_1040 ?_
  refine v_iload_n K 3 rfl dL_law_1041 ?_
  refine v_iconst (v := (5 : Int32)) K dL_law_1042 (by decide) ?_
  refine v_iadd K dL_law_1043 ?_
  refine v_sld K hX hbl hbA h5 dL_law_1044 ?_
  refine vLM_i K [.int (xv (x3 + (1 : Int32)).toNatClampNeg), .int (xv (x3 + (2 : Int32)).toNatClampNeg), .int (xv (x3 + (3 : Int32)).toNatClampNeg), .int (xv (x3 + (4 : Int32)).toNatClampNeg), .int (xv (x3 + (5 : Int32)).toNatClampNeg)] [.int r] cw_RL_119 (cM_copy e2) rfl rfl (Nat.le_of_ble_eq_true rfl) (by decide) ⟨Nat.le_trans (Nat.le_succ _) hk.1, Nat.le_trans (Nat.le_add_right _ 6) hk.2⟩ dL_law_1045 ?_
  refine v_icmp_eq K 1181 dL_law_1048 (by decide) (fun _ => ?_) (fun q => absurd rfl q)
  refine v_widen (Nat.le_succ _) (Nat.le_add_right _ 6) ?_
  exact NXT _ _ _ hR
set_option maxHeartbeats 4000000 in
set_option maxRecDepth 100000 in
theorem lc_24 {X : Cx} {c : Nat → ClassId} {ad bd : Nat → Nat} {b L kc ks : Nat} {xv : Nat → Int32} {x3 : Int32} {Rel : GG → SS → SS → Prop} {G : GG} {s m : SS} (HS : AllSteps Rel) (hgok : ∀ G s m, Rel G s m → gok G) (hfg : ∀ G s, ∃ s2, CT_forget G s = some s2) (K : Ok X code RL 4 1000 c) (hX : va_X b L xv (xs X) (xs X).heap) (hbl : b < (xs X).heap.size) (hbA : ¬ xA X b) (h1 : vp_in (x3 + (1 : Int32)) L) (h2 : vp_in (x3 + (2 : Int32)) L) (h3 : vp_in (x3 + (3 : Int32)) L) (h4 : vp_in (x3 + (4 : Int32)) L) (h5 : vp_in (x3 + (5 : Int32)) L) (h6 : vp_in (x3 + (6 : Int32)) L) (hk : kc + 1 ≤ (xR X).cells ∧ ks + 6 ≤ (xR X).slots) (hRel : Rel G s m) (NXT : ∀ G s m, Rel G s m → V X 4 (kc + 1) (ks + 6) 1181 [(0, .ref b), (1, .ref (ad 0)), (2, .ref (bd 0)), (3, .int x3)] [] (wC ad c G s ++ wM bd c m)) : V X 4 kc ks 1053 [(0, .ref b), (1, .ref (ad 0)), (2, .ref (bd 0)), (3, .int x3)] [] (wC ad c G s ++ wM bd c m) := by
  obtain ⟨r, s1, m1, e1, e2, hR⟩ := HS.2.2.2.2.2.2.2.2.2.2.2.2.2.2.2.2.2.2.2.2.2.2.2.2.1 G s m (xv (x3 + (1 : Int32)).toNatClampNeg) hRel
  refine v_aload_n K 1 rfl dL_law_1053 ?_
  refine v_aload_n K 0 rfl dL_law_1054 ?_
  refine v_iload_n K 3 rfl dL_law_1055 ?_
  refine v_iconst (v := (1 : Int32)) K dL_law_1056 (by decide) ?_
  refine v_iadd K dL_law_1057 ?_
  refine v_sld K hX hbl hbA h1 dL_law_1058 ?_
  refine vLC_i K [.int (xv (x3 + (1 : Int32)).toNatClampNeg)] [] cw_RL_120 (cCT_tell (hgok _ _ _ hRel) e1) rfl rfl (Nat.le_of_ble_eq_true rfl) (by decide) ⟨Nat.le_trans (Nat.le_succ _) hk.1, Nat.le_trans (Nat.le_add_right _ 6) hk.2⟩ dL_law_1059 ?_
  refine v_aload_n K 2 rfl dL_law_1062 ?_
  refine v_aload_n K 0 rfl dL_law_1063 ?_
  refine v_iload_n K 3 rfl dL_law_1064 ?_
  refine v_iconst (v := (1 : Int32)) K dL_law_1065 (by decide) ?_
  refine v_iadd K dL_law_1066 ?_
  refine v_sld K hX hbl hbA h1 dL_law_1067 ?_
  refine vLM_i K [.int (xv (x3 + (1 : Int32)).toNatClampNeg)] [.int r] cw_RL_123 (cM_tell e2) rfl rfl (Nat.le_of_ble_eq_true rfl) (by decide) ⟨Nat.le_trans (Nat.le_succ _) hk.1, Nat.le_trans (Nat.le_add_right _ 6) hk.2⟩ dL_law_1068 ?_
  refine v_icmp_eq K 1181 dL_law_1071 (by decide) (fun _ => ?_) (fun q => absurd rfl q)
  refine v_widen (Nat.le_succ _) (Nat.le_add_right _ 6) ?_
  exact NXT _ _ _ hR
set_option maxHeartbeats 4000000 in
set_option maxRecDepth 100000 in
theorem lc_25 {X : Cx} {c : Nat → ClassId} {ad bd : Nat → Nat} {b L kc ks : Nat} {xv : Nat → Int32} {x3 : Int32} {Rel : GG → SS → SS → Prop} {G : GG} {s m : SS} (HS : AllSteps Rel) (hgok : ∀ G s m, Rel G s m → gok G) (hfg : ∀ G s, ∃ s2, CT_forget G s = some s2) (K : Ok X code RL 4 1000 c) (hX : va_X b L xv (xs X) (xs X).heap) (hbl : b < (xs X).heap.size) (hbA : ¬ xA X b) (h1 : vp_in (x3 + (1 : Int32)) L) (h2 : vp_in (x3 + (2 : Int32)) L) (h3 : vp_in (x3 + (3 : Int32)) L) (h4 : vp_in (x3 + (4 : Int32)) L) (h5 : vp_in (x3 + (5 : Int32)) L) (h6 : vp_in (x3 + (6 : Int32)) L) (hk : kc + 1 ≤ (xR X).cells ∧ ks + 6 ≤ (xR X).slots) (hRel : Rel G s m) (NXT : ∀ G s m, Rel G s m → V X 4 (kc + 1) (ks + 6) 1181 [(0, .ref b), (1, .ref (ad 0)), (2, .ref (bd 0)), (3, .int x3)] [] (wC ad c G s ++ wM bd c m)) : V X 4 kc ks 1076 [(0, .ref b), (1, .ref (ad 0)), (2, .ref (bd 0)), (3, .int x3)] [] (wC ad c G s ++ wM bd c m) := by
  obtain ⟨r, s1, m1, e1, e2, hR⟩ := HS.2.2.2.2.2.2.2.2.2.2.2.2.2.2.2.2.2.2.2.2.2.2.2.2.2.1 G s m (xv (x3 + (1 : Int32)).toNatClampNeg) hRel
  refine v_aload_n K 1 rfl dL_law_1076 ?_
  refine v_aload_n K 0 rfl dL_law_1077 ?_
  refine v_iload_n K 3 rfl dL_law_1078 ?_
  refine v_iconst (v := (1 : Int32)) K dL_law_1079 (by decide) ?_
  refine v_iadd K dL_law_1080 ?_
  refine v_sld K hX hbl hbA h1 dL_law_1081 ?_
  refine vLC_i K [.int (xv (x3 + (1 : Int32)).toNatClampNeg)] [] cw_RL_124 (cCT_serve (hgok _ _ _ hRel) e1) rfl rfl (Nat.le_of_ble_eq_true rfl) (by decide) ⟨Nat.le_trans (Nat.le_succ _) hk.1, Nat.le_trans (Nat.le_add_right _ 6) hk.2⟩ dL_law_1082 ?_
  refine v_aload_n K 2 rfl dL_law_1085 ?_
  refine v_aload_n K 0 rfl dL_law_1086 ?_
  refine v_iload_n K 3 rfl dL_law_1087 ?_
  refine v_iconst (v := (1 : Int32)) K dL_law_1088 (by decide) ?_
  refine v_iadd K dL_law_1089 ?_
  refine v_sld K hX hbl hbA h1 dL_law_1090 ?_
  refine vLM_i K [.int (xv (x3 + (1 : Int32)).toNatClampNeg)] [.int r] cw_RL_127 (cM_serve e2) rfl rfl (Nat.le_of_ble_eq_true rfl) (by decide) ⟨Nat.le_trans (Nat.le_succ _) hk.1, Nat.le_trans (Nat.le_add_right _ 6) hk.2⟩ dL_law_1091 ?_
  refine v_icmp_eq K 1181 dL_law_1094 (by decide) (fun _ => ?_) (fun q => absurd rfl q)
  refine v_widen (Nat.le_succ _) (Nat.le_add_right _ 6) ?_
  exact NXT _ _ _ hR
set_option maxHeartbeats 4000000 in
set_option maxRecDepth 100000 in
theorem lc_26 {X : Cx} {c : Nat → ClassId} {ad bd : Nat → Nat} {b L kc ks : Nat} {xv : Nat → Int32} {x3 : Int32} {Rel : GG → SS → SS → Prop} {G : GG} {s m : SS} (HS : AllSteps Rel) (hgok : ∀ G s m, Rel G s m → gok G) (hfg : ∀ G s, ∃ s2, CT_forget G s = some s2) (K : Ok X code RL 4 1000 c) (hX : va_X b L xv (xs X) (xs X).heap) (hbl : b < (xs X).heap.size) (hbA : ¬ xA X b) (h1 : vp_in (x3 + (1 : Int32)) L) (h2 : vp_in (x3 + (2 : Int32)) L) (h3 : vp_in (x3 + (3 : Int32)) L) (h4 : vp_in (x3 + (4 : Int32)) L) (h5 : vp_in (x3 + (5 : Int32)) L) (h6 : vp_in (x3 + (6 : Int32)) L) (hk : kc + 1 ≤ (xR X).cells ∧ ks + 6 ≤ (xR X).slots) (hRel : Rel G s m) (NXT : ∀ G s m, Rel G s m → V X 4 (kc + 1) (ks + 6) 1181 [(0, .ref b), (1, .ref (ad 0)), (2, .ref (bd 0)), (3, .int x3)] [] (wC ad c G s ++ wM bd c m)) : V X 4 kc ks 1099 [(0, .ref b), (1, .ref (ad 0)), (2, .ref (bd 0)), (3, .int x3)] [] (wC ad c G s ++ wM bd c m) := by
  obtain ⟨r, s1, m1, e1, e2, hR⟩ := HS.2.2.2.2.2.2.2.2.2.2.2.2.2.2.2.2.2.2.2.2.2.2.2.2.2.2.1 G s m (xv (x3 + (1 : Int32)).toNatClampNeg) (xv (x3 + (2 : Int32)).toNatClampNeg) hRel
  refine v_aload_n K 1 rfl dL_law_1099 ?_
  refine v_aload_n K 0 rfl dL_law_1100 ?_
  refine v_iload_n K 3 rfl dL_law_1101 ?_
  refine v_iconst (v := (1 : Int32)) K dL_law_1102 (by decide) ?_
  refine v_iadd K dL_law_1103 ?_
  refine v_sld K hX hbl hbA h1 dL_law_1104 ?_
  refine v_aload_n K 0 rfl dL_law_1105 ?_
  refine v_iload_n K 3 rfl dL_law_1106 ?_
  refine v_iconst (v := (2 : Int32)) K dL_law_1107 (by decide) ?_
  refine v_iadd K dL_law_1108 ?_
  refine v_sld K hX hbl hbA h2 dL_law_1109 ?_
  refine vLC_i K [.int (xv (x3 + (1 : Int32)).toNatClampNeg), .int (xv (x3 + (2 : Int32)).toNatClampNeg)] [] cw_RL_128 (cCT_as (hgok _ _ _ hRel) e1) rfl rfl (Nat.le_of_ble_eq_true rfl) (by decide) ⟨Nat.le_trans (Nat.le_succ _) hk.1, Nat.le_trans (Nat.le_add_right _ 6) hk.2⟩ dL_law_1110 ?_
  refine v_aload_n K 2 rfl dL_law_1113 ?_
  refine v_aload_n K 0 rfl dL_law_1114 ?_
  refine v_iload_n K 3 rfl dL_law_1115 ?_
  refine v_iconst (v := (1 : Int32)) K dL_law_1116 (by decide) ?_
  refine v_iadd K dL_law_1117 ?_
  refine v_sld K hX hbl hbA h1 dL_law_1118 ?_
  refine v_aload_n K 0 rfl dL_law_1119 ?_
  refine v_iload_n K 3 rfl dL_law_1120 ?_
  refine v_iconst (v := (2 : Int32)) K dL_law_1121 (by decide) ?_
  refine v_iadd K dL_law_1122 ?_
  refine v_sld K hX hbl hbA h2 dL_law_1123 ?_
  refine vLM_i K [.int (xv (x3 + (1 : Int32)).toNatClampNeg), .int (xv (x3 + (2 : Int32)).toNatClampNeg)] [.int r] cw_RL_131 (cM_as e2) rfl rfl (Nat.le_of_ble_eq_true rfl) (by decide) ⟨Nat.le_trans (Nat.le_succ _) hk.1, Nat.le_trans (Nat.le_add_right _ 6) hk.2⟩ dL_law_1124 ?_
  refine v_icmp_eq K 1181 dL_law_1127 (by decide) (fun _ => ?_) (fun q => absurd rfl q)
  refine v_widen (Nat.le_succ _) (Nat.le_add_right _ 6) ?_
  exact NXT _ _ _ hR
set_option maxHeartbeats 4000000 in
set_option maxRecDepth 100000 in
theorem lc_27 {X : Cx} {c : Nat → ClassId} {ad bd : Nat → Nat} {b L kc ks : Nat} {xv : Nat → Int32} {x3 : Int32} {Rel : GG → SS → SS → Prop} {G : GG} {s m : SS} (HS : AllSteps Rel) (hgok : ∀ G s m, Rel G s m → gok G) (hfg : ∀ G s, ∃ s2, CT_forget G s = some s2) (K : Ok X code RL 4 1000 c) (hX : va_X b L xv (xs X) (xs X).heap) (hbl : b < (xs X).heap.size) (hbA : ¬ xA X b) (h1 : vp_in (x3 + (1 : Int32)) L) (h2 : vp_in (x3 + (2 : Int32)) L) (h3 : vp_in (x3 + (3 : Int32)) L) (h4 : vp_in (x3 + (4 : Int32)) L) (h5 : vp_in (x3 + (5 : Int32)) L) (h6 : vp_in (x3 + (6 : Int32)) L) (hk : kc + 1 ≤ (xR X).cells ∧ ks + 6 ≤ (xR X).slots) (hRel : Rel G s m) (NXT : ∀ G s m, Rel G s m → V X 4 (kc + 1) (ks + 6) 1181 [(0, .ref b), (1, .ref (ad 0)), (2, .ref (bd 0)), (3, .int x3)] [] (wC ad c G s ++ wM bd c m)) : V X 4 kc ks 1132 [(0, .ref b), (1, .ref (ad 0)), (2, .ref (bd 0)), (3, .int x3)] [] (wC ad c G s ++ wM bd c m) := by
  obtain ⟨r, s1, m1, e1, e2, hR⟩ := HS.2.2.2.2.2.2.2.2.2.2.2.2.2.2.2.2.2.2.2.2.2.2.2.2.2.2.2.1 G s m  hRel
  refine v_aload_n K 1 rfl dL_law_1132 ?_
  refine vLC_i K [] [] cw_RL_132 (cCT_trace (hgok _ _ _ hRel) e1) rfl rfl (Nat.le_of_ble_eq_true rfl) (by decide) ⟨Nat.le_trans (Nat.le_succ _) hk.1, Nat.le_trans (Nat.le_add_right _ 6) hk.2⟩ dL_law_1133 ?_
  refine v_aload_n K 2 rfl dL_law_1136 ?_
  refine vLM_i K [] [.int r] cw_RL_135 (cM_trace e2) rfl rfl (Nat.le_of_ble_eq_true rfl) (by decide) ⟨Nat.le_trans (Nat.le_succ _) hk.1, Nat.le_trans (Nat.le_add_right _ 6) hk.2⟩ dL_law_1137 ?_
  refine v_icmp_eq K 1181 dL_law_1140 (by decide) (fun _ => ?_) (fun q => absurd rfl q)
  refine v_widen (Nat.le_succ _) (Nat.le_add_right _ 6) ?_
  exact NXT _ _ _ hR
set_option maxHeartbeats 4000000 in
set_option maxRecDepth 100000 in
theorem lc_28 {X : Cx} {c : Nat → ClassId} {ad bd : Nat → Nat} {b L kc ks : Nat} {xv : Nat → Int32} {x3 : Int32} {Rel : GG → SS → SS → Prop} {G : GG} {s m : SS} (HS : AllSteps Rel) (hgok : ∀ G s m, Rel G s m → gok G) (hfg : ∀ G s, ∃ s2, CT_forget G s = some s2) (K : Ok X code RL 4 1000 c) (hX : va_X b L xv (xs X) (xs X).heap) (hbl : b < (xs X).heap.size) (hbA : ¬ xA X b) (h1 : vp_in (x3 + (1 : Int32)) L) (h2 : vp_in (x3 + (2 : Int32)) L) (h3 : vp_in (x3 + (3 : Int32)) L) (h4 : vp_in (x3 + (4 : Int32)) L) (h5 : vp_in (x3 + (5 : Int32)) L) (h6 : vp_in (x3 + (6 : Int32)) L) (hk : kc + 1 ≤ (xR X).cells ∧ ks + 6 ≤ (xR X).slots) (hRel : Rel G s m) (NXT : ∀ G s m, Rel G s m → V X 4 (kc + 1) (ks + 6) 1181 [(0, .ref b), (1, .ref (ad 0)), (2, .ref (bd 0)), (3, .int x3)] [] (wC ad c G s ++ wM bd c m)) : V X 4 kc ks 1145 [(0, .ref b), (1, .ref (ad 0)), (2, .ref (bd 0)), (3, .int x3)] [] (wC ad c G s ++ wM bd c m) := by
  obtain ⟨r, s1, m1, e1, e2, hR⟩ := HS.2.2.2.2.2.2.2.2.2.2.2.2.2.2.2.2.2.2.2.2.2.2.2.2.2.2.2.2.1 G s m  hRel
  refine v_aload_n K 1 rfl dL_law_1145 ?_
  refine vLC_i K [] [] cw_RL_136 (cCT_fault (hgok _ _ _ hRel) e1) rfl rfl (Nat.le_of_ble_eq_true rfl) (by decide) ⟨Nat.le_trans (Nat.le_succ _) hk.1, Nat.le_trans (Nat.le_add_right _ 6) hk.2⟩ dL_law_1146 ?_
  refine v_aload_n K 2 rfl dL_law_1149 ?_
  refine vLM_i K [] [.int r] cw_RL_139 (cM_fault e2) rfl rfl (Nat.le_of_ble_eq_true rfl) (by decide) ⟨Nat.le_trans (Nat.le_succ _) hk.1, Nat.le_trans (Nat.le_add_right _ 6) hk.2⟩ dL_law_1150 ?_
  refine v_icmp_eq K 1181 dL_law_1153 (by decide) (fun _ => ?_) (fun q => absurd rfl q)
  refine v_widen (Nat.le_succ _) (Nat.le_add_right _ 6) ?_
  exact NXT _ _ _ hR
set_option maxHeartbeats 4000000 in
set_option maxRecDepth 100000 in
theorem lc_29 {X : Cx} {c : Nat → ClassId} {ad bd : Nat → Nat} {b L kc ks : Nat} {xv : Nat → Int32} {x3 : Int32} {Rel : GG → SS → SS → Prop} {G : GG} {s m : SS} (HS : AllSteps Rel) (hgok : ∀ G s m, Rel G s m → gok G) (hfg : ∀ G s, ∃ s2, CT_forget G s = some s2) (K : Ok X code RL 4 1000 c) (hX : va_X b L xv (xs X) (xs X).heap) (hbl : b < (xs X).heap.size) (hbA : ¬ xA X b) (h1 : vp_in (x3 + (1 : Int32)) L) (h2 : vp_in (x3 + (2 : Int32)) L) (h3 : vp_in (x3 + (3 : Int32)) L) (h4 : vp_in (x3 + (4 : Int32)) L) (h5 : vp_in (x3 + (5 : Int32)) L) (h6 : vp_in (x3 + (6 : Int32)) L) (hk : kc + 1 ≤ (xR X).cells ∧ ks + 6 ≤ (xR X).slots) (hRel : Rel G s m) (NXT : ∀ G s m, Rel G s m → V X 4 (kc + 1) (ks + 6) 1181 [(0, .ref b), (1, .ref (ad 0)), (2, .ref (bd 0)), (3, .int x3)] [] (wC ad c G s ++ wM bd c m)) : V X 4 kc ks 1158 [(0, .ref b), (1, .ref (ad 0)), (2, .ref (bd 0)), (3, .int x3)] [] (wC ad c G s ++ wM bd c m) := by
  obtain ⟨r, s1, m1, e1, e2, hR⟩ := HS.2.2.2.2.2.2.2.2.2.2.2.2.2.2.2.2.2.2.2.2.2.2.2.2.2.2.2.2.2 G s m (xv (x3 + (1 : Int32)).toNatClampNeg) hRel
  refine v_aload_n K 1 rfl dL_law_1158 ?_
  refine v_aload_n K 0 rfl dL_law_1159 ?_
  refine v_iload_n K 3 rfl dL_law_1160 ?_
  refine v_iconst (v := (1 : Int32)) K dL_law_1161 (by decide) ?_
  refine v_iadd K dL_law_1162 ?_
  refine v_sld K hX hbl hbA h1 dL_law_1163 ?_
  refine vLC_i K [.int (xv (x3 + (1 : Int32)).toNatClampNeg)] [] cw_RL_140 (cCT_many (hgok _ _ _ hRel) e1) rfl rfl (Nat.le_of_ble_eq_true rfl) (by decide) ⟨Nat.le_trans (Nat.le_succ _) hk.1, Nat.le_trans (Nat.le_add_right _ 6) hk.2⟩ dL_law_1164 ?_
  refine v_aload_n K 2 rfl dL_law_1167 ?_
  refine v_aload_n K 0 rfl dL_law_1168 ?_
  refine v_iload_n K 3 rfl dL_law_1169 ?_
  refine v_iconst (v := (1 : Int32)) K dL_law_1170 (by decide) ?_
  refine v_iadd K dL_law_1171 ?_
  refine v_sld K hX hbl hbA h1 dL_law_1172 ?_
  refine vLM_i K [.int (xv (x3 + (1 : Int32)).toNatClampNeg)] [.int r] cw_RL_143 (cM_many e2) rfl rfl (Nat.le_of_ble_eq_true rfl) (by decide) ⟨Nat.le_trans (Nat.le_succ _) hk.1, Nat.le_trans (Nat.le_add_right _ 6) hk.2⟩ dL_law_1173 ?_
  refine v_icmp_eq K 1181 dL_law_1176 (by decide) (fun _ => ?_) (fun q => absurd rfl q)
  refine v_widen (Nat.le_succ _) (Nat.le_add_right _ 6) ?_
  exact NXT _ _ _ hR
