set_option maxHeartbeats 4000000 in
set_option maxRecDepth 100000 in
theorem wCT_choices_5 {X : Cx} {c : Nat → ClassId} (K : Ok X cX9_choices RX9 5 0 c) {r : Int64} (RT : ∀ pc ls, decode cX9_choices pc = .ok (.lreturn, 1) → V X 5 0 0 pc ls [.long r] []) : ∀ (n : Nat) (x0 : Int32) (x1 : Int32) (x2 : Int64) (x4 : Int32), CT_choices_5 n x0 x1 x2 x4 = some r → V X 5 0 0 5 [(0, .int x0), (1, .int x1), (2, .long x2), (4, .int x4)] [] [] := by
  intro n
  induction n with
  | zero => intro _ _ _ _ h; cases h
  | succ n ih =>
    intro x0 x1 x2 x4 h
    rw [CT_choices_5] at h
    refine v_iload K 3 rfl dX9_choices_5 ?_
    refine v_iload_n K 1 rfl dX9_choices_7 ?_
    refine v_icmp_gt K 31 dX9_choices_8 (by decide) (fun q1 => ?_) (fun q1 => ?_)
    · replace h := if_e h q1
      refine v_lload_n K 2 rfl dX9_choices_31 ?_
      obtain rfl := Option.some.inj h
      exact RT _ _ dX9_choices_32
    · replace h := if_n h q1
      refine v_lload_n K 2 rfl dX9_choices_11 ?_
      refine v_iload_n K 0 rfl dX9_choices_12 ?_
      refine v_iload K 3 rfl dX9_choices_13 ?_
      refine v_isub K dX9_choices_15 ?_
      refine v_iconst (v := (1 : Int32)) K dX9_choices_16 (by decide) ?_
      refine v_iadd K dX9_choices_17 ?_
      refine v_i2l K dX9_choices_18 ?_
      refine v_lmul K dX9_choices_19 ?_
      refine v_iload K 3 rfl dX9_choices_20 ?_
      refine v_i2l K dX9_choices_22 ?_
      obtain ⟨b2, h⟩ := ob_e h
      refine v_ldiv K dX9_choices_23 b2 ?_
      refine v_lstore_n K [(0, .int x0), (1, .int x1), (2, .long ((x2 * (((x0 - x4) + (1 : Int32))).toInt64) / (x4).toInt64)), (4, .int x4)] [1, 2, 0, 3] dX9_choices_24 rfl (by decide) rfl ?_
      refine v_iinc (v := (x4 + (1 : Int32))) K 3 [(0, .int x0), (1, .int x1), (2, .long ((x2 * (((x0 - x4) + (1 : Int32))).toInt64) / (x4).toInt64)), (4, .int (x4 + (1 : Int32)))] [1, 2, 3, 0] dX9_choices_25 rfl rfl (by decide) rfl ?_
      refine v_goto K 5 dX9_choices_28 (by decide) ?_
      exact ih _ _ _ _ h
set_option maxHeartbeats 4000000 in
set_option maxRecDepth 100000 in
theorem wCT_choices {X : Cx} {c : Nat → ClassId} (K : Ok X cX9_choices RX9 5 0 c) {r : Int64} (RT : ∀ pc ls, decode cX9_choices pc = .ok (.lreturn, 1) → V X 5 0 0 pc ls [.long r] []) (x0 : Int32) (x1 : Int32) (h : CT_choices x0 x1 = some r) : V X 5 0 0 0 [(0, .int x0), (1, .int x1)] [] [] := by
  rw [CT_choices] at h
  refine v_lconst (v := (1 : Int64)) K dX9_choices_0 (by decide) ?_
  refine v_lstore_n K [(0, .int x0), (1, .int x1), (2, .long (1 : Int64))] [1, 2, 0] dX9_choices_1 rfl (by decide) rfl ?_
  refine v_iconst (v := (1 : Int32)) K dX9_choices_2 (by decide) ?_
  refine v_istore K [(0, .int x0), (1, .int x1), (2, .long (1 : Int64)), (4, .int (1 : Int32))] [1, 2, 3, 0] dX9_choices_3 (by decide) rfl ?_
  exact wCT_choices_5 K RT fuel _ _ _ _ h
theorem cCT_choices {l : Launch} {D : va_G} {c : Nat → ClassId} {x0 : Int32} {x1 : Int32} {r : Int64} (h : CT_choices x0 x1 = some r) : Cl l D c yX9_choices cX9_choices 5 (some .long) 0 [.int x0, .int x1] [] r [] := Cl.of (by decide) (Nat.le_of_ble_eq_true rfl) (fun X K RT => wCT_choices K RT x0 x1 h)
set_option maxHeartbeats 4000000 in
set_option maxRecDepth 100000 in
theorem wCT_commonDivisor_45 {X : Cx} {c : Nat → ClassId} (K : Ok X cX9_commonDivisor RX9 11 0 c) {r : Int64} (RT : ∀ pc ls, decode cX9_commonDivisor pc = .ok (.lreturn, 1) → V X 11 0 0 pc ls [.long r] []) : ∀ (x4 : Int64), CT_commonDivisor_45 x4 = some r → V X 11 0 0 45 [(4, .long x4)] [] [] := by
  intro x4 h
  rw [CT_commonDivisor_45] at h
  refine v_lload K 0 rfl dX9_commonDivisor_45 ?_
  obtain rfl := Option.some.inj h
  exact RT _ _ dX9_commonDivisor_47
set_option maxHeartbeats 4000000 in
set_option maxRecDepth 100000 in
theorem wCT_commonDivisor_9 {X : Cx} {c : Nat → ClassId} (K : Ok X cX9_commonDivisor RX9 11 0 c) {r : Int64} (RT : ∀ pc ls, decode cX9_commonDivisor pc = .ok (.lreturn, 1) → V X 11 0 0 pc ls [.long r] []) : ∀ (n : Nat) (x4 : Int64) (x6 : Int64) (x8 : Int32), CT_commonDivisor_9 n x4 x6 x8 = some r → V X 11 0 0 9 [(4, .long x4), (6, .long x6), (8, .int x8)] [] [] := by
  intro n
  induction n with
  | zero => intro _ _ _ h; cases h
  | succ n ih =>
    intro x4 x6 x8 h
    rw [CT_commonDivisor_9] at h
    refine v_iload K 2 rfl dX9_commonDivisor_9 ?_
    refine v_sipush (v := (200 : Int32)) K dX9_commonDivisor_11 (by decide) ?_
    refine v_icmp_ge K 45 dX9_commonDivisor_14 (by decide) (fun q1 => ?_) (fun q1 => ?_)
    · replace h := if_e h q1
      refine v_drop [(4, .long x4)] [0] rfl ?_
      exact wCT_commonDivisor_45 K RT _ h
    · replace h := if_n h q1
      refine v_lload K 1 rfl dX9_commonDivisor_17 ?_
      refine v_lconst (v := (0 : Int64)) K dX9_commonDivisor_19 (by decide) ?_
      refine v_lcmp K dX9_commonDivisor_20 ?_
      refine v_if_eq K 45 dX9_commonDivisor_21 (by decide) (fun q2 => ?_) (fun q2 => ?_)
      · replace h := if_e h q2
        refine v_drop [(4, .long x4)] [0] rfl ?_
        exact wCT_commonDivisor_45 K RT _ h
      · replace h := if_n h q2
        refine v_lload K 0 rfl dX9_commonDivisor_24 ?_
        refine v_lload K 1 rfl dX9_commonDivisor_26 ?_
        obtain ⟨b3, h⟩ := ob_e h
        refine v_lrem K dX9_commonDivisor_28 b3 ?_
        refine v_lstore K [(6, .long x6), (8, .int x8), (9, .long (x4 - x4 / x6 * x6))] [2, 3, 0] dX9_commonDivisor_29 (by decide) rfl ?_
        refine v_lload K 0 rfl dX9_commonDivisor_31 ?_
        refine v_lstore K [(4, .long x6), (8, .int x8), (9, .long (x4 - x4 / x6 * x6))] [0, 2, 3] dX9_commonDivisor_33 (by decide) rfl ?_
        refine v_lload K 2 rfl dX9_commonDivisor_35 ?_
        refine v_lstore K [(4, .long x6), (6, .long (x4 - x4 / x6 * x6)), (8, .int x8)] [1, 0, 2] dX9_commonDivisor_37 (by decide) rfl ?_
        refine v_iinc (v := (x8 + (1 : Int32))) K 2 [(4, .long x6), (6, .long (x4 - x4 / x6 * x6)), (8, .int (x8 + (1 : Int32)))] [1, 2, 0] dX9_commonDivisor_39 rfl rfl (by decide) rfl ?_
        refine v_goto K 9 dX9_commonDivisor_42 (by decide) ?_
        exact ih _ _ _ h
set_option maxHeartbeats 4000000 in
set_option maxRecDepth 100000 in
theorem wCT_commonDivisor {X : Cx} {c : Nat → ClassId} (K : Ok X cX9_commonDivisor RX9 11 0 c) {r : Int64} (RT : ∀ pc ls, decode cX9_commonDivisor pc = .ok (.lreturn, 1) → V X 11 0 0 pc ls [.long r] []) (x0 : Int64) (x2 : Int64) (h : CT_commonDivisor x0 x2 = some r) : V X 11 0 0 0 [(0, .long x0), (2, .long x2)] [] [] := by
  rw [CT_commonDivisor] at h
  refine v_lload_n K 0 rfl dX9_commonDivisor_0 ?_
  refine v_lstore K [(0, .long x0), (2, .long x2), (4, .long x0)] [1, 2, 0] dX9_commonDivisor_1 (by decide) rfl ?_
  refine v_lload_n K 1 rfl dX9_commonDivisor_3 ?_
  refine v_lstore K [(0, .long x0), (4, .long x0), (6, .long x2)] [1, 3, 0] dX9_commonDivisor_4 (by decide) rfl ?_
  refine v_iconst (v := (0 : Int32)) K dX9_commonDivisor_6 (by decide) ?_
  refine v_istore K [(0, .long x0), (4, .long x0), (6, .long x2), (8, .int (0 : Int32))] [1, 2, 3, 0] dX9_commonDivisor_7 (by decide) rfl ?_
  refine v_drop [(4, .long x0), (6, .long x2), (8, .int (0 : Int32))] [1, 2, 3] rfl ?_
  exact wCT_commonDivisor_9 K RT fuel _ _ _ h
theorem cCT_commonDivisor {l : Launch} {D : va_G} {c : Nat → ClassId} {x0 : Int64} {x2 : Int64} {r : Int64} (h : CT_commonDivisor x0 x2 = some r) : Cl l D c yX9_commonDivisor cX9_commonDivisor 11 (some .long) 0 [.long x0, .long x2] [] r [] := Cl.of (by decide) (Nat.le_of_ble_eq_true rfl) (fun X K RT => wCT_commonDivisor K RT x0 x2 h)
set_option maxHeartbeats 4000000 in
set_option maxRecDepth 100000 in
theorem wCT_failed {ad : Nat → Nat} {G : GG} {X : Cx} {c : Nat → ClassId} (hG : gok G) (K : Ok X cX9_failed RX9 2 0 c) {r : Int32 × SS} (RT : ∀ pc ls, decode cX9_failed pc = .ok (.ireturn, 1) → V X 2 0 0 pc ls [.int r.1] (wC ad c G r.2)) (s : SS) (x1 : Int32) (h : CT_failed G s x1 = some r) : V X 2 0 0 0 [(0, .ref (ad 0)), (1, .int x1)] [] (wC ad c G s) := by
  rw [CT_failed] at h
  refine v_aload_n K 0 rfl dX9_failed_0 ?_
  refine v_iload_n K 1 rfl dX9_failed_1 ?_
  refine pC_RX9_68 K dX9_failed_2 ?_
  refine v_bipush (v := (-10 : Int32)) K dX9_failed_5 (by decide) ?_
  refine v_iload_n K 1 rfl dX9_failed_7 ?_
  refine v_isub K dX9_failed_8 ?_
  obtain rfl := Option.some.inj h
  exact RT _ _ dX9_failed_9
theorem cCT_failed {l : Launch} {D : va_G} {c : Nat → ClassId} {s s' : SS} {ad : Nat → Nat} {G : GG} (hG : gok G)  {x1 : Int32} {r : Int32} (h : CT_failed G s x1 = some (r, s')) : Ci l D c yX9_failed cX9_failed 2 (some .int) 0 [.ref (ad 0), .int x1] (wC ad c G s) r (wC ad c G s') := Ci.of (by decide) (Nat.le_of_ble_eq_true rfl) (fun X K RT => wCT_failed hG K (r := (r, s')) RT s x1 h)
set_option maxHeartbeats 4000000 in
set_option maxRecDepth 100000 in
theorem wCT_fault {ad : Nat → Nat} {G : GG} {X : Cx} {c : Nat → ClassId} (hG : gok G) (K : Ok X cX9_fault RX9 1 0 c) {r : Int32 × SS} (RT : ∀ pc ls, decode cX9_fault pc = .ok (.ireturn, 1) → V X 1 0 0 pc ls [.int r.1] (wC ad c G r.2)) (s : SS) (h : CT_fault G s = some r) : V X 1 0 0 0 [(0, .ref (ad 0))] [] (wC ad c G s) := by
  rw [CT_fault] at h
  refine v_aload_n K 0 rfl dX9_fault_0 ?_
  refine gC_RX9_68 (v := (s 0 10)) K dX9_fault_1 rfl ?_
  obtain rfl := Option.some.inj h
  exact RT _ _ dX9_fault_4
theorem cCT_fault {l : Launch} {D : va_G} {c : Nat → ClassId} {s s' : SS} {ad : Nat → Nat} {G : GG} (hG : gok G)  {r : Int32} (h : CT_fault G s = some (r, s')) : Ci l D c yX9_fault cX9_fault 1 (some .int) 0 [.ref (ad 0)] (wC ad c G s) r (wC ad c G s') := Ci.of (by decide) (Nat.le_of_ble_eq_true rfl) (fun X K RT => wCT_fault hG K (r := (r, s')) RT s  h)
set_option maxHeartbeats 4000000 in
set_option maxRecDepth 100000 in
theorem wCT_forget {ad : Nat → Nat} {G : GG} {X : Cx} {c : Nat → ClassId} (hG : gok G) (K : Ok X cX9_forget RX9 1 0 c) {r : SS} (RT : ∀ pc ls, decode cX9_forget pc = .ok (.return_, 1) → V X 1 0 0 pc ls [] (wC ad c G r)) (s : SS) (h : CT_forget G s = some r) : V X 1 0 0 0 [(0, .ref (ad 0))] [] (wC ad c G s) := by
  rw [CT_forget] at h
  refine v_aload_n K 0 rfl dX9_forget_0 ?_
  refine v_iconst (v := (0 : Int32)) K dX9_forget_1 (by decide) ?_
  obtain ⟨b1, h⟩ := ob_e h
  refine pC_RX9_304 K b1 dX9_forget_2 ?_
  refine v_aload_n K 0 rfl dX9_forget_5 ?_
  refine v_iconst (v := (0 : Int32)) K dX9_forget_6 (by decide) ?_
  obtain ⟨b2, h⟩ := ob_e h
  refine pC_RX9_220 K b2 dX9_forget_7 ?_
  refine v_aload_n K 0 rfl dX9_forget_10 ?_
  refine v_iconst (v := (0 : Int32)) K dX9_forget_11 (by decide) ?_
  obtain ⟨b3, h⟩ := ob_e h
  refine pC_RX9_307 K b3 dX9_forget_12 ?_
  refine v_aload_n K 0 rfl dX9_forget_15 ?_
  refine v_iconst (v := (0 : Int32)) K dX9_forget_16 (by decide) ?_
  refine pC_RX9_239 K dX9_forget_17 ?_
  obtain rfl := Option.some.inj h
  exact RT _ _ dX9_forget_20
theorem cCT_forget {l : Launch} {D : va_G} {c : Nat → ClassId} {s s' : SS} {ad : Nat → Nat} {G : GG} (hG : gok G)  (h : CT_forget G s = some s') : Cv l D c yX9_forget cX9_forget 1 none 0 [.ref (ad 0)] (wC ad c G s) (wC ad c G s') := Cv.of (by decide) (Nat.le_of_ble_eq_true rfl) (fun X K RT => wCT_forget hG K RT s  h)
set_option maxHeartbeats 4000000 in
set_option maxRecDepth 100000 in
theorem wCT_isNoCafe_15 {ad : Nat → Nat} {G : GG} {X : Cx} {c : Nat → ClassId} (hG : gok G) (K : Ok X cX9_isNoCafe RX9 1 0 c) {r : Int32 × SS} (RT : nb r.1 = true → ∀ pc ls, decode cX9_isNoCafe pc = .ok (.ireturn, 1) → V X 1 0 0 pc ls [.int r.1] (wC ad c G r.2)) : ∀ (y0 : Int32) (s : SS), CT_isNoCafe_15 G y0 s = some r → V X 1 0 0 15 [] [.int y0] (wC ad c G s) := by
  intro y0 s h
  rw [CT_isNoCafe_15] at h
  obtain ⟨b2, h⟩ := ob_e h
  obtain rfl := Option.some.inj h
  exact RT b2 _ _ dX9_isNoCafe_15
set_option maxHeartbeats 4000000 in
set_option maxRecDepth 100000 in
theorem wCT_isNoCafe {ad : Nat → Nat} {G : GG} {X : Cx} {c : Nat → ClassId} (hG : gok G) (K : Ok X cX9_isNoCafe RX9 1 0 c) {r : Int32 × SS} (RT : nb r.1 = true → ∀ pc ls, decode cX9_isNoCafe pc = .ok (.ireturn, 1) → V X 1 0 0 pc ls [.int r.1] (wC ad c G r.2)) (s : SS) (h : CT_isNoCafe G s = some r) : V X 1 0 0 0 [(0, .ref (ad 0))] [] (wC ad c G s) := by
  rw [CT_isNoCafe] at h
  refine v_aload_n K 0 rfl dX9_isNoCafe_0 ?_
  refine gC_RX9_12 K dX9_isNoCafe_1 ?_
  refine gC_RX9_108 rfl (v := (s 1 2)) K dX9_isNoCafe_4 rfl ?_
  refine v_if_ne K 14 dX9_isNoCafe_7 (by decide) (fun q1 => ?_) (fun q1 => ?_)
  · replace h := if_n h q1
    refine v_iconst (v := (0 : Int32)) K dX9_isNoCafe_14 (by decide) ?_
    refine v_drop [] [] rfl ?_
    exact wCT_isNoCafe_15 hG K RT _ _ h
  · replace h := if_e h q1
    refine v_iconst (v := (1 : Int32)) K dX9_isNoCafe_10 (by decide) ?_
    refine v_goto K 15 dX9_isNoCafe_11 (by decide) ?_
    refine v_drop [] [] rfl ?_
    exact wCT_isNoCafe_15 hG K RT _ _ h
theorem cCT_isNoCafe {l : Launch} {D : va_G} {c : Nat → ClassId} {s s' : SS} {ad : Nat → Nat} {G : GG} (hG : gok G)  {r : Int32} (h : CT_isNoCafe G s = some (r, s')) : Ci l D c yX9_isNoCafe cX9_isNoCafe 1 (some .boolean) 0 [.ref (ad 0)] (wC ad c G s) r (wC ad c G s') := Ci.ofZ (by decide) (Nat.le_of_ble_eq_true rfl) (fun X K RT => wCT_isNoCafe hG K (r := (r, s')) RT s  h)
set_option maxHeartbeats 4000000 in
set_option maxRecDepth 100000 in
theorem wCT_isNoKind_14 {X : Cx} {c : Nat → ClassId} (K : Ok X cX9_isNoKind RX9 1 0 c) {r : Int32} (RT : nb r = true → ∀ pc ls, decode cX9_isNoKind pc = .ok (.ireturn, 1) → V X 1 0 0 pc ls [.int r] []) : ∀ (y0 : Int32), CT_isNoKind_14 y0 = some r → V X 1 0 0 14 [] [.int y0] [] := by
  intro y0 h
  rw [CT_isNoKind_14] at h
  obtain ⟨b3, h⟩ := ob_e h
  obtain rfl := Option.some.inj h
  exact RT b3 _ _ dX9_isNoKind_14
set_option maxHeartbeats 4000000 in
set_option maxRecDepth 100000 in
theorem wCT_isNoKind_9 {X : Cx} {c : Nat → ClassId} (K : Ok X cX9_isNoKind RX9 1 0 c) {r : Int32} (RT : nb r = true → ∀ pc ls, decode cX9_isNoKind pc = .ok (.ireturn, 1) → V X 1 0 0 pc ls [.int r] []) : CT_isNoKind_9 = some r → V X 1 0 0 9 [] [] [] := by
  intro  h
  rw [CT_isNoKind_9] at h
  refine v_iconst (v := (1 : Int32)) K dX9_isNoKind_9 (by decide) ?_
  refine v_goto K 14 dX9_isNoKind_10 (by decide) ?_
  exact wCT_isNoKind_14 K RT _ h
set_option maxHeartbeats 4000000 in
set_option maxRecDepth 100000 in
theorem wCT_isNoKind {X : Cx} {c : Nat → ClassId} (K : Ok X cX9_isNoKind RX9 1 0 c) {r : Int32} (RT : nb r = true → ∀ pc ls, decode cX9_isNoKind pc = .ok (.ireturn, 1) → V X 1 0 0 pc ls [.int r] []) (x0 : Int32) (h : CT_isNoKind x0 = some r) : V X 1 0 0 0 [(0, .int x0)] [] [] := by
  rw [CT_isNoKind] at h
  refine v_iload_n K 0 rfl dX9_isNoKind_0 ?_
  refine v_if_lt K 9 dX9_isNoKind_1 (by decide) (fun q1 => ?_) (fun q1 => ?_)
  · replace h := if_e h q1
    refine v_drop [] [] rfl ?_
    exact wCT_isNoKind_9 K RT  h
  · replace h := if_n h q1
    refine v_iload_n K 0 rfl dX9_isNoKind_4 ?_
    refine v_iconst (v := (2 : Int32)) K dX9_isNoKind_5 (by decide) ?_
    refine v_icmp_le K 13 dX9_isNoKind_6 (by decide) (fun q2 => ?_) (fun q2 => ?_)
    · replace h := if_e h q2
      refine v_iconst (v := (0 : Int32)) K dX9_isNoKind_13 (by decide) ?_
      refine v_drop [] [] rfl ?_
      exact wCT_isNoKind_14 K RT _ h
    · replace h := if_n h q2
      refine v_drop [] [] rfl ?_
      exact wCT_isNoKind_9 K RT  h
theorem cCT_isNoKind {l : Launch} {D : va_G} {c : Nat → ClassId} {x0 : Int32} {r : Int32} (h : CT_isNoKind x0 = some r) : Ci l D c yX9_isNoKind cX9_isNoKind 1 (some .boolean) 0 [.int x0] [] r [] := Ci.ofZ (by decide) (Nat.le_of_ble_eq_true rfl) (fun X K RT => wCT_isNoKind K RT x0 h)
set_option maxHeartbeats 4000000 in
set_option maxRecDepth 100000 in
theorem wCT_isNoSheet_14 {X : Cx} {c : Nat → ClassId} (K : Ok X cX9_isNoSheet RX9 1 0 c) {r : Int32} (RT : nb r = true → ∀ pc ls, decode cX9_isNoSheet pc = .ok (.ireturn, 1) → V X 1 0 0 pc ls [.int r] []) : ∀ (y0 : Int32), CT_isNoSheet_14 y0 = some r → V X 1 0 0 14 [] [.int y0] [] := by
  intro y0 h
  rw [CT_isNoSheet_14] at h
  obtain ⟨b3, h⟩ := ob_e h
  obtain rfl := Option.some.inj h
  exact RT b3 _ _ dX9_isNoSheet_14
set_option maxHeartbeats 4000000 in
set_option maxRecDepth 100000 in
theorem wCT_isNoSheet_9 {X : Cx} {c : Nat → ClassId} (K : Ok X cX9_isNoSheet RX9 1 0 c) {r : Int32} (RT : nb r = true → ∀ pc ls, decode cX9_isNoSheet pc = .ok (.ireturn, 1) → V X 1 0 0 pc ls [.int r] []) : CT_isNoSheet_9 = some r → V X 1 0 0 9 [] [] [] := by
  intro  h
  rw [CT_isNoSheet_9] at h
  refine v_iconst (v := (1 : Int32)) K dX9_isNoSheet_9 (by decide) ?_
  refine v_goto K 14 dX9_isNoSheet_10 (by decide) ?_
  exact wCT_isNoSheet_14 K RT _ h
set_option maxHeartbeats 4000000 in
set_option maxRecDepth 100000 in
theorem wCT_isNoSheet {X : Cx} {c : Nat → ClassId} (K : Ok X cX9_isNoSheet RX9 1 0 c) {r : Int32} (RT : nb r = true → ∀ pc ls, decode cX9_isNoSheet pc = .ok (.ireturn, 1) → V X 1 0 0 pc ls [.int r] []) (x0 : Int32) (h : CT_isNoSheet x0 = some r) : V X 1 0 0 0 [(0, .int x0)] [] [] := by
  rw [CT_isNoSheet] at h
  refine v_iload_n K 0 rfl dX9_isNoSheet_0 ?_
  refine v_if_lt K 9 dX9_isNoSheet_1 (by decide) (fun q1 => ?_) (fun q1 => ?_)
  · replace h := if_e h q1
    refine v_drop [] [] rfl ?_
    exact wCT_isNoSheet_9 K RT  h
  · replace h := if_n h q1
    refine v_iload_n K 0 rfl dX9_isNoSheet_4 ?_
    refine v_iconst (v := (4 : Int32)) K dX9_isNoSheet_5 (by decide) ?_
    refine v_icmp_lt K 13 dX9_isNoSheet_6 (by decide) (fun q2 => ?_) (fun q2 => ?_)
    · replace h := if_e h q2
      refine v_iconst (v := (0 : Int32)) K dX9_isNoSheet_13 (by decide) ?_
      refine v_drop [] [] rfl ?_
      exact wCT_isNoSheet_14 K RT _ h
    · replace h := if_n h q2
      refine v_drop [] [] rfl ?_
      exact wCT_isNoSheet_9 K RT  h
theorem cCT_isNoSheet {l : Launch} {D : va_G} {c : Nat → ClassId} {x0 : Int32} {r : Int32} (h : CT_isNoSheet x0 = some r) : Ci l D c yX9_isNoSheet cX9_isNoSheet 1 (some .boolean) 0 [.int x0] [] r [] := Ci.ofZ (by decide) (Nat.le_of_ble_eq_true rfl) (fun X K RT => wCT_isNoSheet K RT x0 h)
set_option maxHeartbeats 4000000 in
set_option maxRecDepth 100000 in
theorem wCT_isNoSort_14 {X : Cx} {c : Nat → ClassId} (K : Ok X cX9_isNoSort RX9 1 0 c) {r : Int32} (RT : nb r = true → ∀ pc ls, decode cX9_isNoSort pc = .ok (.ireturn, 1) → V X 1 0 0 pc ls [.int r] []) : ∀ (y0 : Int32), CT_isNoSort_14 y0 = some r → V X 1 0 0 14 [] [.int y0] [] := by
  intro y0 h
  rw [CT_isNoSort_14] at h
  obtain ⟨b3, h⟩ := ob_e h
  obtain rfl := Option.some.inj h
  exact RT b3 _ _ dX9_isNoSort_14
set_option maxHeartbeats 4000000 in
set_option maxRecDepth 100000 in
theorem wCT_isNoSort_9 {X : Cx} {c : Nat → ClassId} (K : Ok X cX9_isNoSort RX9 1 0 c) {r : Int32} (RT : nb r = true → ∀ pc ls, decode cX9_isNoSort pc = .ok (.ireturn, 1) → V X 1 0 0 pc ls [.int r] []) : CT_isNoSort_9 = some r → V X 1 0 0 9 [] [] [] := by
  intro  h
  rw [CT_isNoSort_9] at h
  refine v_iconst (v := (1 : Int32)) K dX9_isNoSort_9 (by decide) ?_
  refine v_goto K 14 dX9_isNoSort_10 (by decide) ?_
  exact wCT_isNoSort_14 K RT _ h
set_option maxHeartbeats 4000000 in
set_option maxRecDepth 100000 in
theorem wCT_isNoSort {X : Cx} {c : Nat → ClassId} (K : Ok X cX9_isNoSort RX9 1 0 c) {r : Int32} (RT : nb r = true → ∀ pc ls, decode cX9_isNoSort pc = .ok (.ireturn, 1) → V X 1 0 0 pc ls [.int r] []) (x0 : Int32) (h : CT_isNoSort x0 = some r) : V X 1 0 0 0 [(0, .int x0)] [] [] := by
  rw [CT_isNoSort] at h
  refine v_iload_n K 0 rfl dX9_isNoSort_0 ?_
  refine v_if_lt K 9 dX9_isNoSort_1 (by decide) (fun q1 => ?_) (fun q1 => ?_)
  · replace h := if_e h q1
    refine v_drop [] [] rfl ?_
    exact wCT_isNoSort_9 K RT  h
  · replace h := if_n h q1
    refine v_iload_n K 0 rfl dX9_isNoSort_4 ?_
    refine v_iconst (v := (2 : Int32)) K dX9_isNoSort_5 (by decide) ?_
    refine v_icmp_le K 13 dX9_isNoSort_6 (by decide) (fun q2 => ?_) (fun q2 => ?_)
    · replace h := if_e h q2
      refine v_iconst (v := (0 : Int32)) K dX9_isNoSort_13 (by decide) ?_
      refine v_drop [] [] rfl ?_
      exact wCT_isNoSort_14 K RT _ h
    · replace h := if_n h q2
      refine v_drop [] [] rfl ?_
      exact wCT_isNoSort_9 K RT  h
theorem cCT_isNoSort {l : Launch} {D : va_G} {c : Nat → ClassId} {x0 : Int32} {r : Int32} (h : CT_isNoSort x0 = some r) : Ci l D c yX9_isNoSort cX9_isNoSort 1 (some .boolean) 0 [.int x0] [] r [] := Ci.ofZ (by decide) (Nat.le_of_ble_eq_true rfl) (fun X K RT => wCT_isNoSort K RT x0 h)
set_option maxHeartbeats 4000000 in
set_option maxRecDepth 100000 in
theorem wCT_isNoTaking_45 {X : Cx} {c : Nat → ClassId} (K : Ok X cX9_isNoTaking RX9 4 0 c) {r : Int32} (RT : nb r = true → ∀ pc ls, decode cX9_isNoTaking pc = .ok (.ireturn, 1) → V X 4 0 0 pc ls [.int r] []) : ∀ (y0 : Int32), CT_isNoTaking_45 y0 = some r → V X 4 0 0 45 [] [.int y0] [] := by
  intro y0 h
  rw [CT_isNoTaking_45] at h
  obtain ⟨b9, h⟩ := ob_e h
  obtain rfl := Option.some.inj h
  exact RT b9 _ _ dX9_isNoTaking_45
set_option maxHeartbeats 4000000 in
set_option maxRecDepth 100000 in
theorem wCT_isNoTaking_40 {X : Cx} {c : Nat → ClassId} (K : Ok X cX9_isNoTaking RX9 4 0 c) {r : Int32} (RT : nb r = true → ∀ pc ls, decode cX9_isNoTaking pc = .ok (.ireturn, 1) → V X 4 0 0 pc ls [.int r] []) : CT_isNoTaking_40 = some r → V X 4 0 0 40 [] [] [] := by
  intro  h
  rw [CT_isNoTaking_40] at h
  refine v_iconst (v := (1 : Int32)) K dX9_isNoTaking_40 (by decide) ?_
  refine v_goto K 45 dX9_isNoTaking_41 (by decide) ?_
  exact wCT_isNoTaking_45 K RT _ h
set_option maxHeartbeats 4000000 in
set_option maxRecDepth 100000 in
theorem wCT_isNoTaking {X : Cx} {c : Nat → ClassId} (K : Ok X cX9_isNoTaking RX9 4 0 c) {r : Int32} (RT : nb r = true → ∀ pc ls, decode cX9_isNoTaking pc = .ok (.ireturn, 1) → V X 4 0 0 pc ls [.int r] []) (x0 : Int32) (x1 : Int32) (x2 : Int32) (x3 : Int32) (h : CT_isNoTaking x0 x1 x2 x3 = some r) : V X 4 0 0 0 [(0, .int x0), (1, .int x1), (2, .int x2), (3, .int x3)] [] [] := by
  rw [CT_isNoTaking] at h
  refine v_iload_n K 0 rfl dX9_isNoTaking_0 ?_
  refine v_if_lt K 40 dX9_isNoTaking_1 (by decide) (fun q1 => ?_) (fun q1 => ?_)
  · replace h := if_e h q1
    refine v_drop [] [] rfl ?_
    exact wCT_isNoTaking_40 K RT  h
  · replace h := if_n h q1
    refine v_iload_n K 0 rfl dX9_isNoTaking_4 ?_
    refine v_bipush (v := (100 : Int32)) K dX9_isNoTaking_5 (by decide) ?_
    refine v_icmp_gt K 40 dX9_isNoTaking_7 (by decide) (fun q2 => ?_) (fun q2 => ?_)
    · replace h := if_e h q2
      refine v_drop [] [] rfl ?_
      exact wCT_isNoTaking_40 K RT  h
    · replace h := if_n h q2
      refine v_iload_n K 1 rfl dX9_isNoTaking_10 ?_
      refine v_if_lt K 40 dX9_isNoTaking_11 (by decide) (fun q3 => ?_) (fun q3 => ?_)
      · replace h := if_e h q3
        refine v_drop [] [] rfl ?_
        exact wCT_isNoTaking_40 K RT  h
      · replace h := if_n h q3
        refine v_iload_n K 1 rfl dX9_isNoTaking_14 ?_
        refine v_bipush (v := (8 : Int32)) K dX9_isNoTaking_15 (by decide) ?_
        refine v_icmp_gt K 40 dX9_isNoTaking_17 (by decide) (fun q4 => ?_) (fun q4 => ?_)
        · replace h := if_e h q4
          refine v_drop [] [] rfl ?_
          exact wCT_isNoTaking_40 K RT  h
        · replace h := if_n h q4
          refine v_iload_n K 2 rfl dX9_isNoTaking_20 ?_
          refine v_if_lt K 40 dX9_isNoTaking_21 (by decide) (fun q5 => ?_) (fun q5 => ?_)
          · replace h := if_e h q5
            refine v_drop [] [] rfl ?_
            exact wCT_isNoTaking_40 K RT  h
          · replace h := if_n h q5
            refine v_iload_n K 2 rfl dX9_isNoTaking_24 ?_
            refine v_bipush (v := (9 : Int32)) K dX9_isNoTaking_25 (by decide) ?_
            refine v_icmp_gt K 40 dX9_isNoTaking_27 (by decide) (fun q6 => ?_) (fun q6 => ?_)
            · replace h := if_e h q6
              refine v_drop [] [] rfl ?_
              exact wCT_isNoTaking_40 K RT  h
            · replace h := if_n h q6
              refine v_iload_n K 3 rfl dX9_isNoTaking_30 ?_
              refine v_if_lt K 40 dX9_isNoTaking_31 (by decide) (fun q7 => ?_) (fun q7 => ?_)
              · replace h := if_e h q7
                refine v_drop [] [] rfl ?_
                exact wCT_isNoTaking_40 K RT  h
              · replace h := if_n h q7
                refine v_iload_n K 3 rfl dX9_isNoTaking_34 ?_
                refine v_bipush (v := (9 : Int32)) K dX9_isNoTaking_35 (by decide) ?_
                refine v_icmp_le K 44 dX9_isNoTaking_37 (by decide) (fun q8 => ?_) (fun q8 => ?_)
                · replace h := if_e h q8
                  refine v_iconst (v := (0 : Int32)) K dX9_isNoTaking_44 (by decide) ?_
                  refine v_drop [] [] rfl ?_
                  exact wCT_isNoTaking_45 K RT _ h
                · replace h := if_n h q8
                  refine v_drop [] [] rfl ?_
                  exact wCT_isNoTaking_40 K RT  h
theorem cCT_isNoTaking {l : Launch} {D : va_G} {c : Nat → ClassId} {x0 : Int32} {x1 : Int32} {x2 : Int32} {x3 : Int32} {r : Int32} (h : CT_isNoTaking x0 x1 x2 x3 = some r) : Ci l D c yX9_isNoTaking cX9_isNoTaking 4 (some .boolean) 0 [.int x0, .int x1, .int x2, .int x3] [] r [] := Ci.ofZ (by decide) (Nat.le_of_ble_eq_true rfl) (fun X K RT => wCT_isNoTaking K RT x0 x1 x2 x3 h)
set_option maxHeartbeats 4000000 in
set_option maxRecDepth 100000 in
theorem wCT_keepBetterMix_39 {ad : Nat → Nat} {G : GG} {X : Cx} {c : Nat → ClassId} (hG : gok G) (K : Ok X cX9_keepBetterMix RX9 5 0 c) {r : SS} (RT : ∀ pc ls, decode cX9_keepBetterMix pc = .ok (.return_, 1) → V X 5 0 0 pc ls [] (wC ad c G r)) : ∀ (s : SS), CT_keepBetterMix_39 G s = some r → V X 5 0 0 39 [] [] (wC ad c G s) := by
  intro s h
  rw [CT_keepBetterMix_39] at h
  obtain rfl := Option.some.inj h
  exact RT _ _ dX9_keepBetterMix_39
set_option maxHeartbeats 4000000 in
set_option maxRecDepth 100000 in
theorem wCT_keepBetterMix {ad : Nat → Nat} {G : GG} {X : Cx} {c : Nat → ClassId} (hG : gok G) (K : Ok X cX9_keepBetterMix RX9 5 0 c) {r : SS} (RT : ∀ pc ls, decode cX9_keepBetterMix pc = .ok (.return_, 1) → V X 5 0 0 pc ls [] (wC ad c G r)) (s : SS) (x1 : Int32) (x2 : Int32) (x3 : Int32) (x4 : Int32) (h : CT_keepBetterMix G s x1 x2 x3 x4 = some r) : V X 5 0 0 0 [(0, .ref (ad 0)), (1, .int x1), (2, .int x2), (3, .int x3), (4, .int x4)] [] (wC ad c G s) := by
  rw [CT_keepBetterMix] at h
  refine v_iload_n K 1 rfl dX9_keepBetterMix_0 ?_
  refine v_aload_n K 0 rfl dX9_keepBetterMix_1 ?_
  refine gC_RX9_65 K dX9_keepBetterMix_2 ?_
  refine v_iconst (v := (0 : Int32)) K dX9_keepBetterMix_5 (by decide) ?_
  obtain ⟨b1, h⟩ := ob_e h
  refine lC (v := (s 44 (0 : Int32).toNatClampNeg)) K rfl b1 dX9_keepBetterMix_6 rfl ?_
  refine v_icmp_le K 39 dX9_keepBetterMix_7 (by decide) (fun q2 => ?_) (fun q2 => ?_)
  · replace h := if_e h q2
    refine v_drop [] [] rfl ?_
    exact wCT_keepBetterMix_39 hG K RT _ h
  · replace h := if_n h q2
    refine v_aload_n K 0 rfl dX9_keepBetterMix_10 ?_
    refine gC_RX9_65 K dX9_keepBetterMix_11 ?_
    refine v_iconst (v := (0 : Int32)) K dX9_keepBetterMix_14 (by decide) ?_
    refine v_iload_n K 1 rfl dX9_keepBetterMix_15 ?_
    obtain ⟨b3, h⟩ := ob_e h
    refine sC K rfl b3 dX9_keepBetterMix_16 ?_
    refine v_aload_n K 0 rfl dX9_keepBetterMix_17 ?_
    refine gC_RX9_65 K dX9_keepBetterMix_18 ?_
    refine v_iconst (v := (1 : Int32)) K dX9_keepBetterMix_21 (by decide) ?_
    refine v_iload_n K 2 rfl dX9_keepBetterMix_22 ?_
    obtain ⟨b4, h⟩ := ob_e h
    refine sC K rfl b4 dX9_keepBetterMix_23 ?_
    refine v_aload_n K 0 rfl dX9_keepBetterMix_24 ?_
    refine gC_RX9_65 K dX9_keepBetterMix_25 ?_
    refine v_iconst (v := (2 : Int32)) K dX9_keepBetterMix_28 (by decide) ?_
    refine v_iload_n K 3 rfl dX9_keepBetterMix_29 ?_
    obtain ⟨b5, h⟩ := ob_e h
    refine sC K rfl b5 dX9_keepBetterMix_30 ?_
    refine v_aload_n K 0 rfl dX9_keepBetterMix_31 ?_
    refine gC_RX9_65 K dX9_keepBetterMix_32 ?_
    refine v_iconst (v := (3 : Int32)) K dX9_keepBetterMix_35 (by decide) ?_
    refine v_iload K 4 rfl dX9_keepBetterMix_36 ?_
    obtain ⟨b6, h⟩ := ob_e h
    refine sC K rfl b6 dX9_keepBetterMix_38 ?_
    refine v_drop [] [] rfl ?_
    exact wCT_keepBetterMix_39 hG K RT _ h
theorem cCT_keepBetterMix {l : Launch} {D : va_G} {c : Nat → ClassId} {s s' : SS} {ad : Nat → Nat} {G : GG} (hG : gok G)  {x1 : Int32} {x2 : Int32} {x3 : Int32} {x4 : Int32} (h : CT_keepBetterMix G s x1 x2 x3 x4 = some s') : Cv l D c yX9_keepBetterMix cX9_keepBetterMix 5 none 0 [.ref (ad 0), .int x1, .int x2, .int x3, .int x4] (wC ad c G s) (wC ad c G s') := Cv.of (by decide) (Nat.le_of_ble_eq_true rfl) (fun X K RT => wCT_keepBetterMix hG K RT s x1 x2 x3 x4 h)
set_option maxHeartbeats 4000000 in
set_option maxRecDepth 100000 in
theorem wCT_lostBy {ad : Nat → Nat} {G : GG} {X : Cx} {c : Nat → ClassId} (hG : gok G) (K : Ok X cX9_lostBy RX9 2 0 c) {r : Int64 × SS} (RT : ∀ pc ls, decode cX9_lostBy pc = .ok (.lreturn, 1) → V X 2 0 0 pc ls [.long r.1] (wC ad c G r.2)) (s : SS) (x1 : Int32) (h : CT_lostBy G s x1 = some r) : V X 2 0 0 0 [(0, .ref (ad 0)), (1, .int x1)] [] (wC ad c G s) := by
  rw [CT_lostBy] at h
  refine v_aload_n K 0 rfl dX9_lostBy_0 ?_
  refine v_iload_n K 1 rfl dX9_lostBy_1 ?_
  refine pC_RX9_68 K dX9_lostBy_2 ?_
  refine v_ldc2 (v := (-9223372036854775808 : Int64)) K kC_212 dX9_lostBy_5 ?_
  obtain rfl := Option.some.inj h
  exact RT _ _ dX9_lostBy_8
theorem cCT_lostBy {l : Launch} {D : va_G} {c : Nat → ClassId} {s s' : SS} {ad : Nat → Nat} {G : GG} (hG : gok G)  {x1 : Int32} {r : Int64} (h : CT_lostBy G s x1 = some (r, s')) : Cl l D c yX9_lostBy cX9_lostBy 2 (some .long) 0 [.ref (ad 0), .int x1] (wC ad c G s) r (wC ad c G s') := Cl.of (by decide) (Nat.le_of_ble_eq_true rfl) (fun X K RT => wCT_lostBy hG K (r := (r, s')) RT s x1 h)
set_option maxHeartbeats 4000000 in
set_option maxRecDepth 100000 in
theorem wCT_ofTable_54 {ad : Nat → Nat} {G : GG} {X : Cx} {c : Nat → ClassId} (hG : gok G) (K : Ok X cX9_ofTable RX9 3 0 c) {r : Int32 × SS} (RT : ∀ pc ls, decode cX9_ofTable pc = .ok (.ireturn, 1) → V X 3 0 0 pc ls [.int r.1] (wC ad c G r.2)) : ∀ (y0 : Int32) (s : SS), CT_ofTable_54 G y0 s = some r → V X 3 0 0 54 [] [.int y0] (wC ad c G s) := by
  intro y0 s h
  rw [CT_ofTable_54] at h
  obtain rfl := Option.some.inj h
  exact RT _ _ dX9_ofTable_54
set_option maxHeartbeats 4000000 in
set_option maxRecDepth 100000 in
theorem wCT_ofTable_26 {ad : Nat → Nat} {G : GG} {X : Cx} {c : Nat → ClassId} (hG : gok G) (K : Ok X cX9_ofTable RX9 3 0 c) {r : Int32 × SS} (RT : ∀ pc ls, decode cX9_ofTable pc = .ok (.ireturn, 1) → V X 3 0 0 pc ls [.int r.1] (wC ad c G r.2)) : ∀ (s : SS), CT_ofTable_26 G s = some r → V X 3 0 0 26 [] [] (wC ad c G s) := by
  intro s h
  rw [CT_ofTable_26] at h
  refine v_bipush (v := (-2 : Int32)) K dX9_ofTable_26 (by decide) ?_
  obtain rfl := Option.some.inj h
  exact RT _ _ dX9_ofTable_28
set_option maxHeartbeats 4000000 in
set_option maxRecDepth 100000 in
theorem wCT_ofTable_15 {ad : Nat → Nat} {G : GG} {X : Cx} {c : Nat → ClassId} (hG : gok G) (K : Ok X cX9_ofTable RX9 3 0 c) {r : Int32 × SS} (RT : ∀ pc ls, decode cX9_ofTable pc = .ok (.ireturn, 1) → V X 3 0 0 pc ls [.int r.1] (wC ad c G r.2)) : ∀ (s : SS), CT_ofTable_15 G s = some r → V X 3 0 0 15 [] [] (wC ad c G s) := by
  intro s h
  rw [CT_ofTable_15] at h
  refine v_iconst (v := (-1 : Int32)) K dX9_ofTable_15 (by decide) ?_
  obtain rfl := Option.some.inj h
  exact RT _ _ dX9_ofTable_16
set_option maxHeartbeats 4000000 in
set_option maxRecDepth 100000 in
theorem wCT_ofTable {ad : Nat → Nat} {G : GG} {X : Cx} {c : Nat → ClassId} (hG : gok G) (K : Ok X cX9_ofTable RX9 3 0 c) {r : Int32 × SS} (RT : ∀ pc ls, decode cX9_ofTable pc = .ok (.ireturn, 1) → V X 3 0 0 pc ls [.int r.1] (wC ad c G r.2)) (s : SS) (x1 : Int32) (x2 : Int32) (h : CT_ofTable G s x1 x2 = some r) : V X 3 0 0 0 [(0, .ref (ad 0)), (1, .int x1), (2, .int x2)] [] (wC ad c G s) := by
  rw [CT_ofTable] at h
  refine v_iload_n K 1 rfl dX9_ofTable_0 ?_
  refine v_if_lt K 15 dX9_ofTable_1 (by decide) (fun q1 => ?_) (fun q1 => ?_)
  · replace h := if_e h q1
    refine v_drop [] [] rfl ?_
    exact wCT_ofTable_15 hG K RT _ h
  · replace h := if_n h q1
    refine v_iload_n K 1 rfl dX9_ofTable_4 ?_
    refine v_aload_n K 0 rfl dX9_ofTable_5 ?_
    refine gC_RX9_12 K dX9_ofTable_6 ?_
    refine gC_RX9_108 rfl (v := (s 1 2)) K dX9_ofTable_9 rfl ?_
    refine v_icmp_lt K 17 dX9_ofTable_12 (by decide) (fun q2 => ?_) (fun q2 => ?_)
    · replace h := if_e h q2
      refine v_iload_n K 2 rfl dX9_ofTable_17 ?_
      refine v_if_lt K 26 dX9_ofTable_18 (by decide) (fun q3 => ?_) (fun q3 => ?_)
      · replace h := if_e h q3
        refine v_drop [] [] rfl ?_
        exact wCT_ofTable_26 hG K RT _ h
      · replace h := if_n h q3
        refine v_iload_n K 2 rfl dX9_ofTable_21 ?_
        refine v_iconst (v := (1 : Int32)) K dX9_ofTable_22 (by decide) ?_
        refine v_icmp_le K 29 dX9_ofTable_23 (by decide) (fun q4 => ?_) (fun q4 => ?_)
        · replace h := if_e h q4
          refine v_iload_n K 2 rfl dX9_ofTable_29 ?_
          refine v_if_ne K 45 dX9_ofTable_30 (by decide) (fun q5 => ?_) (fun q5 => ?_)
          · replace h := if_n h q5
            refine v_aload_n K 0 rfl dX9_ofTable_45 ?_
            refine gC_RX9_12 K dX9_ofTable_46 ?_
            refine gC_RX9_114 rfl K dX9_ofTable_49 ?_
            refine v_iload_n K 1 rfl dX9_ofTable_52 ?_
            obtain ⟨b6, h⟩ := ob_e h
            refine lC (v := (s 3 x1.toNatClampNeg)) K (aH_2 rfl) b6 dX9_ofTable_53 rfl ?_
            refine v_drop [] [] rfl ?_
            exact wCT_ofTable_54 hG K RT _ _ h
          · replace h := if_e h q5
            refine v_aload_n K 0 rfl dX9_ofTable_33 ?_
            refine gC_RX9_12 K dX9_ofTable_34 ?_
            refine gC_RX9_111 rfl K dX9_ofTable_37 ?_
            refine v_iload_n K 1 rfl dX9_ofTable_40 ?_
            obtain ⟨b7, h⟩ := ob_e h
            refine lC (v := (s 2 x1.toNatClampNeg)) K (aH_1 rfl) b7 dX9_ofTable_41 rfl ?_
            refine v_goto K 54 dX9_ofTable_42 (by decide) ?_
            refine v_drop [] [] rfl ?_
            exact wCT_ofTable_54 hG K RT _ _ h
        · replace h := if_n h q4
          refine v_drop [] [] rfl ?_
          exact wCT_ofTable_26 hG K RT _ h
    · replace h := if_n h q2
      refine v_drop [] [] rfl ?_
      exact wCT_ofTable_15 hG K RT _ h
theorem cCT_ofTable {l : Launch} {D : va_G} {c : Nat → ClassId} {s s' : SS} {ad : Nat → Nat} {G : GG} (hG : gok G)  {x1 : Int32} {x2 : Int32} {r : Int32} (h : CT_ofTable G s x1 x2 = some (r, s')) : Ci l D c yX9_ofTable cX9_ofTable 3 (some .int) 0 [.ref (ad 0), .int x1, .int x2] (wC ad c G s) r (wC ad c G s') := Ci.of (by decide) (Nat.le_of_ble_eq_true rfl) (fun X K RT => wCT_ofTable hG K (r := (r, s')) RT s x1 x2 h)
set_option maxHeartbeats 4000000 in
set_option maxRecDepth 100000 in
theorem wCT_placeOf {X : Cx} {c : Nat → ClassId} (K : Ok X cX9_placeOf RX9 1 0 c) {r : Int32} (RT : ∀ pc ls, decode cX9_placeOf pc = .ok (.ireturn, 1) → V X 1 0 0 pc ls [.int r] []) (x0 : Int32) (h : CT_placeOf x0 = some r) : V X 1 0 0 0 [(0, .int x0)] [] [] := by
  rw [CT_placeOf] at h
  refine v_iload_n K 0 rfl dX9_placeOf_0 ?_
  by_cases q1 : x0 = (105 : Int32)
  · replace h := if_e h q1
    refine v_lookup (off := 39) K 40 dX9_placeOf_1 (by decide) (by rw [q1]; rfl) (by decide) ?_
    refine v_iconst (v := (2 : Int32)) K dX9_placeOf_40 (by decide) ?_
    obtain rfl := Option.some.inj h
    exact RT _ _ dX9_placeOf_41
  · replace h := if_n h q1
    by_cases q2 : x0 = (115 : Int32)
    · replace h := if_e h q2
      refine v_lookup (off := 35) K 36 dX9_placeOf_1 (by decide) (by rw [q2]; rfl) (by decide) ?_
      refine v_iconst (v := (0 : Int32)) K dX9_placeOf_36 (by decide) ?_
      obtain rfl := Option.some.inj h
      exact RT _ _ dX9_placeOf_37
    · replace h := if_n h q2
      by_cases q3 : x0 = (119 : Int32)
      · replace h := if_e h q3
        refine v_lookup (off := 37) K 38 dX9_placeOf_1 (by decide) (by rw [q3]; rfl) (by decide) ?_
        refine v_iconst (v := (1 : Int32)) K dX9_placeOf_38 (by decide) ?_
        obtain rfl := Option.some.inj h
        exact RT _ _ dX9_placeOf_39
      · replace h := if_n h q3
        refine v_lookup (off := 41) K 42 dX9_placeOf_1 (by decide) (by show Op.lookupswitch.offset [(105, 39), (115, 35), (119, 37)] 41 _ = _; rw [lv_osw q1 (show ((105 : Int32)).toInt = 105 from by decide), lv_osw q2 (show ((115 : Int32)).toInt = 115 from by decide), lv_osw q3 (show ((119 : Int32)).toInt = 119 from by decide)]; rfl) (by decide) ?_
        refine v_bipush (v := (-9 : Int32)) K dX9_placeOf_42 (by decide) ?_
        obtain rfl := Option.some.inj h
        exact RT _ _ dX9_placeOf_44
theorem cCT_placeOf {l : Launch} {D : va_G} {c : Nat → ClassId} {x0 : Int32} {r : Int32} (h : CT_placeOf x0 = some r) : Ci l D c yX9_placeOf cX9_placeOf 1 (some .int) 0 [.int x0] [] r [] := Ci.of (by decide) (Nat.le_of_ble_eq_true rfl) (fun X K RT => wCT_placeOf K RT x0 h)
set_option maxHeartbeats 4000000 in
set_option maxRecDepth 100000 in
theorem wCT_power_5 {X : Cx} {c : Nat → ClassId} (K : Ok X cX9_power RX9 6 0 c) {r : Int64} (RT : ∀ pc ls, decode cX9_power pc = .ok (.lreturn, 1) → V X 6 0 0 pc ls [.long r] []) : ∀ (n : Nat) (x0 : Int64) (x2 : Int32) (x3 : Int64) (x5 : Int32), CT_power_5 n x0 x2 x3 x5 = some r → V X 6 0 0 5 [(0, .long x0), (2, .int x2), (3, .long x3), (5, .int x5)] [] [] := by
  intro n
  induction n with
  | zero => intro _ _ _ _ h; cases h
  | succ n ih =>
    intro x0 x2 x3 x5 h
    rw [CT_power_5] at h
    refine v_iload K 3 rfl dX9_power_5 ?_
    refine v_iload_n K 1 rfl dX9_power_7 ?_
    refine v_icmp_ge K 21 dX9_power_8 (by decide) (fun q1 => ?_) (fun q1 => ?_)
    · replace h := if_e h q1
      refine v_lload_n K 2 rfl dX9_power_21 ?_
      obtain rfl := Option.some.inj h
      exact RT _ _ dX9_power_22
    · replace h := if_n h q1
      refine v_lload_n K 2 rfl dX9_power_11 ?_
      refine v_lload_n K 0 rfl dX9_power_12 ?_
      refine v_lmul K dX9_power_13 ?_
      refine v_lstore_n K [(0, .long x0), (2, .int x2), (3, .long (x3 * x0)), (5, .int x5)] [1, 2, 0, 3] dX9_power_14 rfl (by decide) rfl ?_
      refine v_iinc (v := (x5 + (1 : Int32))) K 3 [(0, .long x0), (2, .int x2), (3, .long (x3 * x0)), (5, .int (x5 + (1 : Int32)))] [1, 2, 3, 0] dX9_power_15 rfl rfl (by decide) rfl ?_
      refine v_goto K 5 dX9_power_18 (by decide) ?_
      exact ih _ _ _ _ h
set_option maxHeartbeats 4000000 in
set_option maxRecDepth 100000 in
theorem wCT_power {X : Cx} {c : Nat → ClassId} (K : Ok X cX9_power RX9 6 0 c) {r : Int64} (RT : ∀ pc ls, decode cX9_power pc = .ok (.lreturn, 1) → V X 6 0 0 pc ls [.long r] []) (x0 : Int64) (x2 : Int32) (h : CT_power x0 x2 = some r) : V X 6 0 0 0 [(0, .long x0), (2, .int x2)] [] [] := by
  rw [CT_power] at h
  refine v_lconst (v := (1 : Int64)) K dX9_power_0 (by decide) ?_
  refine v_lstore_n K [(0, .long x0), (2, .int x2), (3, .long (1 : Int64))] [1, 2, 0] dX9_power_1 rfl (by decide) rfl ?_
  refine v_iconst (v := (0 : Int32)) K dX9_power_2 (by decide) ?_
  refine v_istore K [(0, .long x0), (2, .int x2), (3, .long (1 : Int64)), (5, .int (0 : Int32))] [1, 2, 3, 0] dX9_power_3 (by decide) rfl ?_
  exact wCT_power_5 K RT fuel _ _ _ _ h
theorem cCT_power {l : Launch} {D : va_G} {c : Nat → ClassId} {x0 : Int64} {x2 : Int32} {r : Int64} (h : CT_power x0 x2 = some r) : Cl l D c yX9_power cX9_power 6 (some .long) 0 [.long x0, .int x2] [] r [] := Cl.of (by decide) (Nat.le_of_ble_eq_true rfl) (fun X K RT => wCT_power K RT x0 x2 h)
set_option maxHeartbeats 4000000 in
set_option maxRecDepth 100000 in
theorem wCT_trace {ad : Nat → Nat} {G : GG} {X : Cx} {c : Nat → ClassId} (hG : gok G) (K : Ok X cX9_trace RX9 1 0 c) {r : Int32 × SS} (RT : ∀ pc ls, decode cX9_trace pc = .ok (.ireturn, 1) → V X 1 0 0 pc ls [.int r.1] (wC ad c G r.2)) (s : SS) (h : CT_trace G s = some r) : V X 1 0 0 0 [(0, .ref (ad 0))] [] (wC ad c G s) := by
  rw [CT_trace] at h
  refine v_aload_n K 0 rfl dX9_trace_0 ?_
  refine gC_RX9_38 K dX9_trace_1 ?_
  refine gC_RX9_298 (v := (s 18 0)) K dX9_trace_4 rfl ?_
  obtain rfl := Option.some.inj h
  exact RT _ _ dX9_trace_7
theorem cCT_trace {l : Launch} {D : va_G} {c : Nat → ClassId} {s s' : SS} {ad : Nat → Nat} {G : GG} (hG : gok G)  {r : Int32} (h : CT_trace G s = some (r, s')) : Ci l D c yX9_trace cX9_trace 1 (some .int) 0 [.ref (ad 0)] (wC ad c G s) r (wC ad c G s') := Ci.of (by decide) (Nat.le_of_ble_eq_true rfl) (fun X K RT => wCT_trace hG K (r := (r, s')) RT s  h)
set_option maxHeartbeats 4000000 in
set_option maxRecDepth 100000 in
theorem wCD_getUp_30 {ad : Nat → Nat} {G : GG} {o : Nat} {X : Cx} {c : Nat → ClassId} (hG : gok G) (ho : isD o = true) (K : Ok X cX0_getUp RX0 3 0 c) {r : SS} (RT : ∀ pc ls, decode cX0_getUp pc = .ok (.return_, 1) → V X 3 0 0 pc ls [] (wC ad c G r)) {k2 : Int32 → Int32 → SS → Option SS} (hk2 : ∀ (x1 : Int32) (x2 : Int32) (s : SS), k2 x1 x2 s = some r → V X 3 0 0 2 [(0, .ref (ad o)), (1, .int x1), (2, .int x2)] [] (wC ad c G s)) : ∀ (x1 : Int32) (x2 : Int32) (s : SS), CD_getUp_30 G o k2 x1 x2 s = some r → V X 3 0 0 30 [(0, .ref (ad o)), (1, .int x1), (2, .int x2)] [] (wC ad c G s) := by
  intro x1 x2 s h
  rw [CD_getUp_30] at h
  refine v_iinc (v := (x2 + (1 : Int32))) K 2 [(0, .ref (ad o)), (1, .int x1), (2, .int (x2 + (1 : Int32)))] [1, 2, 0] dX0_getUp_30 rfl rfl (by decide) rfl ?_
  refine v_goto K 2 dX0_getUp_33 (by decide) ?_
  exact hk2 _ _ _ h
set_option maxHeartbeats 4000000 in
set_option maxRecDepth 100000 in
theorem wCD_getUp_2 {ad : Nat → Nat} {G : GG} {o : Nat} {X : Cx} {c : Nat → ClassId} (hG : gok G) (ho : isD o = true) (K : Ok X cX0_getUp RX0 3 0 c) {r : SS} (RT : ∀ pc ls, decode cX0_getUp pc = .ok (.return_, 1) → V X 3 0 0 pc ls [] (wC ad c G r)) : ∀ (n : Nat) (x1 : Int32) (x2 : Int32) (s : SS), CD_getUp_2 G o n x1 x2 s = some r → V X 3 0 0 2 [(0, .ref (ad o)), (1, .int x1), (2, .int x2)] [] (wC ad c G s) := by
  intro n
  induction n with
  | zero => intro _ _ _ h; cases h
  | succ n ih =>
    intro x1 x2 s h
    rw [CD_getUp_2] at h
    refine v_iload_n K 2 rfl dX0_getUp_2 ?_
    refine v_aload_n K 0 rfl dX0_getUp_3 ?_
    refine gC_RX0_33 ho (v := (s o 9)) K dX0_getUp_4 rfl ?_
    refine gC_RX0_97 (hou_ok (s o 9)) (v := (s (hou (s o 9)) 2)) K dX0_getUp_7 rfl ?_
    refine v_icmp_ge K 36 dX0_getUp_10 (by decide) (fun q1 => ?_) (fun q1 => ?_)
    · replace h := if_e h q1
      obtain rfl := Option.some.inj h
      exact RT _ _ dX0_getUp_36
    · replace h := if_n h q1
      refine v_aload_n K 0 rfl dX0_getUp_13 ?_
      refine gC_RX0_30 ho K dX0_getUp_14 ?_
      refine v_iload_n K 2 rfl dX0_getUp_17 ?_
      obtain ⟨b2, h⟩ := ob_e h
      refine lC (v := (s (o + 7) x2.toNatClampNeg)) K (aD_7 ho) b2 dX0_getUp_18 rfl ?_
      refine v_iload_n K 1 rfl dX0_getUp_19 ?_
      refine v_icmp_ne K 30 dX0_getUp_20 (by decide) (fun q3 => ?_) (fun q3 => ?_)
      · replace h := if_n h q3
        exact wCD_getUp_30 hG ho K RT (fun a0 a1 a2 e => ih a0 a1 a2 e) _ _ _ h
      · replace h := if_e h q3
        refine v_aload_n K 0 rfl dX0_getUp_23 ?_
        refine gC_RX0_30 ho K dX0_getUp_24 ?_
        refine v_iload_n K 2 rfl dX0_getUp_27 ?_
        refine v_iconst (v := (-1 : Int32)) K dX0_getUp_28 (by decide) ?_
        obtain ⟨b4, h⟩ := ob_e h
        refine sC K (aD_7 ho) b4 dX0_getUp_29 ?_
        exact wCD_getUp_30 hG ho K RT (fun a0 a1 a2 e => ih a0 a1 a2 e) _ _ _ h
set_option maxHeartbeats 4000000 in
set_option maxRecDepth 100000 in
theorem wCD_getUp {ad : Nat → Nat} {G : GG} {o : Nat} {X : Cx} {c : Nat → ClassId} (hG : gok G) (ho : isD o = true) (K : Ok X cX0_getUp RX0 3 0 c) {r : SS} (RT : ∀ pc ls, decode cX0_getUp pc = .ok (.return_, 1) → V X 3 0 0 pc ls [] (wC ad c G r)) (s : SS) (x1 : Int32) (h : CD_getUp G o s x1 = some r) : V X 3 0 0 0 [(0, .ref (ad o)), (1, .int x1)] [] (wC ad c G s) := by
  rw [CD_getUp] at h
  refine v_iconst (v := (0 : Int32)) K dX0_getUp_0 (by decide) ?_
  refine v_istore_n K [(0, .ref (ad o)), (1, .int x1), (2, .int (0 : Int32))] [1, 2, 0] dX0_getUp_1 rfl (by decide) rfl ?_
  exact wCD_getUp_2 hG ho K RT fuel _ _ _ h
theorem cCD_getUp {l : Launch} {D : va_G} {c : Nat → ClassId} {s s' : SS} {ad : Nat → Nat} {G : GG} {o : Nat} (hG : gok G) (ho : isD o = true)  {x1 : Int32} (h : CD_getUp G o s x1 = some s') : Cv l D c yX0_getUp cX0_getUp 3 none 0 [.ref (ad o), .int x1] (wC ad c G s) (wC ad c G s') := Cv.of (by decide) (Nat.le_of_ble_eq_true rfl) (fun X K RT => wCD_getUp hG ho K RT s x1 h)
set_option maxHeartbeats 4000000 in
set_option maxRecDepth 100000 in
theorem wCD_list_57 {ad : Nat → Nat} {G : GG} {o : Nat} {X : Cx} {c : Nat → ClassId} (hG : gok G) (ho : isD o = true) (K : Ok X cX0_list RX0 3 0 c) {r : SS} (RT : ∀ pc ls, decode cX0_list pc = .ok (.return_, 1) → V X 3 0 0 pc ls [] (wC ad c G r)) : ∀ (x1 : Int32) (x2 : Int32) (s : SS), CD_list_57 G o x1 x2 s = some r → V X 3 0 0 57 [(0, .ref (ad o)), (1, .int x1), (2, .int x2)] [] (wC ad c G s) := by
  intro x1 x2 s h
  rw [CD_list_57] at h
  refine v_aload_n K 0 rfl dX0_list_57 ?_
  refine gC_RX0_27 ho K dX0_list_58 ?_
  refine v_iload_n K 2 rfl dX0_list_61 ?_
  refine v_iload_n K 1 rfl dX0_list_62 ?_
  obtain ⟨b12, h⟩ := ob_e h
  refine sC K (aD_6 ho) b12 dX0_list_63 ?_
  refine v_aload_n K 0 rfl dX0_list_64 ?_
  refine v_dup K dX0_list_65 rfl ?_
  refine gC_RX0_86 ho (v := ((up2 s (o + 6) x2.toNatClampNeg x1) o 10)) K dX0_list_66 rfl ?_
  refine v_iconst (v := (1 : Int32)) K dX0_list_69 (by decide) ?_
  refine v_iadd K dX0_list_70 ?_
  refine pC_RX0_86 ho K dX0_list_71 ?_
  obtain rfl := Option.some.inj h
  exact RT _ _ dX0_list_74
set_option maxHeartbeats 4000000 in
set_option maxRecDepth 100000 in
theorem wCD_list_5 {ad : Nat → Nat} {G : GG} {o : Nat} {X : Cx} {c : Nat → ClassId} (hG : gok G) (ho : isD o = true) (K : Ok X cX0_list RX0 3 0 c) {r : SS} (RT : ∀ pc ls, decode cX0_list pc = .ok (.return_, 1) → V X 3 0 0 pc ls [] (wC ad c G r)) : ∀ (n : Nat) (x1 : Int32) (x2 : Int32) (s : SS), CD_list_5 G o n x1 x2 s = some r → V X 3 0 0 5 [(0, .ref (ad o)), (1, .int x1), (2, .int x2)] [] (wC ad c G s) := by
  intro n
  induction n with
  | zero => intro _ _ _ h; cases h
  | succ n ih =>
    intro x1 x2 s h
    rw [CD_list_5] at h
    refine v_iload_n K 2 rfl dX0_list_5 ?_
    refine v_if_le K 57 dX0_list_6 (by decide) (fun q1 => ?_) (fun q1 => ?_)
    · replace h := if_e h q1
      exact wCD_list_57 hG ho K RT _ _ _ h
    · replace h := if_n h q1
      refine v_aload_n K 0 rfl dX0_list_9 ?_
      refine gC_RX0_47 ho K dX0_list_10 ?_
      refine v_aload_n K 0 rfl dX0_list_13 ?_
      refine gC_RX0_27 ho K dX0_list_14 ?_
      refine v_iload_n K 2 rfl dX0_list_17 ?_
      refine v_iconst (v := (1 : Int32)) K dX0_list_18 (by decide) ?_
      refine v_isub K dX0_list_19 ?_
      obtain ⟨b2, h⟩ := ob_e h
      refine lC (v := (s (o + 6) (x2 - (1 : Int32)).toNatClampNeg)) K (aD_6 ho) b2 dX0_list_20 rfl ?_
      obtain ⟨b3, h⟩ := ob_e h
      obtain ⟨a4, e5, h⟩ := gld_e h
      refine qG K e5 b3 dX0_list_21 ?_
      refine gC_RX0_112 (hG _ _ e5) K dX0_list_22 ?_
      refine v_aload_n K 0 rfl dX0_list_25 ?_
      refine gC_RX0_47 ho K dX0_list_26 ?_
      refine v_iload_n K 1 rfl dX0_list_29 ?_
      obtain ⟨b6, h⟩ := ob_e h
      obtain ⟨a7, e8, h⟩ := gld_e h
      refine qG K e8 b6 dX0_list_30 ?_
      refine gC_RX0_112 (hG _ _ e8) K dX0_list_31 ?_
      refine v_icmp_le K 57 dX0_list_34 (by decide) (fun q9 => ?_) (fun q9 => ?_)
      · replace h := if_e h q9
        exact wCD_list_57 hG ho K RT _ _ _ h
      · replace h := if_n h q9
        refine v_aload_n K 0 rfl dX0_list_37 ?_
        refine gC_RX0_27 ho K dX0_list_38 ?_
        refine v_iload_n K 2 rfl dX0_list_41 ?_
        refine v_aload_n K 0 rfl dX0_list_42 ?_
        refine gC_RX0_27 ho K dX0_list_43 ?_
        refine v_iload_n K 2 rfl dX0_list_46 ?_
        refine v_iconst (v := (1 : Int32)) K dX0_list_47 (by decide) ?_
        refine v_isub K dX0_list_48 ?_
        obtain ⟨b10, h⟩ := ob_e h
        refine lC (v := (s (o + 6) (x2 - (1 : Int32)).toNatClampNeg)) K (aD_6 ho) b10 dX0_list_49 rfl ?_
        obtain ⟨b11, h⟩ := ob_e h
        refine sC K (aD_6 ho) b11 dX0_list_50 ?_
        refine v_iinc (v := (x2 + (-1 : Int32))) K 2 [(0, .ref (ad o)), (1, .int x1), (2, .int (x2 + (-1 : Int32)))] [1, 2, 0] dX0_list_51 rfl rfl (by decide) rfl ?_
        refine v_goto K 5 dX0_list_54 (by decide) ?_
        exact ih _ _ _ h
set_option maxHeartbeats 4000000 in
set_option maxRecDepth 100000 in
theorem wCD_list {ad : Nat → Nat} {G : GG} {o : Nat} {X : Cx} {c : Nat → ClassId} (hG : gok G) (ho : isD o = true) (K : Ok X cX0_list RX0 3 0 c) {r : SS} (RT : ∀ pc ls, decode cX0_list pc = .ok (.return_, 1) → V X 3 0 0 pc ls [] (wC ad c G r)) (s : SS) (x1 : Int32) (h : CD_list G o s x1 = some r) : V X 3 0 0 0 [(0, .ref (ad o)), (1, .int x1)] [] (wC ad c G s) := by
  rw [CD_list] at h
  refine v_aload_n K 0 rfl dX0_list_0 ?_
  refine gC_RX0_86 ho (v := (s o 10)) K dX0_list_1 rfl ?_
  refine v_istore_n K [(0, .ref (ad o)), (1, .int x1), (2, .int (s o 10))] [1, 2, 0] dX0_list_4 rfl (by decide) rfl ?_
  exact wCD_list_5 hG ho K RT fuel _ _ _ h
theorem cCD_list {l : Launch} {D : va_G} {c : Nat → ClassId} {s s' : SS} {ad : Nat → Nat} {G : GG} {o : Nat} (hG : gok G) (ho : isD o = true)  {x1 : Int32} (h : CD_list G o s x1 = some s') : Cv l D c yX0_list cX0_list 3 none 0 [.ref (ad o), .int x1] (wC ad c G s) (wC ad c G s') := Cv.of (by decide) (Nat.le_of_ble_eq_true rfl) (fun X K RT => wCD_list hG ho K RT s x1 h)
set_option maxHeartbeats 4000000 in
set_option maxRecDepth 100000 in
theorem wCD_oneTable_139 {ad : Nat → Nat} {G : GG} {o : Nat} {X : Cx} {c : Nat → ClassId} (hG : gok G) (ho : isD o = true) (K : Ok X cX0_oneTable RX0 8 0 c) {r : Int32 × SS} (RT : ∀ pc ls, decode cX0_oneTable pc = .ok (.ireturn, 1) → V X 8 0 0 pc ls [.int r.1] (wC ad c G r.2)) {k6 : Int32 → Int32 → Int32 → Int32 → SS → Option (Int32 × SS)} (hk6 : ∀ (x1 : Int32) (x2 : Int32) (x3 : Int32) (x4 : Int32) (s : SS), k6 x1 x2 x3 x4 s = some r → V X 8 0 0 6 [(0, .ref (ad o)), (1, .int x1), (2, .int x2), (3, .int x3), (4, .int x4)] [] (wC ad c G s)) : ∀ (x1 : Int32) (x2 : Int32) (x3 : Int32) (x4 : Int32) (s : SS), CD_oneTable_139 G o k6 x1 x2 x3 x4 s = some r → V X 8 0 0 139 [(0, .ref (ad o)), (1, .int x1), (2, .int x2), (3, .int x3), (4, .int x4)] [] (wC ad c G s) := by
  intro x1 x2 x3 x4 s h
  rw [CD_oneTable_139] at h
  refine v_iinc (v := (x4 + (1 : Int32))) K 4 [(0, .ref (ad o)), (1, .int x1), (2, .int x2), (3, .int x3), (4, .int (x4 + (1 : Int32)))] [1, 2, 3, 4, 0] dX0_oneTable_139 rfl rfl (by decide) rfl ?_
  refine v_goto K 6 dX0_oneTable_142 (by decide) ?_
  exact hk6 _ _ _ _ _ h
set_option maxHeartbeats 4000000 in
set_option maxRecDepth 100000 in
theorem wCD_oneTable_119 {ad : Nat → Nat} {G : GG} {o : Nat} {X : Cx} {c : Nat → ClassId} (hG : gok G) (ho : isD o = true) (K : Ok X cX0_oneTable RX0 8 0 c) {r : Int32 × SS} (RT : ∀ pc ls, decode cX0_oneTable pc = .ok (.ireturn, 1) → V X 8 0 0 pc ls [.int r.1] (wC ad c G r.2)) {k6 : Int32 → Int32 → Int32 → Int32 → SS → Option (Int32 × SS)} (hk6 : ∀ (x1 : Int32) (x2 : Int32) (x3 : Int32) (x4 : Int32) (s : SS), k6 x1 x2 x3 x4 s = some r → V X 8 0 0 6 [(0, .ref (ad o)), (1, .int x1), (2, .int x2), (3, .int x3), (4, .int x4)] [] (wC ad c G s)) : ∀ (y0 : Int32) (x1 : Int32) (x2 : Int32) (x3 : Int32) (x4 : Int32) (x5 : Int32) (x6 : Int32) (s : SS), CD_oneTable_119 G o k6 y0 x1 x2 x3 x4 x5 x6 s = some r → V X 8 0 0 119 [(0, .ref (ad o)), (1, .int x1), (2, .int x2), (3, .int x3), (4, .int x4), (5, .int x5), (6, .int x6)] [.int y0] (wC ad c G s) := by
  intro y0 x1 x2 x3 x4 x5 x6 s h
  rw [CD_oneTable_119] at h
  refine v_istore K [(0, .ref (ad o)), (1, .int x1), (2, .int x2), (3, .int x3), (4, .int x4), (5, .int x5), (6, .int x6), (7, .int y0)] [1, 2, 3, 4, 5, 6, 7, 0] dX0_oneTable_119 (by decide) rfl ?_
  refine v_iload K 5 rfl dX0_oneTable_121 ?_
  refine v_if_eq K 139 dX0_oneTable_123 (by decide) (fun q14 => ?_) (fun q14 => ?_)
  · replace h := if_e h q14
    refine v_drop [(0, .ref (ad o)), (1, .int x1), (2, .int x2), (3, .int x3), (4, .int x4)] [0, 1, 2, 3, 4] rfl ?_
    exact wCD_oneTable_139 hG ho K RT hk6 _ _ _ _ _ h
  · replace h := if_n h q14
    refine v_iload K 6 rfl dX0_oneTable_126 ?_
    refine v_if_eq K 139 dX0_oneTable_128 (by decide) (fun q15 => ?_) (fun q15 => ?_)
    · replace h := if_e h q15
      refine v_drop [(0, .ref (ad o)), (1, .int x1), (2, .int x2), (3, .int x3), (4, .int x4)] [0, 1, 2, 3, 4] rfl ?_
      exact wCD_oneTable_139 hG ho K RT hk6 _ _ _ _ _ h
    · replace h := if_n h q15
      refine v_iload K 7 rfl dX0_oneTable_131 ?_
      refine v_if_eq K 139 dX0_oneTable_133 (by decide) (fun q16 => ?_) (fun q16 => ?_)
      · replace h := if_e h q16
        refine v_drop [(0, .ref (ad o)), (1, .int x1), (2, .int x2), (3, .int x3), (4, .int x4)] [0, 1, 2, 3, 4] rfl ?_
        exact wCD_oneTable_139 hG ho K RT hk6 _ _ _ _ _ h
      · replace h := if_n h q16
        refine v_iload K 4 rfl dX0_oneTable_136 ?_
        refine v_istore_n K [(0, .ref (ad o)), (1, .int x1), (2, .int x2), (3, .int x4), (4, .int x4)] [1, 2, 3, 0, 4] dX0_oneTable_138 rfl (by decide) rfl ?_
        exact wCD_oneTable_139 hG ho K RT hk6 _ _ _ _ _ h
set_option maxHeartbeats 4000000 in
set_option maxRecDepth 100000 in
theorem wCD_oneTable_118 {ad : Nat → Nat} {G : GG} {o : Nat} {X : Cx} {c : Nat → ClassId} (hG : gok G) (ho : isD o = true) (K : Ok X cX0_oneTable RX0 8 0 c) {r : Int32 × SS} (RT : ∀ pc ls, decode cX0_oneTable pc = .ok (.ireturn, 1) → V X 8 0 0 pc ls [.int r.1] (wC ad c G r.2)) {k6 : Int32 → Int32 → Int32 → Int32 → SS → Option (Int32 × SS)} (hk6 : ∀ (x1 : Int32) (x2 : Int32) (x3 : Int32) (x4 : Int32) (s : SS), k6 x1 x2 x3 x4 s = some r → V X 8 0 0 6 [(0, .ref (ad o)), (1, .int x1), (2, .int x2), (3, .int x3), (4, .int x4)] [] (wC ad c G s)) : ∀ (x1 : Int32) (x2 : Int32) (x3 : Int32) (x4 : Int32) (x5 : Int32) (x6 : Int32) (s : SS), CD_oneTable_118 G o k6 x1 x2 x3 x4 x5 x6 s = some r → V X 8 0 0 118 [(0, .ref (ad o)), (1, .int x1), (2, .int x2), (3, .int x3), (4, .int x4), (5, .int x5), (6, .int x6)] [] (wC ad c G s) := by
  intro x1 x2 x3 x4 x5 x6 s h
  rw [CD_oneTable_118] at h
  refine v_iconst (v := (0 : Int32)) K dX0_oneTable_118 (by decide) ?_
  exact wCD_oneTable_119 hG ho K RT hk6 _ _ _ _ _ _ _ _ h
set_option maxHeartbeats 4000000 in
set_option maxRecDepth 100000 in
theorem wCD_oneTable_114 {ad : Nat → Nat} {G : GG} {o : Nat} {X : Cx} {c : Nat → ClassId} (hG : gok G) (ho : isD o = true) (K : Ok X cX0_oneTable RX0 8 0 c) {r : Int32 × SS} (RT : ∀ pc ls, decode cX0_oneTable pc = .ok (.ireturn, 1) → V X 8 0 0 pc ls [.int r.1] (wC ad c G r.2)) {k6 : Int32 → Int32 → Int32 → Int32 → SS → Option (Int32 × SS)} (hk6 : ∀ (x1 : Int32) (x2 : Int32) (x3 : Int32) (x4 : Int32) (s : SS), k6 x1 x2 x3 x4 s = some r → V X 8 0 0 6 [(0, .ref (ad o)), (1, .int x1), (2, .int x2), (3, .int x3), (4, .int x4)] [] (wC ad c G s)) : ∀ (x1 : Int32) (x2 : Int32) (x3 : Int32) (x4 : Int32) (x5 : Int32) (x6 : Int32) (s : SS), CD_oneTable_114 G o k6 x1 x2 x3 x4 x5 x6 s = some r → V X 8 0 0 114 [(0, .ref (ad o)), (1, .int x1), (2, .int x2), (3, .int x3), (4, .int x4), (5, .int x5), (6, .int x6)] [] (wC ad c G s) := by
  intro x1 x2 x3 x4 x5 x6 s h
  rw [CD_oneTable_114] at h
  refine v_iconst (v := (1 : Int32)) K dX0_oneTable_114 (by decide) ?_
  refine v_goto K 119 dX0_oneTable_115 (by decide) ?_
  exact wCD_oneTable_119 hG ho K RT hk6 _ _ _ _ _ _ _ _ h
set_option maxHeartbeats 4000000 in
set_option maxRecDepth 100000 in
theorem wCD_oneTable_74 {ad : Nat → Nat} {G : GG} {o : Nat} {X : Cx} {c : Nat → ClassId} (hG : gok G) (ho : isD o = true) (K : Ok X cX0_oneTable RX0 8 0 c) {r : Int32 × SS} (RT : ∀ pc ls, decode cX0_oneTable pc = .ok (.ireturn, 1) → V X 8 0 0 pc ls [.int r.1] (wC ad c G r.2)) {k6 : Int32 → Int32 → Int32 → Int32 → SS → Option (Int32 × SS)} (hk6 : ∀ (x1 : Int32) (x2 : Int32) (x3 : Int32) (x4 : Int32) (s : SS), k6 x1 x2 x3 x4 s = some r → V X 8 0 0 6 [(0, .ref (ad o)), (1, .int x1), (2, .int x2), (3, .int x3), (4, .int x4)] [] (wC ad c G s)) : ∀ (y0 : Int32) (x1 : Int32) (x2 : Int32) (x3 : Int32) (x4 : Int32) (x5 : Int32) (s : SS), CD_oneTable_74 G o k6 y0 x1 x2 x3 x4 x5 s = some r → V X 8 0 0 74 [(0, .ref (ad o)), (1, .int x1), (2, .int x2), (3, .int x3), (4, .int x4), (5, .int x5)] [.int y0] (wC ad c G s) := by
  intro y0 x1 x2 x3 x4 x5 s h
  rw [CD_oneTable_74] at h
  refine v_istore K [(0, .ref (ad o)), (1, .int x1), (2, .int x2), (3, .int x3), (4, .int x4), (5, .int x5), (6, .int y0)] [1, 2, 3, 4, 5, 6, 0] dX0_oneTable_74 (by decide) rfl ?_
  refine v_iload_n K 3 rfl dX0_oneTable_76 ?_
  refine v_bipush (v := (-9 : Int32)) K dX0_oneTable_77 (by decide) ?_
  refine v_icmp_eq K 114 dX0_oneTable_79 (by decide) (fun q9 => ?_) (fun q9 => ?_)
  · replace h := if_e h q9
    exact wCD_oneTable_114 hG ho K RT hk6 _ _ _ _ _ _ _ h
  · replace h := if_n h q9
    refine v_aload_n K 0 rfl dX0_oneTable_82 ?_
    refine gC_RX0_33 ho (v := (s o 9)) K dX0_oneTable_83 rfl ?_
    refine gC_RX0_147 (hou_ok (s o 9)) (v := (s (hou (s o 9)) 3)) K dX0_oneTable_86 rfl ?_
    refine v_if_eq K 118 dX0_oneTable_89 (by decide) (fun q10 => ?_) (fun q10 => ?_)
    · replace h := if_e h q10
      exact wCD_oneTable_118 hG ho K RT hk6 _ _ _ _ _ _ _ h
    · replace h := if_n h q10
      refine v_aload_n K 0 rfl dX0_oneTable_92 ?_
      refine gC_RX0_33 ho (v := (s o 9)) K dX0_oneTable_93 rfl ?_
      refine gC_RX0_166 (hou_ok (s o 9)) K dX0_oneTable_96 ?_
      refine v_iload K 4 rfl dX0_oneTable_99 ?_
      obtain ⟨b11, h⟩ := ob_e h
      refine lC (v := (s ((hou (s o 9)) + 2) x4.toNatClampNeg)) K (aH_2 (hou_ok (s o 9))) b11 dX0_oneTable_101 rfl ?_
      refine v_aload_n K 0 rfl dX0_oneTable_102 ?_
      refine gC_RX0_33 ho (v := (s o 9)) K dX0_oneTable_103 rfl ?_
      refine gC_RX0_166 (hou_ok (s o 9)) K dX0_oneTable_106 ?_
      refine v_iload_n K 3 rfl dX0_oneTable_109 ?_
      obtain ⟨b12, h⟩ := ob_e h
      refine lC (v := (s ((hou (s o 9)) + 2) x3.toNatClampNeg)) K (aH_2 (hou_ok (s o 9))) b12 dX0_oneTable_110 rfl ?_
      refine v_icmp_ge K 118 dX0_oneTable_111 (by decide) (fun q13 => ?_) (fun q13 => ?_)
      · replace h := if_e h q13
        exact wCD_oneTable_118 hG ho K RT hk6 _ _ _ _ _ _ _ h
      · replace h := if_n h q13
        exact wCD_oneTable_114 hG ho K RT hk6 _ _ _ _ _ _ _ h
set_option maxHeartbeats 4000000 in
set_option maxRecDepth 100000 in
theorem wCD_oneTable_69 {ad : Nat → Nat} {G : GG} {o : Nat} {X : Cx} {c : Nat → ClassId} (hG : gok G) (ho : isD o = true) (K : Ok X cX0_oneTable RX0 8 0 c) {r : Int32 × SS} (RT : ∀ pc ls, decode cX0_oneTable pc = .ok (.ireturn, 1) → V X 8 0 0 pc ls [.int r.1] (wC ad c G r.2)) {k6 : Int32 → Int32 → Int32 → Int32 → SS → Option (Int32 × SS)} (hk6 : ∀ (x1 : Int32) (x2 : Int32) (x3 : Int32) (x4 : Int32) (s : SS), k6 x1 x2 x3 x4 s = some r → V X 8 0 0 6 [(0, .ref (ad o)), (1, .int x1), (2, .int x2), (3, .int x3), (4, .int x4)] [] (wC ad c G s)) : ∀ (x1 : Int32) (x2 : Int32) (x3 : Int32) (x4 : Int32) (x5 : Int32) (s : SS), CD_oneTable_69 G o k6 x1 x2 x3 x4 x5 s = some r → V X 8 0 0 69 [(0, .ref (ad o)), (1, .int x1), (2, .int x2), (3, .int x3), (4, .int x4), (5, .int x5)] [] (wC ad c G s) := by
  intro x1 x2 x3 x4 x5 s h
  rw [CD_oneTable_69] at h
  refine v_iconst (v := (1 : Int32)) K dX0_oneTable_69 (by decide) ?_
  refine v_goto K 74 dX0_oneTable_70 (by decide) ?_
  exact wCD_oneTable_74 hG ho K RT hk6 _ _ _ _ _ _ _ h
set_option maxHeartbeats 4000000 in
set_option maxRecDepth 100000 in
theorem wCD_oneTable_48 {ad : Nat → Nat} {G : GG} {o : Nat} {X : Cx} {c : Nat → ClassId} (hG : gok G) (ho : isD o = true) (K : Ok X cX0_oneTable RX0 8 0 c) {r : Int32 × SS} (RT : ∀ pc ls, decode cX0_oneTable pc = .ok (.ireturn, 1) → V X 8 0 0 pc ls [.int r.1] (wC ad c G r.2)) {k6 : Int32 → Int32 → Int32 → Int32 → SS → Option (Int32 × SS)} (hk6 : ∀ (x1 : Int32) (x2 : Int32) (x3 : Int32) (x4 : Int32) (s : SS), k6 x1 x2 x3 x4 s = some r → V X 8 0 0 6 [(0, .ref (ad o)), (1, .int x1), (2, .int x2), (3, .int x3), (4, .int x4)] [] (wC ad c G s)) : ∀ (y0 : Int32) (x1 : Int32) (x2 : Int32) (x3 : Int32) (x4 : Int32) (s : SS), CD_oneTable_48 G o k6 y0 x1 x2 x3 x4 s = some r → V X 8 0 0 48 [(0, .ref (ad o)), (1, .int x1), (2, .int x2), (3, .int x3), (4, .int x4)] [.int y0] (wC ad c G s) := by
  intro y0 x1 x2 x3 x4 s h
  rw [CD_oneTable_48] at h
  refine v_istore K [(0, .ref (ad o)), (1, .int x1), (2, .int x2), (3, .int x3), (4, .int x4), (5, .int y0)] [1, 2, 3, 4, 5, 0] dX0_oneTable_48 (by decide) rfl ?_
  refine v_iload_n K 2 rfl dX0_oneTable_50 ?_
  refine v_iconst (v := (-1 : Int32)) K dX0_oneTable_51 (by decide) ?_
  refine v_icmp_eq K 69 dX0_oneTable_52 (by decide) (fun q6 => ?_) (fun q6 => ?_)
  · replace h := if_e h q6
    exact wCD_oneTable_69 hG ho K RT hk6 _ _ _ _ _ _ h
  · replace h := if_n h q6
    refine v_aload_n K 0 rfl dX0_oneTable_55 ?_
    refine gC_RX0_33 ho (v := (s o 9)) K dX0_oneTable_56 rfl ?_
    refine gC_RX0_124 (hou_ok (s o 9)) K dX0_oneTable_59 ?_
    refine v_iload K 4 rfl dX0_oneTable_62 ?_
    obtain ⟨b7, h⟩ := ob_e h
    refine lC (v := (s ((hou (s o 9)) + 1) x4.toNatClampNeg)) K (aH_1 (hou_ok (s o 9))) b7 dX0_oneTable_64 rfl ?_
    refine v_iload_n K 2 rfl dX0_oneTable_65 ?_
    refine v_icmp_ne K 73 dX0_oneTable_66 (by decide) (fun q8 => ?_) (fun q8 => ?_)
    · replace h := if_n h q8
      refine v_iconst (v := (0 : Int32)) K dX0_oneTable_73 (by decide) ?_
      exact wCD_oneTable_74 hG ho K RT hk6 _ _ _ _ _ _ _ h
    · replace h := if_e h q8
      exact wCD_oneTable_69 hG ho K RT hk6 _ _ _ _ _ _ h
set_option maxHeartbeats 4000000 in
set_option maxRecDepth 100000 in
theorem wCD_oneTable_47 {ad : Nat → Nat} {G : GG} {o : Nat} {X : Cx} {c : Nat → ClassId} (hG : gok G) (ho : isD o = true) (K : Ok X cX0_oneTable RX0 8 0 c) {r : Int32 × SS} (RT : ∀ pc ls, decode cX0_oneTable pc = .ok (.ireturn, 1) → V X 8 0 0 pc ls [.int r.1] (wC ad c G r.2)) {k6 : Int32 → Int32 → Int32 → Int32 → SS → Option (Int32 × SS)} (hk6 : ∀ (x1 : Int32) (x2 : Int32) (x3 : Int32) (x4 : Int32) (s : SS), k6 x1 x2 x3 x4 s = some r → V X 8 0 0 6 [(0, .ref (ad o)), (1, .int x1), (2, .int x2), (3, .int x3), (4, .int x4)] [] (wC ad c G s)) : ∀ (x1 : Int32) (x2 : Int32) (x3 : Int32) (x4 : Int32) (s : SS), CD_oneTable_47 G o k6 x1 x2 x3 x4 s = some r → V X 8 0 0 47 [(0, .ref (ad o)), (1, .int x1), (2, .int x2), (3, .int x3), (4, .int x4)] [] (wC ad c G s) := by
  intro x1 x2 x3 x4 s h
  rw [CD_oneTable_47] at h
  refine v_iconst (v := (0 : Int32)) K dX0_oneTable_47 (by decide) ?_
  exact wCD_oneTable_48 hG ho K RT hk6 _ _ _ _ _ _ h
set_option maxHeartbeats 4000000 in
set_option maxRecDepth 100000 in
theorem wCD_oneTable_6 {ad : Nat → Nat} {G : GG} {o : Nat} {X : Cx} {c : Nat → ClassId} (hG : gok G) (ho : isD o = true) (K : Ok X cX0_oneTable RX0 8 0 c) {r : Int32 × SS} (RT : ∀ pc ls, decode cX0_oneTable pc = .ok (.ireturn, 1) → V X 8 0 0 pc ls [.int r.1] (wC ad c G r.2)) : ∀ (n : Nat) (x1 : Int32) (x2 : Int32) (x3 : Int32) (x4 : Int32) (s : SS), CD_oneTable_6 G o n x1 x2 x3 x4 s = some r → V X 8 0 0 6 [(0, .ref (ad o)), (1, .int x1), (2, .int x2), (3, .int x3), (4, .int x4)] [] (wC ad c G s) := by
  intro n
  induction n with
  | zero => intro _ _ _ _ _ h; cases h
  | succ n ih =>
    intro x1 x2 x3 x4 s h
    rw [CD_oneTable_6] at h
    refine v_iload K 4 rfl dX0_oneTable_6 ?_
    refine v_aload_n K 0 rfl dX0_oneTable_8 ?_
    refine gC_RX0_33 ho (v := (s o 9)) K dX0_oneTable_9 rfl ?_
    refine gC_RX0_97 (hou_ok (s o 9)) (v := (s (hou (s o 9)) 2)) K dX0_oneTable_12 rfl ?_
    refine v_icmp_ge K 145 dX0_oneTable_15 (by decide) (fun q1 => ?_) (fun q1 => ?_)
    · replace h := if_e h q1
      refine v_iload_n K 3 rfl dX0_oneTable_145 ?_
      obtain rfl := Option.some.inj h
      exact RT _ _ dX0_oneTable_146
    · replace h := if_n h q1
      refine v_aload_n K 0 rfl dX0_oneTable_18 ?_
      refine gC_RX0_30 ho K dX0_oneTable_19 ?_
      refine v_iload K 4 rfl dX0_oneTable_22 ?_
      obtain ⟨b2, h⟩ := ob_e h
      refine lC (v := (s (o + 7) x4.toNatClampNeg)) K (aD_7 ho) b2 dX0_oneTable_24 rfl ?_
      refine v_iconst (v := (-1 : Int32)) K dX0_oneTable_25 (by decide) ?_
      refine v_icmp_ne K 47 dX0_oneTable_26 (by decide) (fun q3 => ?_) (fun q3 => ?_)
      · replace h := if_n h q3
        exact wCD_oneTable_47 hG ho K RT (fun a0 a1 a2 a3 a4 e => ih a0 a1 a2 a3 a4 e) _ _ _ _ _ h
      · replace h := if_e h q3
        refine v_aload_n K 0 rfl dX0_oneTable_29 ?_
        refine gC_RX0_33 ho (v := (s o 9)) K dX0_oneTable_30 rfl ?_
        refine gC_RX0_166 (hou_ok (s o 9)) K dX0_oneTable_33 ?_
        refine v_iload K 4 rfl dX0_oneTable_36 ?_
        obtain ⟨b4, h⟩ := ob_e h
        refine lC (v := (s ((hou (s o 9)) + 2) x4.toNatClampNeg)) K (aH_2 (hou_ok (s o 9))) b4 dX0_oneTable_38 rfl ?_
        refine v_iload_n K 1 rfl dX0_oneTable_39 ?_
        refine v_icmp_lt K 47 dX0_oneTable_40 (by decide) (fun q5 => ?_) (fun q5 => ?_)
        · replace h := if_e h q5
          exact wCD_oneTable_47 hG ho K RT (fun a0 a1 a2 a3 a4 e => ih a0 a1 a2 a3 a4 e) _ _ _ _ _ h
        · replace h := if_n h q5
          refine v_iconst (v := (1 : Int32)) K dX0_oneTable_43 (by decide) ?_
          refine v_goto K 48 dX0_oneTable_44 (by decide) ?_
          exact wCD_oneTable_48 hG ho K RT (fun a0 a1 a2 a3 a4 e => ih a0 a1 a2 a3 a4 e) _ _ _ _ _ _ h
set_option maxHeartbeats 4000000 in
set_option maxRecDepth 100000 in
theorem wCD_oneTable {ad : Nat → Nat} {G : GG} {o : Nat} {X : Cx} {c : Nat → ClassId} (hG : gok G) (ho : isD o = true) (K : Ok X cX0_oneTable RX0 8 0 c) {r : Int32 × SS} (RT : ∀ pc ls, decode cX0_oneTable pc = .ok (.ireturn, 1) → V X 8 0 0 pc ls [.int r.1] (wC ad c G r.2)) (s : SS) (x1 : Int32) (x2 : Int32) (h : CD_oneTable G o s x1 x2 = some r) : V X 8 0 0 0 [(0, .ref (ad o)), (1, .int x1), (2, .int x2)] [] (wC ad c G s) := by
  rw [CD_oneTable] at h
  refine v_bipush (v := (-9 : Int32)) K dX0_oneTable_0 (by decide) ?_
  refine v_istore_n K [(0, .ref (ad o)), (1, .int x1), (2, .int x2), (3, .int (-9 : Int32))] [1, 2, 3, 0] dX0_oneTable_2 rfl (by decide) rfl ?_
  refine v_iconst (v := (0 : Int32)) K dX0_oneTable_3 (by decide) ?_
  refine v_istore K [(0, .ref (ad o)), (1, .int x1), (2, .int x2), (3, .int (-9 : Int32)), (4, .int (0 : Int32))] [1, 2, 3, 4, 0] dX0_oneTable_4 (by decide) rfl ?_
  exact wCD_oneTable_6 hG ho K RT fuel _ _ _ _ _ h
theorem cCD_oneTable {l : Launch} {D : va_G} {c : Nat → ClassId} {s s' : SS} {ad : Nat → Nat} {G : GG} {o : Nat} (hG : gok G) (ho : isD o = true)  {x1 : Int32} {x2 : Int32} {r : Int32} (h : CD_oneTable G o s x1 x2 = some (r, s')) : Ci l D c yX0_oneTable cX0_oneTable 8 (some .int) 0 [.ref (ad o), .int x1, .int x2] (wC ad c G s) r (wC ad c G s') := Ci.of (by decide) (Nat.le_of_ble_eq_true rfl) (fun X K RT => wCD_oneTable hG ho K (r := (r, s')) RT s x1 x2 h)
set_option maxHeartbeats 4000000 in
set_option maxRecDepth 100000 in
theorem wCD_othersWaiting_40 {ad : Nat → Nat} {G : GG} {o : Nat} {X : Cx} {c : Nat → ClassId} (hG : gok G) (ho : isD o = true) (K : Ok X cX0_othersWaiting RX0 4 0 c) {r : Int32 × SS} (RT : ∀ pc ls, decode cX0_othersWaiting pc = .ok (.ireturn, 1) → V X 4 0 0 pc ls [.int r.1] (wC ad c G r.2)) {k4 : Int32 → Int32 → Int32 → SS → Option (Int32 × SS)} (hk4 : ∀ (x1 : Int32) (x2 : Int32) (x3 : Int32) (s : SS), k4 x1 x2 x3 s = some r → V X 4 0 0 4 [(0, .ref (ad o)), (1, .int x1), (2, .int x2), (3, .int x3)] [] (wC ad c G s)) : ∀ (x1 : Int32) (x2 : Int32) (x3 : Int32) (s : SS), CD_othersWaiting_40 G o k4 x1 x2 x3 s = some r → V X 4 0 0 40 [(0, .ref (ad o)), (1, .int x1), (2, .int x2), (3, .int x3)] [] (wC ad c G s) := by
  intro x1 x2 x3 s h
  rw [CD_othersWaiting_40] at h
  refine v_iinc (v := (x3 + (1 : Int32))) K 3 [(0, .ref (ad o)), (1, .int x1), (2, .int x2), (3, .int (x3 + (1 : Int32)))] [1, 2, 3, 0] dX0_othersWaiting_40 rfl rfl (by decide) rfl ?_
  refine v_goto K 4 dX0_othersWaiting_43 (by decide) ?_
  exact hk4 _ _ _ _ h
set_option maxHeartbeats 4000000 in
set_option maxRecDepth 100000 in
theorem wCD_othersWaiting_4 {ad : Nat → Nat} {G : GG} {o : Nat} {X : Cx} {c : Nat → ClassId} (hG : gok G) (ho : isD o = true) (K : Ok X cX0_othersWaiting RX0 4 0 c) {r : Int32 × SS} (RT : ∀ pc ls, decode cX0_othersWaiting pc = .ok (.ireturn, 1) → V X 4 0 0 pc ls [.int r.1] (wC ad c G r.2)) : ∀ (n : Nat) (x1 : Int32) (x2 : Int32) (x3 : Int32) (s : SS), CD_othersWaiting_4 G o n x1 x2 x3 s = some r → V X 4 0 0 4 [(0, .ref (ad o)), (1, .int x1), (2, .int x2), (3, .int x3)] [] (wC ad c G s) := by
  intro n
  induction n with
  | zero => intro _ _ _ _ h; cases h
  | succ n ih =>
    intro x1 x2 x3 s h
    rw [CD_othersWaiting_4] at h
    refine v_iload_n K 3 rfl dX0_othersWaiting_4 ?_
    refine v_aload_n K 0 rfl dX0_othersWaiting_5 ?_
    refine gC_RX0_86 ho (v := (s o 10)) K dX0_othersWaiting_6 rfl ?_
    refine v_icmp_ge K 46 dX0_othersWaiting_9 (by decide) (fun q1 => ?_) (fun q1 => ?_)
    · replace h := if_e h q1
      refine v_iload_n K 2 rfl dX0_othersWaiting_46 ?_
      obtain rfl := Option.some.inj h
      exact RT _ _ dX0_othersWaiting_47
    · replace h := if_n h q1
      refine v_aload_n K 0 rfl dX0_othersWaiting_12 ?_
      refine gC_RX0_27 ho K dX0_othersWaiting_13 ?_
      refine v_iload_n K 3 rfl dX0_othersWaiting_16 ?_
      obtain ⟨b2, h⟩ := ob_e h
      refine lC (v := (s (o + 6) x3.toNatClampNeg)) K (aD_6 ho) b2 dX0_othersWaiting_17 rfl ?_
      refine v_iload_n K 1 rfl dX0_othersWaiting_18 ?_
      refine v_icmp_eq K 40 dX0_othersWaiting_19 (by decide) (fun q3 => ?_) (fun q3 => ?_)
      · replace h := if_e h q3
        exact wCD_othersWaiting_40 hG ho K RT (fun a0 a1 a2 a3 e => ih a0 a1 a2 a3 e) _ _ _ _ h
      · replace h := if_n h q3
        refine v_aload_n K 0 rfl dX0_othersWaiting_22 ?_
        refine gC_RX0_9 ho K dX0_othersWaiting_23 ?_
        refine v_aload_n K 0 rfl dX0_othersWaiting_26 ?_
        refine gC_RX0_27 ho K dX0_othersWaiting_27 ?_
        refine v_iload_n K 3 rfl dX0_othersWaiting_30 ?_
        obtain ⟨b4, h⟩ := ob_e h
        refine lC (v := (s (o + 6) x3.toNatClampNeg)) K (aD_6 ho) b4 dX0_othersWaiting_31 rfl ?_
        obtain ⟨b5, h⟩ := ob_e h
        refine lC (v := (s (o + 1) (s (o + 6) x3.toNatClampNeg).toNatClampNeg)) K (aD_1 ho) b5 dX0_othersWaiting_32 rfl ?_
        refine v_iconst (v := (4 : Int32)) K dX0_othersWaiting_33 (by decide) ?_
        refine v_icmp_ne K 40 dX0_othersWaiting_34 (by decide) (fun q6 => ?_) (fun q6 => ?_)
        · replace h := if_n h q6
          exact wCD_othersWaiting_40 hG ho K RT (fun a0 a1 a2 a3 e => ih a0 a1 a2 a3 e) _ _ _ _ h
        · replace h := if_e h q6
          refine v_iinc (v := (x2 + (1 : Int32))) K 2 [(0, .ref (ad o)), (1, .int x1), (2, .int (x2 + (1 : Int32))), (3, .int x3)] [1, 2, 0, 3] dX0_othersWaiting_37 rfl rfl (by decide) rfl ?_
          exact wCD_othersWaiting_40 hG ho K RT (fun a0 a1 a2 a3 e => ih a0 a1 a2 a3 e) _ _ _ _ h
set_option maxHeartbeats 4000000 in
set_option maxRecDepth 100000 in
theorem wCD_othersWaiting {ad : Nat → Nat} {G : GG} {o : Nat} {X : Cx} {c : Nat → ClassId} (hG : gok G) (ho : isD o = true) (K : Ok X cX0_othersWaiting RX0 4 0 c) {r : Int32 × SS} (RT : ∀ pc ls, decode cX0_othersWaiting pc = .ok (.ireturn, 1) → V X 4 0 0 pc ls [.int r.1] (wC ad c G r.2)) (s : SS) (x1 : Int32) (h : CD_othersWaiting G o s x1 = some r) : V X 4 0 0 0 [(0, .ref (ad o)), (1, .int x1)] [] (wC ad c G s) := by
  rw [CD_othersWaiting] at h
  refine v_iconst (v := (0 : Int32)) K dX0_othersWaiting_0 (by decide) ?_
  refine v_istore_n K [(0, .ref (ad o)), (1, .int x1), (2, .int (0 : Int32))] [1, 2, 0] dX0_othersWaiting_1 rfl (by decide) rfl ?_
  refine v_iconst (v := (0 : Int32)) K dX0_othersWaiting_2 (by decide) ?_
  refine v_istore_n K [(0, .ref (ad o)), (1, .int x1), (2, .int (0 : Int32)), (3, .int (0 : Int32))] [1, 2, 3, 0] dX0_othersWaiting_3 rfl (by decide) rfl ?_
  exact wCD_othersWaiting_4 hG ho K RT fuel _ _ _ _ h
theorem cCD_othersWaiting {l : Launch} {D : va_G} {c : Nat → ClassId} {s s' : SS} {ad : Nat → Nat} {G : GG} {o : Nat} (hG : gok G) (ho : isD o = true)  {x1 : Int32} {r : Int32} (h : CD_othersWaiting G o s x1 = some (r, s')) : Ci l D c yX0_othersWaiting cX0_othersWaiting 4 (some .int) 0 [.ref (ad o), .int x1] (wC ad c G s) r (wC ad c G s') := Ci.of (by decide) (Nat.le_of_ble_eq_true rfl) (fun X K RT => wCD_othersWaiting hG ho K (r := (r, s')) RT s x1 h)
set_option maxHeartbeats 4000000 in
set_option maxRecDepth 100000 in
theorem wCD_tablesTaken_27 {ad : Nat → Nat} {G : GG} {o : Nat} {X : Cx} {c : Nat → ClassId} (hG : gok G) (ho : isD o = true) (K : Ok X cX0_tablesTaken RX0 3 0 c) {r : Int32 × SS} (RT : ∀ pc ls, decode cX0_tablesTaken pc = .ok (.ireturn, 1) → V X 3 0 0 pc ls [.int r.1] (wC ad c G r.2)) {k4 : Int32 → Int32 → SS → Option (Int32 × SS)} (hk4 : ∀ (x1 : Int32) (x2 : Int32) (s : SS), k4 x1 x2 s = some r → V X 3 0 0 4 [(0, .ref (ad o)), (1, .int x1), (2, .int x2)] [] (wC ad c G s)) : ∀ (x1 : Int32) (x2 : Int32) (s : SS), CD_tablesTaken_27 G o k4 x1 x2 s = some r → V X 3 0 0 27 [(0, .ref (ad o)), (1, .int x1), (2, .int x2)] [] (wC ad c G s) := by
  intro x1 x2 s h
  rw [CD_tablesTaken_27] at h
  refine v_iinc (v := (x2 + (1 : Int32))) K 2 [(0, .ref (ad o)), (1, .int x1), (2, .int (x2 + (1 : Int32)))] [1, 2, 0] dX0_tablesTaken_27 rfl rfl (by decide) rfl ?_
  refine v_goto K 4 dX0_tablesTaken_30 (by decide) ?_
  exact hk4 _ _ _ h
set_option maxHeartbeats 4000000 in
set_option maxRecDepth 100000 in
theorem wCD_tablesTaken_4 {ad : Nat → Nat} {G : GG} {o : Nat} {X : Cx} {c : Nat → ClassId} (hG : gok G) (ho : isD o = true) (K : Ok X cX0_tablesTaken RX0 3 0 c) {r : Int32 × SS} (RT : ∀ pc ls, decode cX0_tablesTaken pc = .ok (.ireturn, 1) → V X 3 0 0 pc ls [.int r.1] (wC ad c G r.2)) : ∀ (n : Nat) (x1 : Int32) (x2 : Int32) (s : SS), CD_tablesTaken_4 G o n x1 x2 s = some r → V X 3 0 0 4 [(0, .ref (ad o)), (1, .int x1), (2, .int x2)] [] (wC ad c G s) := by
  intro n
  induction n with
  | zero => intro _ _ _ h; cases h
  | succ n ih =>
    intro x1 x2 s h
    rw [CD_tablesTaken_4] at h
    refine v_iload_n K 2 rfl dX0_tablesTaken_4 ?_
    refine v_aload_n K 0 rfl dX0_tablesTaken_5 ?_
    refine gC_RX0_33 ho (v := (s o 9)) K dX0_tablesTaken_6 rfl ?_
    refine gC_RX0_97 (hou_ok (s o 9)) (v := (s (hou (s o 9)) 2)) K dX0_tablesTaken_9 rfl ?_
    refine v_icmp_ge K 33 dX0_tablesTaken_12 (by decide) (fun q1 => ?_) (fun q1 => ?_)
    · replace h := if_e h q1
      refine v_iload_n K 1 rfl dX0_tablesTaken_33 ?_
      obtain rfl := Option.some.inj h
      exact RT _ _ dX0_tablesTaken_34
    · replace h := if_n h q1
      refine v_aload_n K 0 rfl dX0_tablesTaken_15 ?_
      refine gC_RX0_30 ho K dX0_tablesTaken_16 ?_
      refine v_iload_n K 2 rfl dX0_tablesTaken_19 ?_
      obtain ⟨b2, h⟩ := ob_e h
      refine lC (v := (s (o + 7) x2.toNatClampNeg)) K (aD_7 ho) b2 dX0_tablesTaken_20 rfl ?_
      refine v_if_lt K 27 dX0_tablesTaken_21 (by decide) (fun q3 => ?_) (fun q3 => ?_)
      · replace h := if_e h q3
        exact wCD_tablesTaken_27 hG ho K RT (fun a0 a1 a2 e => ih a0 a1 a2 e) _ _ _ h
      · replace h := if_n h q3
        refine v_iinc (v := (x1 + (1 : Int32))) K 1 [(0, .ref (ad o)), (1, .int (x1 + (1 : Int32))), (2, .int x2)] [1, 0, 2] dX0_tablesTaken_24 rfl rfl (by decide) rfl ?_
        exact wCD_tablesTaken_27 hG ho K RT (fun a0 a1 a2 e => ih a0 a1 a2 e) _ _ _ h
set_option maxHeartbeats 4000000 in
set_option maxRecDepth 100000 in
theorem wCD_tablesTaken {ad : Nat → Nat} {G : GG} {o : Nat} {X : Cx} {c : Nat → ClassId} (hG : gok G) (ho : isD o = true) (K : Ok X cX0_tablesTaken RX0 3 0 c) {r : Int32 × SS} (RT : ∀ pc ls, decode cX0_tablesTaken pc = .ok (.ireturn, 1) → V X 3 0 0 pc ls [.int r.1] (wC ad c G r.2)) (s : SS) (h : CD_tablesTaken G o s = some r) : V X 3 0 0 0 [(0, .ref (ad o))] [] (wC ad c G s) := by
  rw [CD_tablesTaken] at h
  refine v_iconst (v := (0 : Int32)) K dX0_tablesTaken_0 (by decide) ?_
  refine v_istore_n K [(0, .ref (ad o)), (1, .int (0 : Int32))] [1, 0] dX0_tablesTaken_1 rfl (by decide) rfl ?_
  refine v_iconst (v := (0 : Int32)) K dX0_tablesTaken_2 (by decide) ?_
  refine v_istore_n K [(0, .ref (ad o)), (1, .int (0 : Int32)), (2, .int (0 : Int32))] [1, 2, 0] dX0_tablesTaken_3 rfl (by decide) rfl ?_
  exact wCD_tablesTaken_4 hG ho K RT fuel _ _ _ h
theorem cCD_tablesTaken {l : Launch} {D : va_G} {c : Nat → ClassId} {s s' : SS} {ad : Nat → Nat} {G : GG} {o : Nat} (hG : gok G) (ho : isD o = true)  {r : Int32} (h : CD_tablesTaken G o s = some (r, s')) : Ci l D c yX0_tablesTaken cX0_tablesTaken 3 (some .int) 0 [.ref (ad o)] (wC ad c G s) r (wC ad c G s') := Ci.of (by decide) (Nat.le_of_ble_eq_true rfl) (fun X K RT => wCD_tablesTaken hG ho K (r := (r, s')) RT s  h)
set_option maxHeartbeats 4000000 in
set_option maxRecDepth 100000 in
theorem wCD_twoTables_74 {ad : Nat → Nat} {G : GG} {o : Nat} {X : Cx} {c : Nat → ClassId} (hG : gok G) (ho : isD o = true) (K : Ok X cX0_twoTables RX0 4 0 c) {r : Int32 × SS} (RT : ∀ pc ls, decode cX0_twoTables pc = .ok (.ireturn, 1) → V X 4 0 0 pc ls [.int r.1] (wC ad c G r.2)) {k2 : Int32 → Int32 → SS → Option (Int32 × SS)} (hk2 : ∀ (x1 : Int32) (x2 : Int32) (s : SS), k2 x1 x2 s = some r → V X 4 0 0 2 [(0, .ref (ad o)), (1, .int x1), (2, .int x2)] [] (wC ad c G s)) : ∀ (x1 : Int32) (x2 : Int32) (s : SS), CD_twoTables_74 G o k2 x1 x2 s = some r → V X 4 0 0 74 [(0, .ref (ad o)), (1, .int x1), (2, .int x2)] [] (wC ad c G s) := by
  intro x1 x2 s h
  rw [CD_twoTables_74] at h
  refine v_iinc (v := (x2 + (1 : Int32))) K 2 [(0, .ref (ad o)), (1, .int x1), (2, .int (x2 + (1 : Int32)))] [1, 2, 0] dX0_twoTables_74 rfl rfl (by decide) rfl ?_
  refine v_goto K 2 dX0_twoTables_77 (by decide) ?_
  exact hk2 _ _ _ h
set_option maxHeartbeats 4000000 in
set_option maxRecDepth 100000 in
theorem wCD_twoTables_42 {ad : Nat → Nat} {G : GG} {o : Nat} {X : Cx} {c : Nat → ClassId} (hG : gok G) (ho : isD o = true) (K : Ok X cX0_twoTables RX0 4 0 c) {r : Int32 × SS} (RT : ∀ pc ls, decode cX0_twoTables pc = .ok (.ireturn, 1) → V X 4 0 0 pc ls [.int r.1] (wC ad c G r.2)) {k2 : Int32 → Int32 → SS → Option (Int32 × SS)} (hk2 : ∀ (x1 : Int32) (x2 : Int32) (s : SS), k2 x1 x2 s = some r → V X 4 0 0 2 [(0, .ref (ad o)), (1, .int x1), (2, .int x2)] [] (wC ad c G s)) : ∀ (y0 : Int32) (x1 : Int32) (x2 : Int32) (s : SS), CD_twoTables_42 G o k2 y0 x1 x2 s = some r → V X 4 0 0 42 [(0, .ref (ad o)), (1, .int x1), (2, .int x2)] [.int y0] (wC ad c G s) := by
  intro y0 x1 x2 s h
  rw [CD_twoTables_42] at h
  refine v_istore_n K [(0, .ref (ad o)), (1, .int x1), (2, .int x2), (3, .int y0)] [1, 2, 3, 0] dX0_twoTables_42 rfl (by decide) rfl ?_
  refine v_iload_n K 3 rfl dX0_twoTables_43 ?_
  refine v_if_eq K 74 dX0_twoTables_44 (by decide) (fun q6 => ?_) (fun q6 => ?_)
  · replace h := if_e h q6
    refine v_drop [(0, .ref (ad o)), (1, .int x1), (2, .int x2)] [0, 1, 2] rfl ?_
    exact wCD_twoTables_74 hG ho K RT hk2 _ _ _ h
  · replace h := if_n h q6
    refine v_aload_n K 0 rfl dX0_twoTables_47 ?_
    refine gC_RX0_33 ho (v := (s o 9)) K dX0_twoTables_48 rfl ?_
    refine gC_RX0_166 (hou_ok (s o 9)) K dX0_twoTables_51 ?_
    refine v_iload_n K 2 rfl dX0_twoTables_54 ?_
    obtain ⟨b7, h⟩ := ob_e h
    refine lC (v := (s ((hou (s o 9)) + 2) x2.toNatClampNeg)) K (aH_2 (hou_ok (s o 9))) b7 dX0_twoTables_55 rfl ?_
    refine v_aload_n K 0 rfl dX0_twoTables_56 ?_
    refine gC_RX0_33 ho (v := (s o 9)) K dX0_twoTables_57 rfl ?_
    refine gC_RX0_166 (hou_ok (s o 9)) K dX0_twoTables_60 ?_
    refine v_iload_n K 2 rfl dX0_twoTables_63 ?_
    refine v_iconst (v := (1 : Int32)) K dX0_twoTables_64 (by decide) ?_
    refine v_iadd K dX0_twoTables_65 ?_
    obtain ⟨b8, h⟩ := ob_e h
    refine lC (v := (s ((hou (s o 9)) + 2) (x2 + (1 : Int32)).toNatClampNeg)) K (aH_2 (hou_ok (s o 9))) b8 dX0_twoTables_66 rfl ?_
    refine v_iadd K dX0_twoTables_67 ?_
    refine v_iload_n K 1 rfl dX0_twoTables_68 ?_
    refine v_icmp_lt K 74 dX0_twoTables_69 (by decide) (fun q9 => ?_) (fun q9 => ?_)
    · replace h := if_e h q9
      refine v_drop [(0, .ref (ad o)), (1, .int x1), (2, .int x2)] [0, 1, 2] rfl ?_
      exact wCD_twoTables_74 hG ho K RT hk2 _ _ _ h
    · replace h := if_n h q9
      refine v_iload_n K 2 rfl dX0_twoTables_72 ?_
      obtain rfl := Option.some.inj h
      exact RT _ _ dX0_twoTables_73
set_option maxHeartbeats 4000000 in
set_option maxRecDepth 100000 in
theorem wCD_twoTables_41 {ad : Nat → Nat} {G : GG} {o : Nat} {X : Cx} {c : Nat → ClassId} (hG : gok G) (ho : isD o = true) (K : Ok X cX0_twoTables RX0 4 0 c) {r : Int32 × SS} (RT : ∀ pc ls, decode cX0_twoTables pc = .ok (.ireturn, 1) → V X 4 0 0 pc ls [.int r.1] (wC ad c G r.2)) {k2 : Int32 → Int32 → SS → Option (Int32 × SS)} (hk2 : ∀ (x1 : Int32) (x2 : Int32) (s : SS), k2 x1 x2 s = some r → V X 4 0 0 2 [(0, .ref (ad o)), (1, .int x1), (2, .int x2)] [] (wC ad c G s)) : ∀ (x1 : Int32) (x2 : Int32) (s : SS), CD_twoTables_41 G o k2 x1 x2 s = some r → V X 4 0 0 41 [(0, .ref (ad o)), (1, .int x1), (2, .int x2)] [] (wC ad c G s) := by
  intro x1 x2 s h
  rw [CD_twoTables_41] at h
  refine v_iconst (v := (0 : Int32)) K dX0_twoTables_41 (by decide) ?_
  exact wCD_twoTables_42 hG ho K RT hk2 _ _ _ _ h
set_option maxHeartbeats 4000000 in
set_option maxRecDepth 100000 in
theorem wCD_twoTables_2 {ad : Nat → Nat} {G : GG} {o : Nat} {X : Cx} {c : Nat → ClassId} (hG : gok G) (ho : isD o = true) (K : Ok X cX0_twoTables RX0 4 0 c) {r : Int32 × SS} (RT : ∀ pc ls, decode cX0_twoTables pc = .ok (.ireturn, 1) → V X 4 0 0 pc ls [.int r.1] (wC ad c G r.2)) : ∀ (n : Nat) (x1 : Int32) (x2 : Int32) (s : SS), CD_twoTables_2 G o n x1 x2 s = some r → V X 4 0 0 2 [(0, .ref (ad o)), (1, .int x1), (2, .int x2)] [] (wC ad c G s) := by
  intro n
  induction n with
  | zero => intro _ _ _ h; cases h
  | succ n ih =>
    intro x1 x2 s h
    rw [CD_twoTables_2] at h
    refine v_iload_n K 2 rfl dX0_twoTables_2 ?_
    refine v_iconst (v := (1 : Int32)) K dX0_twoTables_3 (by decide) ?_
    refine v_iadd K dX0_twoTables_4 ?_
    refine v_aload_n K 0 rfl dX0_twoTables_5 ?_
    refine gC_RX0_33 ho (v := (s o 9)) K dX0_twoTables_6 rfl ?_
    refine gC_RX0_97 (hou_ok (s o 9)) (v := (s (hou (s o 9)) 2)) K dX0_twoTables_9 rfl ?_
    refine v_icmp_ge K 80 dX0_twoTables_12 (by decide) (fun q1 => ?_) (fun q1 => ?_)
    · replace h := if_e h q1
      refine v_bipush (v := (-9 : Int32)) K dX0_twoTables_80 (by decide) ?_
      obtain rfl := Option.some.inj h
      exact RT _ _ dX0_twoTables_82
    · replace h := if_n h q1
      refine v_aload_n K 0 rfl dX0_twoTables_15 ?_
      refine gC_RX0_30 ho K dX0_twoTables_16 ?_
      refine v_iload_n K 2 rfl dX0_twoTables_19 ?_
      obtain ⟨b2, h⟩ := ob_e h
      refine lC (v := (s (o + 7) x2.toNatClampNeg)) K (aD_7 ho) b2 dX0_twoTables_20 rfl ?_
      refine v_iconst (v := (-1 : Int32)) K dX0_twoTables_21 (by decide) ?_
      refine v_icmp_ne K 41 dX0_twoTables_22 (by decide) (fun q3 => ?_) (fun q3 => ?_)
      · replace h := if_n h q3
        exact wCD_twoTables_41 hG ho K RT (fun a0 a1 a2 e => ih a0 a1 a2 e) _ _ _ h
      · replace h := if_e h q3
        refine v_aload_n K 0 rfl dX0_twoTables_25 ?_
        refine gC_RX0_30 ho K dX0_twoTables_26 ?_
        refine v_iload_n K 2 rfl dX0_twoTables_29 ?_
        refine v_iconst (v := (1 : Int32)) K dX0_twoTables_30 (by decide) ?_
        refine v_iadd K dX0_twoTables_31 ?_
        obtain ⟨b4, h⟩ := ob_e h
        refine lC (v := (s (o + 7) (x2 + (1 : Int32)).toNatClampNeg)) K (aD_7 ho) b4 dX0_twoTables_32 rfl ?_
        refine v_iconst (v := (-1 : Int32)) K dX0_twoTables_33 (by decide) ?_
        refine v_icmp_ne K 41 dX0_twoTables_34 (by decide) (fun q5 => ?_) (fun q5 => ?_)
        · replace h := if_n h q5
          exact wCD_twoTables_41 hG ho K RT (fun a0 a1 a2 e => ih a0 a1 a2 e) _ _ _ h
        · replace h := if_e h q5
          refine v_iconst (v := (1 : Int32)) K dX0_twoTables_37 (by decide) ?_
          refine v_goto K 42 dX0_twoTables_38 (by decide) ?_
          exact wCD_twoTables_42 hG ho K RT (fun a0 a1 a2 e => ih a0 a1 a2 e) _ _ _ _ h
set_option maxHeartbeats 4000000 in
set_option maxRecDepth 100000 in
theorem wCD_twoTables {ad : Nat → Nat} {G : GG} {o : Nat} {X : Cx} {c : Nat → ClassId} (hG : gok G) (ho : isD o = true) (K : Ok X cX0_twoTables RX0 4 0 c) {r : Int32 × SS} (RT : ∀ pc ls, decode cX0_twoTables pc = .ok (.ireturn, 1) → V X 4 0 0 pc ls [.int r.1] (wC ad c G r.2)) (s : SS) (x1 : Int32) (h : CD_twoTables G o s x1 = some r) : V X 4 0 0 0 [(0, .ref (ad o)), (1, .int x1)] [] (wC ad c G s) := by
  rw [CD_twoTables] at h
  refine v_iconst (v := (0 : Int32)) K dX0_twoTables_0 (by decide) ?_
  refine v_istore_n K [(0, .ref (ad o)), (1, .int x1), (2, .int (0 : Int32))] [1, 2, 0] dX0_twoTables_1 rfl (by decide) rfl ?_
  exact wCD_twoTables_2 hG ho K RT fuel _ _ _ h
theorem cCD_twoTables {l : Launch} {D : va_G} {c : Nat → ClassId} {s s' : SS} {ad : Nat → Nat} {G : GG} {o : Nat} (hG : gok G) (ho : isD o = true)  {x1 : Int32} {r : Int32} (h : CD_twoTables G o s x1 = some (r, s')) : Ci l D c yX0_twoTables cX0_twoTables 4 (some .int) 0 [.ref (ad o), .int x1] (wC ad c G s) r (wC ad c G s') := Ci.of (by decide) (Nat.le_of_ble_eq_true rfl) (fun X K RT => wCD_twoTables hG ho K (r := (r, s')) RT s x1 h)
set_option maxHeartbeats 4000000 in
set_option maxRecDepth 100000 in
theorem wCR_numbered_22 {ad : Nat → Nat} {G : GG} {X : Cx} {c : Nat → ClassId} (hG : gok G) (K : Ok X cX1_numbered RX1 2 0 c) {r : Option Nat × SS} (RT : ∀ pc ls, decode cX1_numbered pc = .ok (.areturn, 1) → V X 2 0 0 pc ls [va_rf r.1] (wC ad c G r.2)) : ∀ (y0 : Option Nat) (s : SS), CR_numbered_22 G y0 s = some r → V X 2 0 0 22 [] [va_rf y0] (wC ad c G s) := by
  intro y0 s h
  rw [CR_numbered_22] at h
  obtain rfl := Option.some.inj h
  exact RT _ _ dX1_numbered_22
set_option maxHeartbeats 4000000 in
set_option maxRecDepth 100000 in
theorem wCR_numbered_12 {ad : Nat → Nat} {G : GG} {X : Cx} {c : Nat → ClassId} (hG : gok G) (K : Ok X cX1_numbered RX1 2 0 c) {r : Option Nat × SS} (RT : ∀ pc ls, decode cX1_numbered pc = .ok (.areturn, 1) → V X 2 0 0 pc ls [va_rf r.1] (wC ad c G r.2)) : ∀ (s : SS), CR_numbered_12 G s = some r → V X 2 0 0 12 [] [] (wC ad c G s) := by
  intro s h
  rw [CR_numbered_12] at h
  refine v_null K dX1_numbered_12 ?_
  refine v_goto K 22 dX1_numbered_13 (by decide) ?_
  exact wCR_numbered_22 hG K RT _ _ h
set_option maxHeartbeats 4000000 in
set_option maxRecDepth 100000 in
theorem wCR_numbered {ad : Nat → Nat} {G : GG} {X : Cx} {c : Nat → ClassId} (hG : gok G) (K : Ok X cX1_numbered RX1 2 0 c) {r : Option Nat × SS} (RT : ∀ pc ls, decode cX1_numbered pc = .ok (.areturn, 1) → V X 2 0 0 pc ls [va_rf r.1] (wC ad c G r.2)) (s : SS) (x1 : Int32) (h : CR_numbered G s x1 = some r) : V X 2 0 0 0 [(0, .ref (ad 7)), (1, .int x1)] [] (wC ad c G s) := by
  rw [CR_numbered] at h
  refine v_iload_n K 1 rfl dX1_numbered_0 ?_
  refine v_if_lt K 12 dX1_numbered_1 (by decide) (fun q1 => ?_) (fun q1 => ?_)
  · replace h := if_e h q1
    refine v_drop [] [] rfl ?_
    exact wCR_numbered_12 hG K RT _ h
  · replace h := if_n h q1
    refine v_iload_n K 1 rfl dX1_numbered_4 ?_
    refine v_aload_n K 0 rfl dX1_numbered_5 ?_
    refine gC_RX1_17 (v := (s 7 1)) K dX1_numbered_6 rfl ?_
    refine v_icmp_lt K 16 dX1_numbered_9 (by decide) (fun q2 => ?_) (fun q2 => ?_)
    · replace h := if_e h q2
      refine v_aload_n K 0 rfl dX1_numbered_16 ?_
      refine gC_RX1_11 K dX1_numbered_17 ?_
      refine v_iload_n K 1 rfl dX1_numbered_20 ?_
      obtain ⟨b3, h⟩ := ob_e h
      obtain ⟨a4, e5, h⟩ := gld_e h
      refine qG K e5 b3 dX1_numbered_21 ?_
      refine v_drop [] [] rfl ?_
      exact wCR_numbered_22 hG K RT _ _ h
    · replace h := if_n h q2
      refine v_drop [] [] rfl ?_
      exact wCR_numbered_12 hG K RT _ h
theorem cCR_numbered {l : Launch} {D : va_G} {c : Nat → ClassId} {s s' : SS} {ad : Nat → Nat} {G : GG} (hG : gok G)  {x1 : Int32} {r : Option Nat} (h : CR_numbered G s x1 = some (r, s')) : Cq l D c yX1_numbered cX1_numbered 2 (some (.object "CafeTables$Guest")) 0 [.ref (ad 7), .int x1] (wC ad c G s) r (wC ad c G s') := Cq.of (by decide) (Nat.le_of_ble_eq_true rfl) (fun X K RT => wCR_numbered hG K (r := (r, s')) RT s x1 h)
set_option maxHeartbeats 4000000 in
set_option maxRecDepth 100000 in
theorem wCG_coinFor {ad : Nat → Nat} {G : GG} {o : Nat} {X : Cx} {c : Nat → ClassId} (hG : gok G) (ho : gm G o = true) (K : Ok X cX2_coinFor RX2 2 0 c) {r : Int32 × SS} (RT : ∀ pc ls, decode cX2_coinFor pc = .ok (.ireturn, 1) → V X 2 0 0 pc ls [.int r.1] (wC ad c G r.2)) (s : SS) (x1 : Int32) (h : CG_coinFor G o s x1 = some r) : V X 2 0 0 0 [(0, .ref o), (1, .int x1)] [] (wC ad c G s) := by
  rw [CG_coinFor] at h
  refine v_aload_n K 0 rfl dX2_coinFor_0 ?_
  refine gC_RX2_13 ho K dX2_coinFor_1 ?_
  refine v_iconst (v := (5 : Int32)) K dX2_coinFor_4 (by decide) ?_
  refine v_iload_n K 1 rfl dX2_coinFor_5 ?_
  refine v_bipush (v := (10 : Int32)) K dX2_coinFor_6 (by decide) ?_
  obtain ⟨b1, h⟩ := ob_e h
  refine v_idiv K dX2_coinFor_8 b1 ?_
  refine v_iadd K dX2_coinFor_9 ?_
  refine v_imul K dX2_coinFor_10 ?_
  obtain rfl := Option.some.inj h
  exact RT _ _ dX2_coinFor_11
theorem cCG_coinFor {l : Launch} {D : va_G} {c : Nat → ClassId} {s s' : SS} {ad : Nat → Nat} {G : GG} {o : Nat} (hG : gok G) (ho : gm G o = true)  {x1 : Int32} {r : Int32} (h : CG_coinFor G o s x1 = some (r, s')) : Ci l D c yX2_coinFor cX2_coinFor 2 (some .int) 0 [.ref o, .int x1] (wC ad c G s) r (wC ad c G s') := Ci.of (by decide) (Nat.le_of_ble_eq_true rfl) (fun X K RT => wCG_coinFor hG ho K (r := (r, s')) RT s x1 h)
set_option maxHeartbeats 4000000 in
set_option maxRecDepth 100000 in
theorem wCG_kindNumber {ad : Nat → Nat} {G : GG} {o : Nat} {X : Cx} {c : Nat → ClassId} (hG : gok G) (ho : gm G o = true) (K : Ok X cX2_kindNumber RX2 1 0 c) {r : Int32 × SS} (RT : ∀ pc ls, decode cX2_kindNumber pc = .ok (.ireturn, 1) → V X 1 0 0 pc ls [.int r.1] (wC ad c G r.2)) (s : SS) (h : CG_kindNumber G o s = some r) : V X 1 0 0 0 [(0, .ref o)] [] (wC ad c G s) := by
  rw [CG_kindNumber] at h
  refine v_iconst (v := (0 : Int32)) K dX2_kindNumber_0 (by decide) ?_
  obtain rfl := Option.some.inj h
  exact RT _ _ dX2_kindNumber_1
theorem cCG_kindNumber {l : Launch} {D : va_G} {c : Nat → ClassId} {s s' : SS} {ad : Nat → Nat} {G : GG} {o : Nat} (hG : gok G) (ho : gm G o = true)  {r : Int32} (h : CG_kindNumber G o s = some (r, s')) : Ci l D c yX2_kindNumber cX2_kindNumber 1 (some .int) 0 [.ref o] (wC ad c G s) r (wC ad c G s') := Ci.of (by decide) (Nat.le_of_ble_eq_true rfl) (fun X K RT => wCG_kindNumber hG ho K (r := (r, s')) RT s  h)
set_option maxHeartbeats 4000000 in
set_option maxRecDepth 100000 in
theorem wCG_staysFor {ad : Nat → Nat} {G : GG} {o : Nat} {X : Cx} {c : Nat → ClassId} (hG : gok G) (ho : gm G o = true) (K : Ok X cX2_staysFor RX2 2 0 c) {r : Int32 × SS} (RT : ∀ pc ls, decode cX2_staysFor pc = .ok (.ireturn, 1) → V X 2 0 0 pc ls [.int r.1] (wC ad c G r.2)) (s : SS) (x1 : Int32) (h : CG_staysFor G o s x1 = some r) : V X 2 0 0 0 [(0, .ref o), (1, .int x1)] [] (wC ad c G s) := by
  rw [CG_staysFor] at h
  refine v_aload_n K 0 rfl dX2_staysFor_0 ?_
  refine gC_RX2_19 ho K dX2_staysFor_1 ?_
  obtain rfl := Option.some.inj h
  exact RT _ _ dX2_staysFor_4
theorem cCG_staysFor {l : Launch} {D : va_G} {c : Nat → ClassId} {s s' : SS} {ad : Nat → Nat} {G : GG} {o : Nat} (hG : gok G) (ho : gm G o = true)  {x1 : Int32} {r : Int32} (h : CG_staysFor G o s x1 = some (r, s')) : Ci l D c yX2_staysFor cX2_staysFor 2 (some .int) 0 [.ref o, .int x1] (wC ad c G s) r (wC ad c G s') := Ci.of (by decide) (Nat.le_of_ble_eq_true rfl) (fun X K RT => wCG_staysFor hG ho K (r := (r, s')) RT s x1 h)
set_option maxHeartbeats 4000000 in
set_option maxRecDepth 100000 in
theorem wCH_copyOf_10 {ad : Nat → Nat} {G : GG} {o : Nat} {x1 : Nat} {X : Cx} {c : Nat → ClassId} (hG : gok G) (ho : isH o = true) (h1 : isH x1 = true) (K : Ok X cX3_copyOf RX3 3 0 c) {r : SS} (RT : ∀ pc ls, decode cX3_copyOf pc = .ok (.return_, 1) → V X 3 0 0 pc ls [] (wC ad c G r)) : ∀ (n : Nat) (x2 : Int32) (s : SS), CH_copyOf_10 G o x1 n x2 s = some r → V X 3 0 0 10 [(0, .ref (ad o)), (1, .ref (ad x1)), (2, .int x2)] [] (wC ad c G s) := by
  intro n
  induction n with
  | zero => intro _ _ h; cases h
  | succ n ih =>
    intro x2 s h
    rw [CH_copyOf_10] at h
    refine v_iload_n K 2 rfl dX3_copyOf_10 ?_
    refine v_bipush (v := (6 : Int32)) K dX3_copyOf_11 (by decide) ?_
    refine v_icmp_ge K 46 dX3_copyOf_13 (by decide) (fun q1 => ?_) (fun q1 => ?_)
    · replace h := if_e h q1
      refine v_aload_n K 0 rfl dX3_copyOf_46 ?_
      refine v_aload_n K 1 rfl dX3_copyOf_47 ?_
      refine gC_RX3_40 h1 (v := (s x1 3)) K dX3_copyOf_48 rfl ?_
      refine pC_RX3_40 ho K dX3_copyOf_51 ?_
      refine v_aload_n K 0 rfl dX3_copyOf_54 ?_
      refine v_aload_n K 1 rfl dX3_copyOf_55 ?_
      refine gC_RX3_43 h1 (v := ((up2 s o 3 (s x1 3)) x1 4)) K dX3_copyOf_56 rfl ?_
      refine pC_RX3_43 ho K dX3_copyOf_59 ?_
      refine v_aload_n K 0 rfl dX3_copyOf_62 ?_
      refine v_aload_n K 1 rfl dX3_copyOf_63 ?_
      refine gC_RX3_46 h1 (v := ((up2 (up2 s o 3 (s x1 3)) o 4 ((up2 s o 3 (s x1 3)) x1 4)) x1 6)) K dX3_copyOf_64 rfl ?_
      obtain ⟨b2, h⟩ := ob_e h
      refine pC_RX3_46 ho K b2 dX3_copyOf_67 ?_
      refine v_aload_n K 0 rfl dX3_copyOf_70 ?_
      refine v_aload_n K 1 rfl dX3_copyOf_71 ?_
      refine gC_RX3_18 h1 (v := ((up2 (up2 (up2 s o 3 (s x1 3)) o 4 ((up2 s o 3 (s x1 3)) x1 4)) o 6 ((up2 (up2 s o 3 (s x1 3)) o 4 ((up2 s o 3 (s x1 3)) x1 4)) x1 6)) x1 5)) K dX3_copyOf_72 rfl ?_
      refine pC_RX3_18 ho K dX3_copyOf_75 ?_
      obtain rfl := Option.some.inj h
      exact RT _ _ dX3_copyOf_78
    · replace h := if_n h q1
      refine v_aload_n K 0 rfl dX3_copyOf_16 ?_
      refine gC_RX3_9 ho K dX3_copyOf_17 ?_
      refine v_iload_n K 2 rfl dX3_copyOf_20 ?_
      refine v_aload_n K 1 rfl dX3_copyOf_21 ?_
      refine gC_RX3_9 h1 K dX3_copyOf_22 ?_
      refine v_iload_n K 2 rfl dX3_copyOf_25 ?_
      obtain ⟨b3, h⟩ := ob_e h
      refine lC (v := (s (x1 + 1) x2.toNatClampNeg)) K (aH_1 h1) b3 dX3_copyOf_26 rfl ?_
      obtain ⟨b4, h⟩ := ob_e h
      refine sC K (aH_1 ho) b4 dX3_copyOf_27 ?_
      refine v_aload_n K 0 rfl dX3_copyOf_28 ?_
      refine gC_RX3_15 ho K dX3_copyOf_29 ?_
      refine v_iload_n K 2 rfl dX3_copyOf_32 ?_
      refine v_aload_n K 1 rfl dX3_copyOf_33 ?_
      refine gC_RX3_15 h1 K dX3_copyOf_34 ?_
      refine v_iload_n K 2 rfl dX3_copyOf_37 ?_
      obtain ⟨b5, h⟩ := ob_e h
      refine lC (v := ((up2 s (o + 1) x2.toNatClampNeg (s (x1 + 1) x2.toNatClampNeg)) (x1 + 2) x2.toNatClampNeg)) K (aH_2 h1) b5 dX3_copyOf_38 rfl ?_
      obtain ⟨b6, h⟩ := ob_e h
      refine sC K (aH_2 ho) b6 dX3_copyOf_39 ?_
      refine v_iinc (v := (x2 + (1 : Int32))) K 2 [(0, .ref (ad o)), (1, .ref (ad x1)), (2, .int (x2 + (1 : Int32)))] [1, 2, 0] dX3_copyOf_40 rfl rfl (by decide) rfl ?_
      refine v_goto K 10 dX3_copyOf_43 (by decide) ?_
      exact ih _ _ h
set_option maxHeartbeats 4000000 in
set_option maxRecDepth 100000 in
theorem wCH_copyOf {ad : Nat → Nat} {G : GG} {o : Nat} {x1 : Nat} {X : Cx} {c : Nat → ClassId} (hG : gok G) (ho : isH o = true) (h1 : isH x1 = true) (K : Ok X cX3_copyOf RX3 3 0 c) {r : SS} (RT : ∀ pc ls, decode cX3_copyOf pc = .ok (.return_, 1) → V X 3 0 0 pc ls [] (wC ad c G r)) (s : SS) (h : CH_copyOf G o x1 s = some r) : V X 3 0 0 0 [(0, .ref (ad o)), (1, .ref (ad x1))] [] (wC ad c G s) := by
  rw [CH_copyOf] at h
  refine v_aload_n K 0 rfl dX3_copyOf_0 ?_
  refine v_aload_n K 1 rfl dX3_copyOf_1 ?_
  refine gC_RX3_28 h1 (v := (s x1 2)) K dX3_copyOf_2 rfl ?_
  refine pC_RX3_28 ho K dX3_copyOf_5 ?_
  refine v_iconst (v := (0 : Int32)) K dX3_copyOf_8 (by decide) ?_
  refine v_istore_n K [(0, .ref (ad o)), (1, .ref (ad x1)), (2, .int (0 : Int32))] [1, 2, 0] dX3_copyOf_9 rfl (by decide) rfl ?_
  exact wCH_copyOf_10 hG ho h1 K RT fuel _ _ h
theorem cCH_copyOf {l : Launch} {D : va_G} {c : Nat → ClassId} {s s' : SS} {ad : Nat → Nat} {G : GG} {o : Nat} {x1 : Nat} (hG : gok G) (ho : isH o = true) (h1 : isH x1 = true)  (h : CH_copyOf G o x1 s = some s') : Cv l D c yX3_copyOf cX3_copyOf 3 none 0 [.ref (ad o), .ref (ad x1)] (wC ad c G s) (wC ad c G s') := Cv.of (by decide) (Nat.le_of_ble_eq_true rfl) (fun X K RT => wCH_copyOf hG ho h1 K RT s  h)
set_option maxHeartbeats 4000000 in
set_option maxRecDepth 100000 in
theorem wCH_seatsInAll_4 {ad : Nat → Nat} {G : GG} {o : Nat} {X : Cx} {c : Nat → ClassId} (hG : gok G) (ho : isH o = true) (K : Ok X cX3_seatsInAll RX3 3 0 c) {r : Int32 × SS} (RT : ∀ pc ls, decode cX3_seatsInAll pc = .ok (.ireturn, 1) → V X 3 0 0 pc ls [.int r.1] (wC ad c G r.2)) : ∀ (n : Nat) (x1 : Int32) (x2 : Int32) (s : SS), CH_seatsInAll_4 G o n x1 x2 s = some r → V X 3 0 0 4 [(0, .ref (ad o)), (1, .int x1), (2, .int x2)] [] (wC ad c G s) := by
  intro n
  induction n with
  | zero => intro _ _ _ h; cases h
  | succ n ih =>
    intro x1 x2 s h
    rw [CH_seatsInAll_4] at h
    refine v_iload_n K 2 rfl dX3_seatsInAll_4 ?_
    refine v_aload_n K 0 rfl dX3_seatsInAll_5 ?_
    refine gC_RX3_28 ho (v := (s o 2)) K dX3_seatsInAll_6 rfl ?_
    refine v_icmp_ge K 27 dX3_seatsInAll_9 (by decide) (fun q1 => ?_) (fun q1 => ?_)
    · replace h := if_e h q1
      refine v_iload_n K 1 rfl dX3_seatsInAll_27 ?_
      obtain rfl := Option.some.inj h
      exact RT _ _ dX3_seatsInAll_28
    · replace h := if_n h q1
      refine v_iload_n K 1 rfl dX3_seatsInAll_12 ?_
      refine v_aload_n K 0 rfl dX3_seatsInAll_13 ?_
      refine gC_RX3_15 ho K dX3_seatsInAll_14 ?_
      refine v_iload_n K 2 rfl dX3_seatsInAll_17 ?_
      obtain ⟨b2, h⟩ := ob_e h
      refine lC (v := (s (o + 2) x2.toNatClampNeg)) K (aH_2 ho) b2 dX3_seatsInAll_18 rfl ?_
      refine v_iadd K dX3_seatsInAll_19 ?_
      refine v_istore_n K [(0, .ref (ad o)), (1, .int (x1 + (s (o + 2) x2.toNatClampNeg))), (2, .int x2)] [1, 0, 2] dX3_seatsInAll_20 rfl (by decide) rfl ?_
      refine v_iinc (v := (x2 + (1 : Int32))) K 2 [(0, .ref (ad o)), (1, .int (x1 + (s (o + 2) x2.toNatClampNeg))), (2, .int (x2 + (1 : Int32)))] [1, 2, 0] dX3_seatsInAll_21 rfl rfl (by decide) rfl ?_
      refine v_goto K 4 dX3_seatsInAll_24 (by decide) ?_
      exact ih _ _ _ h
set_option maxHeartbeats 4000000 in
set_option maxRecDepth 100000 in
theorem wCH_seatsInAll {ad : Nat → Nat} {G : GG} {o : Nat} {X : Cx} {c : Nat → ClassId} (hG : gok G) (ho : isH o = true) (K : Ok X cX3_seatsInAll RX3 3 0 c) {r : Int32 × SS} (RT : ∀ pc ls, decode cX3_seatsInAll pc = .ok (.ireturn, 1) → V X 3 0 0 pc ls [.int r.1] (wC ad c G r.2)) (s : SS) (h : CH_seatsInAll G o s = some r) : V X 3 0 0 0 [(0, .ref (ad o))] [] (wC ad c G s) := by
  rw [CH_seatsInAll] at h
  refine v_iconst (v := (0 : Int32)) K dX3_seatsInAll_0 (by decide) ?_
  refine v_istore_n K [(0, .ref (ad o)), (1, .int (0 : Int32))] [1, 0] dX3_seatsInAll_1 rfl (by decide) rfl ?_
  refine v_iconst (v := (0 : Int32)) K dX3_seatsInAll_2 (by decide) ?_
  refine v_istore_n K [(0, .ref (ad o)), (1, .int (0 : Int32)), (2, .int (0 : Int32))] [1, 2, 0] dX3_seatsInAll_3 rfl (by decide) rfl ?_
  exact wCH_seatsInAll_4 hG ho K RT fuel _ _ _ h
theorem cCH_seatsInAll {l : Launch} {D : va_G} {c : Nat → ClassId} {s s' : SS} {ad : Nat → Nat} {G : GG} {o : Nat} (hG : gok G) (ho : isH o = true)  {r : Int32} (h : CH_seatsInAll G o s = some (r, s')) : Ci l D c yX3_seatsInAll cX3_seatsInAll 3 (some .int) 0 [.ref (ad o)] (wC ad c G s) r (wC ad c G s') := Ci.of (by decide) (Nat.le_of_ble_eq_true rfl) (fun X K RT => wCH_seatsInAll hG ho K (r := (r, s')) RT s  h)
set_option maxHeartbeats 4000000 in
set_option maxRecDepth 100000 in
theorem wCL_kindNumber {ad : Nat → Nat} {G : GG} {o : Nat} {X : Cx} {c : Nat → ClassId} (hG : gok G) (ho : gm G o = true) (K : Ok X cX4_kindNumber RX4 1 0 c) {r : Int32 × SS} (RT : ∀ pc ls, decode cX4_kindNumber pc = .ok (.ireturn, 1) → V X 1 0 0 pc ls [.int r.1] (wC ad c G r.2)) (s : SS) (h : CL_kindNumber G o s = some r) : V X 1 0 0 0 [(0, .ref o)] [] (wC ad c G s) := by
  rw [CL_kindNumber] at h
  refine v_iconst (v := (2 : Int32)) K dX4_kindNumber_0 (by decide) ?_
  obtain rfl := Option.some.inj h
  exact RT _ _ dX4_kindNumber_1
theorem cCL_kindNumber {l : Launch} {D : va_G} {c : Nat → ClassId} {s s' : SS} {ad : Nat → Nat} {G : GG} {o : Nat} (hG : gok G) (ho : gm G o = true)  {r : Int32} (h : CL_kindNumber G o s = some (r, s')) : Ci l D c yX4_kindNumber cX4_kindNumber 1 (some .int) 0 [.ref o] (wC ad c G s) r (wC ad c G s') := Ci.of (by decide) (Nat.le_of_ble_eq_true rfl) (fun X K RT => wCL_kindNumber hG ho K (r := (r, s')) RT s  h)
set_option maxHeartbeats 4000000 in
set_option maxRecDepth 100000 in
theorem wCP_fitsSomewhere_2 {ad : Nat → Nat} {G : GG} {X : Cx} {c : Nat → ClassId} (hG : gok G) (K : Ok X cX5_fitsSomewhere RX5 3 0 c) {r : Int32 × SS} (RT : nb r.1 = true → ∀ pc ls, decode cX5_fitsSomewhere pc = .ok (.ireturn, 1) → V X 3 0 0 pc ls [.int r.1] (wC ad c G r.2)) : ∀ (n : Nat) (x1 : Int32) (x2 : Int32) (s : SS), CP_fitsSomewhere_2 G n x1 x2 s = some r → V X 3 0 0 2 [(0, .ref (ad 35)), (1, .int x1), (2, .int x2)] [] (wC ad c G s) := by
  intro n
  induction n with
  | zero => intro _ _ _ h; cases h
  | succ n ih =>
    intro x1 x2 s h
    rw [CP_fitsSomewhere_2] at h
    refine v_iload_n K 2 rfl dX5_fitsSomewhere_2 ?_
    refine v_aload_n K 0 rfl dX5_fitsSomewhere_3 ?_
    refine gC_RX5_33 K dX5_fitsSomewhere_4 ?_
    refine gC_RX5_95 rfl (v := (s 1 2)) K dX5_fitsSomewhere_7 rfl ?_
    refine v_icmp_ge K 39 dX5_fitsSomewhere_10 (by decide) (fun q1 => ?_) (fun q1 => ?_)
    · replace h := if_e h q1
      refine v_iconst (v := (0 : Int32)) K dX5_fitsSomewhere_39 (by decide) ?_
      obtain ⟨b2, h⟩ := ob_e h
      obtain rfl := Option.some.inj h
      exact RT b2 _ _ dX5_fitsSomewhere_40
    · replace h := if_n h q1
      refine v_aload_n K 0 rfl dX5_fitsSomewhere_13 ?_
      refine gC_RX5_33 K dX5_fitsSomewhere_14 ?_
      refine gC_RX5_100 rfl K dX5_fitsSomewhere_17 ?_
      refine v_iload_n K 2 rfl dX5_fitsSomewhere_20 ?_
      obtain ⟨b3, h⟩ := ob_e h
      refine lC (v := (s 3 x2.toNatClampNeg)) K (aH_2 rfl) b3 dX5_fitsSomewhere_21 rfl ?_
      refine v_aload_n K 0 rfl dX5_fitsSomewhere_22 ?_
      refine gC_RX5_18 K dX5_fitsSomewhere_23 ?_
      refine v_iload_n K 1 rfl dX5_fitsSomewhere_26 ?_
      obtain ⟨b4, h⟩ := ob_e h
      refine lC (v := (s 38 x1.toNatClampNeg)) K rfl b4 dX5_fitsSomewhere_27 rfl ?_
      refine v_icmp_lt K 33 dX5_fitsSomewhere_28 (by decide) (fun q5 => ?_) (fun q5 => ?_)
      · replace h := if_e h q5
        refine v_iinc (v := (x2 + (1 : Int32))) K 2 [(0, .ref (ad 35)), (1, .int x1), (2, .int (x2 + (1 : Int32)))] [1, 2, 0] dX5_fitsSomewhere_33 rfl rfl (by decide) rfl ?_
        refine v_goto K 2 dX5_fitsSomewhere_36 (by decide) ?_
        exact ih _ _ _ h
      · replace h := if_n h q5
        refine v_iconst (v := (1 : Int32)) K dX5_fitsSomewhere_31 (by decide) ?_
        obtain ⟨b6, h⟩ := ob_e h
        obtain rfl := Option.some.inj h
        exact RT b6 _ _ dX5_fitsSomewhere_32
set_option maxHeartbeats 4000000 in
set_option maxRecDepth 100000 in
theorem wCP_fitsSomewhere {ad : Nat → Nat} {G : GG} {X : Cx} {c : Nat → ClassId} (hG : gok G) (K : Ok X cX5_fitsSomewhere RX5 3 0 c) {r : Int32 × SS} (RT : nb r.1 = true → ∀ pc ls, decode cX5_fitsSomewhere pc = .ok (.ireturn, 1) → V X 3 0 0 pc ls [.int r.1] (wC ad c G r.2)) (s : SS) (x1 : Int32) (h : CP_fitsSomewhere G s x1 = some r) : V X 3 0 0 0 [(0, .ref (ad 35)), (1, .int x1)] [] (wC ad c G s) := by
  rw [CP_fitsSomewhere] at h
  refine v_iconst (v := (0 : Int32)) K dX5_fitsSomewhere_0 (by decide) ?_
  refine v_istore_n K [(0, .ref (ad 35)), (1, .int x1), (2, .int (0 : Int32))] [1, 2, 0] dX5_fitsSomewhere_1 rfl (by decide) rfl ?_
  exact wCP_fitsSomewhere_2 hG K RT fuel _ _ _ h
theorem cCP_fitsSomewhere {l : Launch} {D : va_G} {c : Nat → ClassId} {s s' : SS} {ad : Nat → Nat} {G : GG} (hG : gok G)  {x1 : Int32} {r : Int32} (h : CP_fitsSomewhere G s x1 = some (r, s')) : Ci l D c yX5_fitsSomewhere cX5_fitsSomewhere 3 (some .boolean) 0 [.ref (ad 35), .int x1] (wC ad c G s) r (wC ad c G s') := Ci.ofZ (by decide) (Nat.le_of_ble_eq_true rfl) (fun X K RT => wCP_fitsSomewhere hG K (r := (r, s')) RT s x1 h)
set_option maxHeartbeats 4000000 in
set_option maxRecDepth 100000 in
theorem wCE_cut_24 {ad : Nat → Nat} {G : GG} {o : Nat} {X : Cx} {c : Nat → ClassId} (hG : gok G) (ho : isS o = true) (K : Ok X cX6_cut RX6 2 0 c) {r : Int32 × SS} (RT : ∀ pc ls, decode cX6_cut pc = .ok (.ireturn, 1) → V X 2 0 0 pc ls [.int r.1] (wC ad c G r.2)) : ∀ (y0 : Int32) (s : SS), CE_cut_24 G o y0 s = some r → V X 2 0 0 24 [] [.int y0] (wC ad c G s) := by
  intro y0 s h
  rw [CE_cut_24] at h
  obtain rfl := Option.some.inj h
  exact RT _ _ dX6_cut_24
set_option maxHeartbeats 4000000 in
set_option maxRecDepth 100000 in
theorem wCE_cut {ad : Nat → Nat} {G : GG} {o : Nat} {X : Cx} {c : Nat → ClassId} (hG : gok G) (ho : isS o = true) (K : Ok X cX6_cut RX6 2 0 c) {r : Int32 × SS} (RT : ∀ pc ls, decode cX6_cut pc = .ok (.ireturn, 1) → V X 2 0 0 pc ls [.int r.1] (wC ad c G r.2)) (s : SS) (x1 : Int32) (h : CE_cut G o s x1 = some r) : V X 2 0 0 0 [(0, .ref (ad o)), (1, .int x1)] [] (wC ad c G s) := by
  rw [CE_cut] at h
  refine v_aload_n K 0 rfl dX6_cut_0 ?_
  refine gC_RX6_25 ho (v := (s o 2)) K dX6_cut_1 rfl ?_
  refine v_if_ne K 10 dX6_cut_4 (by decide) (fun q1 => ?_) (fun q1 => ?_)
  · replace h := if_n h q1
    refine v_aload_n K 0 rfl dX6_cut_10 ?_
    refine gC_RX6_25 ho (v := (s o 2)) K dX6_cut_11 rfl ?_
    refine v_iconst (v := (1 : Int32)) K dX6_cut_14 (by decide) ?_
    refine v_icmp_ne K 23 dX6_cut_15 (by decide) (fun q2 => ?_) (fun q2 => ?_)
    · replace h := if_n h q2
      refine v_iload_n K 1 rfl dX6_cut_23 ?_
      refine v_drop [] [] rfl ?_
      exact wCE_cut_24 hG ho K RT _ _ h
    · replace h := if_e h q2
      refine v_iload_n K 1 rfl dX6_cut_18 ?_
      refine v_i2s K dX6_cut_19 ?_
      refine v_goto K 24 dX6_cut_20 (by decide) ?_
      refine v_drop [] [] rfl ?_
      exact wCE_cut_24 hG ho K RT _ _ h
  · replace h := if_e h q1
    refine v_iload_n K 1 rfl dX6_cut_7 ?_
    refine v_i2b K dX6_cut_8 ?_
    obtain rfl := Option.some.inj h
    exact RT _ _ dX6_cut_9
theorem cCE_cut {l : Launch} {D : va_G} {c : Nat → ClassId} {s s' : SS} {ad : Nat → Nat} {G : GG} {o : Nat} (hG : gok G) (ho : isS o = true)  {x1 : Int32} {r : Int32} (h : CE_cut G o s x1 = some (r, s')) : Ci l D c yX6_cut cX6_cut 2 (some .int) 0 [.ref (ad o), .int x1] (wC ad c G s) r (wC ad c G s') := Ci.of (by decide) (Nat.le_of_ble_eq_true rfl) (fun X K RT => wCE_cut hG ho K (r := (r, s')) RT s x1 h)
set_option maxHeartbeats 4000000 in
set_option maxRecDepth 100000 in
theorem wCE_reaches_31 {ad : Nat → Nat} {G : GG} {o : Nat} {X : Cx} {c : Nat → ClassId} (hG : gok G) (ho : isS o = true) (K : Ok X cX6_reaches RX6 3 0 c) {r : Int32 × SS} (RT : nb r.1 = true → ∀ pc ls, decode cX6_reaches pc = .ok (.ireturn, 1) → V X 3 0 0 pc ls [.int r.1] (wC ad c G r.2)) : ∀ (y0 : Int32) (s : SS), CE_reaches_31 G o y0 s = some r → V X 3 0 0 31 [] [.int y0] (wC ad c G s) := by
  intro y0 s h
  rw [CE_reaches_31] at h
  obtain ⟨b5, h⟩ := ob_e h
  obtain rfl := Option.some.inj h
  exact RT b5 _ _ dX6_reaches_31
set_option maxHeartbeats 4000000 in
set_option maxRecDepth 100000 in
theorem wCE_reaches_30 {ad : Nat → Nat} {G : GG} {o : Nat} {X : Cx} {c : Nat → ClassId} (hG : gok G) (ho : isS o = true) (K : Ok X cX6_reaches RX6 3 0 c) {r : Int32 × SS} (RT : nb r.1 = true → ∀ pc ls, decode cX6_reaches pc = .ok (.ireturn, 1) → V X 3 0 0 pc ls [.int r.1] (wC ad c G r.2)) : ∀ (s : SS), CE_reaches_30 G o s = some r → V X 3 0 0 30 [] [] (wC ad c G s) := by
  intro s h
  rw [CE_reaches_30] at h
  refine v_iconst (v := (0 : Int32)) K dX6_reaches_30 (by decide) ?_
  exact wCE_reaches_31 hG ho K RT _ _ h
set_option maxHeartbeats 4000000 in
set_option maxRecDepth 100000 in
theorem wCE_reaches {ad : Nat → Nat} {G : GG} {o : Nat} {X : Cx} {c : Nat → ClassId} (hG : gok G) (ho : isS o = true) (K : Ok X cX6_reaches RX6 3 0 c) {r : Int32 × SS} (RT : nb r.1 = true → ∀ pc ls, decode cX6_reaches pc = .ok (.ireturn, 1) → V X 3 0 0 pc ls [.int r.1] (wC ad c G r.2)) (s : SS) (x1 : Int32) (x2 : Int32) (h : CE_reaches G o s x1 x2 = some r) : V X 3 0 0 0 [(0, .ref (ad o)), (1, .int x1), (2, .int x2)] [] (wC ad c G s) := by
  rw [CE_reaches] at h
  refine v_iload_n K 1 rfl dX6_reaches_0 ?_
  refine v_if_lt K 30 dX6_reaches_1 (by decide) (fun q1 => ?_) (fun q1 => ?_)
  · replace h := if_e h q1
    refine v_drop [] [] rfl ?_
    exact wCE_reaches_30 hG ho K RT _ h
  · replace h := if_n h q1
    refine v_iload_n K 1 rfl dX6_reaches_4 ?_
    refine v_aload_n K 0 rfl dX6_reaches_5 ?_
    refine gC_RX6_29 ho (v := (s o 3)) K dX6_reaches_6 rfl ?_
    refine v_icmp_gt K 30 dX6_reaches_9 (by decide) (fun q2 => ?_) (fun q2 => ?_)
    · replace h := if_e h q2
      refine v_drop [] [] rfl ?_
      exact wCE_reaches_30 hG ho K RT _ h
    · replace h := if_n h q2
      refine v_iload_n K 2 rfl dX6_reaches_12 ?_
      refine v_if_lt K 30 dX6_reaches_13 (by decide) (fun q3 => ?_) (fun q3 => ?_)
      · replace h := if_e h q3
        refine v_drop [] [] rfl ?_
        exact wCE_reaches_30 hG ho K RT _ h
      · replace h := if_n h q3
        refine v_iload_n K 2 rfl dX6_reaches_16 ?_
        refine v_aload_n K 0 rfl dX6_reaches_17 ?_
        refine gC_RX6_29 ho (v := (s o 3)) K dX6_reaches_18 rfl ?_
        refine v_iload_n K 1 rfl dX6_reaches_21 ?_
        refine v_isub K dX6_reaches_22 ?_
        refine v_icmp_gt K 30 dX6_reaches_23 (by decide) (fun q4 => ?_) (fun q4 => ?_)
        · replace h := if_e h q4
          refine v_drop [] [] rfl ?_
          exact wCE_reaches_30 hG ho K RT _ h
        · replace h := if_n h q4
          refine v_iconst (v := (1 : Int32)) K dX6_reaches_26 (by decide) ?_
          refine v_goto K 31 dX6_reaches_27 (by decide) ?_
          refine v_drop [] [] rfl ?_
          exact wCE_reaches_31 hG ho K RT _ _ h
theorem cCE_reaches {l : Launch} {D : va_G} {c : Nat → ClassId} {s s' : SS} {ad : Nat → Nat} {G : GG} {o : Nat} (hG : gok G) (ho : isS o = true)  {x1 : Int32} {x2 : Int32} {r : Int32} (h : CE_reaches G o s x1 x2 = some (r, s')) : Ci l D c yX6_reaches cX6_reaches 3 (some .boolean) 0 [.ref (ad o), .int x1, .int x2] (wC ad c G s) r (wC ad c G s') := Ci.ofZ (by decide) (Nat.le_of_ble_eq_true rfl) (fun X K RT => wCE_reaches hG ho K (r := (r, s')) RT s x1 x2 h)
set_option maxHeartbeats 4000000 in
set_option maxRecDepth 100000 in
theorem wCY_coinFor {ad : Nat → Nat} {G : GG} {o : Nat} {X : Cx} {c : Nat → ClassId} (hG : gok G) (ho : gm G o = true) (K : Ok X cX7_coinFor RX7 2 0 c) {r : Int32 × SS} (RT : ∀ pc ls, decode cX7_coinFor pc = .ok (.ireturn, 1) → V X 2 0 0 pc ls [.int r.1] (wC ad c G r.2)) (s : SS) (x1 : Int32) (h : CY_coinFor G o s x1 = some r) : V X 2 0 0 0 [(0, .ref o), (1, .int x1)] [] (wC ad c G s) := by
  rw [CY_coinFor] at h
  refine v_aload_n K 0 rfl dX7_coinFor_0 ?_
  refine gC_RX7_13 ho K dX7_coinFor_1 ?_
  refine v_iconst (v := (5 : Int32)) K dX7_coinFor_4 (by decide) ?_
  refine v_iload_n K 1 rfl dX7_coinFor_5 ?_
  refine v_bipush (v := (20 : Int32)) K dX7_coinFor_6 (by decide) ?_
  obtain ⟨b1, h⟩ := ob_e h
  refine v_idiv K dX7_coinFor_8 b1 ?_
  refine v_iadd K dX7_coinFor_9 ?_
  refine v_imul K dX7_coinFor_10 ?_
  obtain rfl := Option.some.inj h
  exact RT _ _ dX7_coinFor_11
theorem cCY_coinFor {l : Launch} {D : va_G} {c : Nat → ClassId} {s s' : SS} {ad : Nat → Nat} {G : GG} {o : Nat} (hG : gok G) (ho : gm G o = true)  {x1 : Int32} {r : Int32} (h : CY_coinFor G o s x1 = some (r, s')) : Ci l D c yX7_coinFor cX7_coinFor 2 (some .int) 0 [.ref o, .int x1] (wC ad c G s) r (wC ad c G s') := Ci.of (by decide) (Nat.le_of_ble_eq_true rfl) (fun X K RT => wCY_coinFor hG ho K (r := (r, s')) RT s x1 h)
set_option maxHeartbeats 4000000 in
set_option maxRecDepth 100000 in
theorem wCY_kindNumber {ad : Nat → Nat} {G : GG} {o : Nat} {X : Cx} {c : Nat → ClassId} (hG : gok G) (ho : gm G o = true) (K : Ok X cX7_kindNumber RX7 1 0 c) {r : Int32 × SS} (RT : ∀ pc ls, decode cX7_kindNumber pc = .ok (.ireturn, 1) → V X 1 0 0 pc ls [.int r.1] (wC ad c G r.2)) (s : SS) (h : CY_kindNumber G o s = some r) : V X 1 0 0 0 [(0, .ref o)] [] (wC ad c G s) := by
  rw [CY_kindNumber] at h
  refine v_iconst (v := (1 : Int32)) K dX7_kindNumber_0 (by decide) ?_
  obtain rfl := Option.some.inj h
  exact RT _ _ dX7_kindNumber_1
theorem cCY_kindNumber {l : Launch} {D : va_G} {c : Nat → ClassId} {s s' : SS} {ad : Nat → Nat} {G : GG} {o : Nat} (hG : gok G) (ho : gm G o = true)  {r : Int32} (h : CY_kindNumber G o s = some (r, s')) : Ci l D c yX7_kindNumber cX7_kindNumber 1 (some .int) 0 [.ref o] (wC ad c G s) r (wC ad c G s') := Ci.of (by decide) (Nat.le_of_ble_eq_true rfl) (fun X K RT => wCY_kindNumber hG ho K (r := (r, s')) RT s  h)
set_option maxHeartbeats 4000000 in
set_option maxRecDepth 100000 in
theorem wCY_staysFor {ad : Nat → Nat} {G : GG} {o : Nat} {X : Cx} {c : Nat → ClassId} (hG : gok G) (ho : gm G o = true) (K : Ok X cX7_staysFor RX7 2 0 c) {r : Int32 × SS} (RT : ∀ pc ls, decode cX7_staysFor pc = .ok (.ireturn, 1) → V X 2 0 0 pc ls [.int r.1] (wC ad c G r.2)) (s : SS) (x1 : Int32) (h : CY_staysFor G o s x1 = some r) : V X 2 0 0 0 [(0, .ref o), (1, .int x1)] [] (wC ad c G s) := by
  rw [CY_staysFor] at h
  refine v_iconst (v := (2 : Int32)) K dX7_staysFor_0 (by decide) ?_
  refine v_aload_n K 0 rfl dX7_staysFor_1 ?_
  refine gC_RX7_7 ho K dX7_staysFor_2 ?_
  refine v_imul K dX7_staysFor_5 ?_
  obtain rfl := Option.some.inj h
  exact RT _ _ dX7_staysFor_6
theorem cCY_staysFor {l : Launch} {D : va_G} {c : Nat → ClassId} {s s' : SS} {ad : Nat → Nat} {G : GG} {o : Nat} (hG : gok G) (ho : gm G o = true)  {x1 : Int32} {r : Int32} (h : CY_staysFor G o s x1 = some (r, s')) : Ci l D c yX7_staysFor cX7_staysFor 2 (some .int) 0 [.ref o, .int x1] (wC ad c G s) r (wC ad c G s') := Ci.of (by decide) (Nat.le_of_ble_eq_true rfl) (fun X K RT => wCY_staysFor hG ho K (r := (r, s')) RT s x1 h)
set_option maxHeartbeats 4000000 in
set_option maxRecDepth 100000 in
theorem wCQ_mark {ad : Nat → Nat} {G : GG} {X : Cx} {c : Nat → ClassId} (hG : gok G) (K : Ok X cX8_mark RX8 2 0 c) {r : SS} (RT : ∀ pc ls, decode cX8_mark pc = .ok (.return_, 1) → V X 2 0 0 pc ls [] (wC ad c G r)) (s : SS) (x1 : Int32) (h : CQ_mark G s x1 = some r) : V X 2 0 0 0 [(0, .ref (ad 18)), (1, .int x1)] [] (wC ad c G s) := by
  rw [CQ_mark] at h
  refine v_aload_n K 0 rfl dX8_mark_0 ?_
  refine v_bipush (v := (31 : Int32)) K dX8_mark_1 (by decide) ?_
  refine v_aload_n K 0 rfl dX8_mark_3 ?_
  refine gC_RX8_7 (v := (s 18 0)) K dX8_mark_4 rfl ?_
  refine v_imul K dX8_mark_7 ?_
  refine v_iload_n K 1 rfl dX8_mark_8 ?_
  refine v_iadd K dX8_mark_9 ?_
  refine pC_RX8_7 K dX8_mark_10 ?_
  obtain rfl := Option.some.inj h
  exact RT _ _ dX8_mark_13
theorem cCQ_mark {l : Launch} {D : va_G} {c : Nat → ClassId} {s s' : SS} {ad : Nat → Nat} {G : GG} (hG : gok G)  {x1 : Int32} (h : CQ_mark G s x1 = some s') : Cv l D c yX8_mark cX8_mark 2 none 0 [.ref (ad 18), .int x1] (wC ad c G s) (wC ad c G s') := Cv.of (by decide) (Nat.le_of_ble_eq_true rfl) (fun X K RT => wCQ_mark hG K RT s x1 h)
