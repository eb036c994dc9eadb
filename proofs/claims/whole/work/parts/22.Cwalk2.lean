set_option maxHeartbeats 4000000 in
set_option maxRecDepth 100000 in
theorem wCJ_fill_5 {ad : Nat → Nat} {G : GG} {x0 : Nat} {nn : Nat} {X : Cx} {c : Nat → ClassId} (hG : gok G) (hA : isA x0 nn = true) (K : Ok X cJ7_fill_53178 RJ7 4 0 c) {r : SS} (RT : ∀ pc ls, decode cJ7_fill_53178 pc = .ok (.return_, 1) → V X 4 0 0 pc ls [] (wC ad c G r)) : ∀ (n : Nat) (x1 : Int32) (x2 : Int32) (x3 : Int32) (s : SS), CJ_fill_5 G x0 nn n x1 x2 x3 s = some r → V X 4 0 0 5 [(0, .ref (ad x0)), (1, .int x1), (2, .int x2), (3, .int x3)] [] (wC ad c G s) := by
  intro n
  induction n with
  | zero => intro _ _ _ _ h; cases h
  | succ n ih =>
    intro x1 x2 x3 s h
    rw [CJ_fill_5] at h
    refine v_iload_n K 2 rfl dJ7_fill_53178_5 ?_
    refine v_iload_n K 3 rfl dJ7_fill_53178_6 ?_
    refine v_icmp_ge K 20 dJ7_fill_53178_7 (by decide) (fun q1 => ?_) (fun q1 => ?_)
    · replace h := if_e h q1
      obtain rfl := Option.some.inj h
      exact RT _ _ dJ7_fill_53178_20
    · replace h := if_n h q1
      refine v_aload_n K 0 rfl dJ7_fill_53178_10 ?_
      refine v_iload_n K 2 rfl dJ7_fill_53178_11 ?_
      refine v_iload_n K 1 rfl dJ7_fill_53178_12 ?_
      obtain ⟨b2, h⟩ := ob_e h
      refine sC K hA b2 dJ7_fill_53178_13 ?_
      refine v_iinc (v := (x2 + (1 : Int32))) K 2 [(0, .ref (ad x0)), (1, .int x1), (2, .int (x2 + (1 : Int32))), (3, .int x3)] [1, 2, 0, 3] dJ7_fill_53178_14 rfl rfl (by decide) rfl ?_
      refine v_goto K 5 dJ7_fill_53178_17 (by decide) ?_
      exact ih _ _ _ _ h
set_option maxHeartbeats 4000000 in
set_option maxRecDepth 100000 in
theorem wCJ_fill {ad : Nat → Nat} {G : GG} {x0 : Nat} {nn : Nat} {X : Cx} {c : Nat → ClassId} (hG : gok G) (hA : isA x0 nn = true) (K : Ok X cJ7_fill_53178 RJ7 4 0 c) {r : SS} (RT : ∀ pc ls, decode cJ7_fill_53178 pc = .ok (.return_, 1) → V X 4 0 0 pc ls [] (wC ad c G r)) (s : SS) (x1 : Int32) (h : CJ_fill G x0 nn s x1 = some r) : V X 4 0 0 0 [(0, .ref (ad x0)), (1, .int x1)] [] (wC ad c G s) := by
  rw [CJ_fill] at h
  refine v_iconst (v := (0 : Int32)) K dJ7_fill_53178_0 (by decide) ?_
  refine v_istore_n K [(0, .ref (ad x0)), (1, .int x1), (2, .int (0 : Int32))] [1, 2, 0] dJ7_fill_53178_1 rfl (by decide) rfl ?_
  refine v_aload_n K 0 rfl dJ7_fill_53178_2 ?_
  refine nC K hA dJ7_fill_53178_3 ?_
  refine v_istore_n K [(0, .ref (ad x0)), (1, .int x1), (2, .int (0 : Int32)), (3, .int (Int32.ofNat nn))] [1, 2, 3, 0] dJ7_fill_53178_4 rfl (by decide) rfl ?_
  exact wCJ_fill_5 hG hA K RT fuel _ _ _ _ h
theorem cCJ_fill {l : Launch} {D : va_G} {c : Nat → ClassId} {s s' : SS} {ad : Nat → Nat} {G : GG} {x0 : Nat} {nn : Nat} (hG : gok G) (hA : isA x0 nn = true)  {x1 : Int32} (h : CJ_fill G x0 nn s x1 = some s') : Cv l D c yJ7_fill_53178 cJ7_fill_53178 4 none 0 [.ref (ad x0), .int x1] (wC ad c G s) (wC ad c G s') := Cv.ofF (by decide) (Nat.le_of_ble_eq_true rfl) (fun X K RT => wCJ_fill hG hA K RT s x1 h)
set_option maxHeartbeats 4000000 in
set_option maxRecDepth 100000 in
theorem wCT_as_77 {ad : Nat → Nat} {G : GG} {X : Cx} {c : Nat → ClassId} (hG : gok G) (K : Ok X cX9_as RX9 5 1 c) {r : Int32 × SS} (RT : ∀ pc ls, decode cX9_as pc = .ok (.ireturn, 1) → V X 5 0 0 pc ls [.int r.1] (wC ad c G r.2)) : ∀ (y0 : Int32) (s : SS), CT_as_77 G y0 s = some r → V X 5 0 0 77 [] [.int y0] (wC ad c G s) := by
  intro y0 s h
  rw [CT_as_77] at h
  obtain rfl := Option.some.inj h
  exact RT _ _ dX9_as_77
set_option maxHeartbeats 4000000 in
set_option maxRecDepth 100000 in
theorem wCT_as_61 {ad : Nat → Nat} {G : GG} {X : Cx} {c : Nat → ClassId} (hG : gok G) (K : Ok X cX9_as RX9 5 1 c) {r : Int32 × SS} (RT : ∀ pc ls, decode cX9_as pc = .ok (.ireturn, 1) → V X 5 0 0 pc ls [.int r.1] (wC ad c G r.2)) : ∀ (y0 : Int32) (s : SS), CT_as_61 G y0 s = some r → V X 5 0 0 61 [(0, .ref (ad 0))] [.int y0] (wC ad c G s) := by
  intro y0 s h
  rw [CT_as_61] at h
  refine v_istore K [(0, .ref (ad 0)), (4, .int y0)] [1, 0] dX9_as_61 (by decide) rfl ?_
  refine v_iload K 1 rfl dX9_as_63 ?_
  refine v_if_eq K 72 dX9_as_65 (by decide) (fun q13 => ?_) (fun q13 => ?_)
  · replace h := if_e h q13
    refine v_aload_n K 0 rfl dX9_as_72 ?_
    refine v_iconst (v := (2 : Int32)) K dX9_as_73 (by decide) ?_
    obtain ⟨r16, s15, e14, h⟩ := bnd_e h
    refine vC_calli K [.int (2 : Int32)] [] cw_RX9_86 (cCT_failed hG e14) rcT rfl rfl (Nat.le_of_ble_eq_true rfl) (by decide) dX9_as_74 ?_
    refine v_drop [] [] rfl ?_
    exact wCT_as_77 hG K RT _ _ h
  · replace h := if_n h q13
    refine v_iconst (v := (1 : Int32)) K dX9_as_68 (by decide) ?_
    refine v_goto K 77 dX9_as_69 (by decide) ?_
    refine v_drop [] [] rfl ?_
    exact wCT_as_77 hG K RT _ _ h
set_option maxHeartbeats 4000000 in
set_option maxRecDepth 100000 in
theorem wCT_as_60 {ad : Nat → Nat} {G : GG} {X : Cx} {c : Nat → ClassId} (hG : gok G) (K : Ok X cX9_as RX9 5 1 c) {r : Int32 × SS} (RT : ∀ pc ls, decode cX9_as pc = .ok (.ireturn, 1) → V X 5 0 0 pc ls [.int r.1] (wC ad c G r.2)) : ∀ (s : SS), CT_as_60 G s = some r → V X 5 0 0 60 [(0, .ref (ad 0))] [] (wC ad c G s) := by
  intro s h
  rw [CT_as_60] at h
  refine v_iconst (v := (0 : Int32)) K dX9_as_60 (by decide) ?_
  exact wCT_as_61 hG K RT _ _ h
set_option maxHeartbeats 4000000 in
set_option maxRecDepth 100000 in
theorem wCT_as_56 {ad : Nat → Nat} {G : GG} {X : Cx} {c : Nat → ClassId} (hG : gok G) (K : Ok X cX9_as RX9 5 1 c) {r : Int32 × SS} (RT : ∀ pc ls, decode cX9_as pc = .ok (.ireturn, 1) → V X 5 0 0 pc ls [.int r.1] (wC ad c G r.2)) : ∀ (s : SS), CT_as_56 G s = some r → V X 5 0 0 56 [(0, .ref (ad 0))] [] (wC ad c G s) := by
  intro s h
  rw [CT_as_56] at h
  refine v_iconst (v := (1 : Int32)) K dX9_as_56 (by decide) ?_
  refine v_goto K 61 dX9_as_57 (by decide) ?_
  exact wCT_as_61 hG K RT _ _ h
set_option maxHeartbeats 4000000 in
set_option maxRecDepth 100000 in
theorem wCT_as {ad : Nat → Nat} {G : GG} {X : Cx} {c : Nat → ClassId} (hG : gok G) (K : Ok X cX9_as RX9 5 1 c) {r : Int32 × SS} (RT : ∀ pc ls, decode cX9_as pc = .ok (.ireturn, 1) → V X 5 0 0 pc ls [.int r.1] (wC ad c G r.2)) (s : SS) (x1 : Int32) (x2 : Int32) (h : CT_as G s x1 x2 = some r) : V X 5 0 0 0 [(0, .ref (ad 0)), (1, .int x1), (2, .int x2)] [] (wC ad c G s) := by
  rw [CT_as] at h
  refine v_aload_n K 0 rfl dX9_as_0 ?_
  refine v_iconst (v := (0 : Int32)) K dX9_as_1 (by decide) ?_
  refine pC_RX9_68 K dX9_as_2 ?_
  refine v_aload_n K 0 rfl dX9_as_5 ?_
  refine gC_RX9_24 K dX9_as_6 ?_
  refine v_iload_n K 1 rfl dX9_as_9 ?_
  obtain ⟨r3, s2, e1, h⟩ := bnd_e h
  refine vC_callq K [.int x1] [] cw_RX9_151 (cCR_numbered hG e1) rcR rfl rfl (Nat.le_of_ble_eq_true rfl) (by decide) dX9_as_10 ?_
  cases r3 with
  | none =>
    replace h := oc_n h
    refine v_astore_nN K [(0, .ref (ad 0)), (2, .int x2), (3, .null)] [1, 3, 0] dX9_as_13 rfl (by decide) rfl ?_
    refine v_aload_nN K 2 rfl dX9_as_14 ?_
    refine v_ifnonnullN K dX9_as_15 ?_
    refine v_iconst (v := (-1 : Int32)) K dX9_as_18 (by decide) ?_
    obtain rfl := Option.some.inj h
    exact RT _ _ dX9_as_19
  | some a4 =>
    replace h := oc_s h
    obtain ⟨b5, h⟩ := ob_e h
    refine v_astore_n K [(0, .ref (ad 0)), (2, .int x2), (3, .ref a4)] [1, 3, 0] dX9_as_13 rfl (by decide) rfl ?_
    refine v_aload_n K 2 rfl dX9_as_14 ?_
    refine v_ifnonnull K 20 dX9_as_15 (by decide) ?_
    refine v_iload_n K 1 rfl dX9_as_20 ?_
    obtain ⟨r7, e6, h⟩ := bnd0_e h
    refine v_callsi K [.int x2] [] cw_RX9_133 (cCT_isNoKind e6) rfl rfl (Nat.le_of_ble_eq_true rfl) (by decide) z0 dX9_as_21 ?_
    refine v_if_eq K 30 dX9_as_24 (by decide) (fun q8 => ?_) (fun q8 => ?_)
    · replace h := if_e h q8
      refine v_iload_n K 1 rfl dX9_as_30 ?_
      refine v_if_eq K 56 dX9_as_31 (by decide) (fun q9 => ?_) (fun q9 => ?_)
      · replace h := if_e h q9
        refine v_drop [(0, .ref (ad 0))] [0] rfl ?_
        exact wCT_as_56 hG K RT _ h
      · replace h := if_n h q9
        refine v_iload_n K 1 rfl dX9_as_34 ?_
        refine v_iconst (v := (1 : Int32)) K dX9_as_35 (by decide) ?_
        refine v_icmp_ne K 49 dX9_as_36 (by decide) (fun q10 => ?_) (fun q10 => ?_)
        · replace h := if_n h q10
          refine v_aload_n K 2 rfl dX9_as_49 ?_
          refine inst_148 b5 K dX9_as_50 ?_
          refine v_if_eq K 60 dX9_as_53 (by decide) (fun q11 => ?_) (fun q11 => ?_)
          · replace h := if_e h q11
            refine v_drop [(0, .ref (ad 0))] [0] rfl ?_
            exact wCT_as_60 hG K RT _ h
          · replace h := if_n h q11
            refine v_drop [(0, .ref (ad 0))] [0] rfl ?_
            exact wCT_as_56 hG K RT _ h
        · replace h := if_e h q10
          refine v_aload_n K 2 rfl dX9_as_39 ?_
          refine inst_145 b5 K dX9_as_40 ?_
          refine v_if_eq K 60 dX9_as_43 (by decide) (fun q12 => ?_) (fun q12 => ?_)
          · replace h := if_e h q12
            refine v_drop [(0, .ref (ad 0))] [0] rfl ?_
            exact wCT_as_60 hG K RT _ h
          · replace h := if_n h q12
            refine v_goto K 56 dX9_as_46 (by decide) ?_
            refine v_drop [(0, .ref (ad 0))] [0] rfl ?_
            exact wCT_as_56 hG K RT _ h
    · replace h := if_n h q8
      refine v_bipush (v := (-2 : Int32)) K dX9_as_27 (by decide) ?_
      obtain rfl := Option.some.inj h
      exact RT _ _ dX9_as_29
theorem cCT_as {l : Launch} {D : va_G} {c : Nat → ClassId} {s s' : SS} {ad : Nat → Nat} {G : GG} (hG : gok G)  {x1 : Int32} {x2 : Int32} {r : Int32} (h : CT_as G s x1 x2 = some (r, s')) : Ci l D c yX9_as cX9_as 5 (some .int) 1 [.ref (ad 0), .int x1, .int x2] (wC ad c G s) r (wC ad c G s') := Ci.of (by decide) (Nat.le_of_ble_eq_true rfl) (fun X K RT => wCT_as hG K (r := (r, s')) RT s x1 x2 h)
set_option maxHeartbeats 4000000 in
set_option maxRecDepth 100000 in
theorem wCT_awaited_6 {X : Cx} {c : Nat → ClassId} (K : Ok X cX9_awaited RX9 10 1 c) {r : Int64} (RT : ∀ pc ls, decode cX9_awaited pc = .ok (.lreturn, 1) → V X 10 0 0 pc ls [.long r] []) : ∀ (n : Nat) (x0 : Int32) (x1 : Int32) (x2 : Int32) (x3 : Int32) (x4 : Int32) (x5 : Int64) (x7 : Int32), CT_awaited_6 n x0 x1 x2 x3 x4 x5 x7 = some r → V X 10 0 0 6 [(0, .int x0), (1, .int x1), (2, .int x2), (3, .int x3), (4, .int x4), (5, .long x5), (7, .int x7)] [] [] := by
  intro n
  induction n with
  | zero => intro _ _ _ _ _ _ _ h; cases h
  | succ n ih =>
    intro x0 x1 x2 x3 x4 x5 x7 h
    rw [CT_awaited_6] at h
    refine v_iload K 6 rfl dX9_awaited_6 ?_
    refine v_iload_n K 0 rfl dX9_awaited_8 ?_
    refine v_icmp_gt K 76 dX9_awaited_9 (by decide) (fun q1 => ?_) (fun q1 => ?_)
    · replace h := if_e h q1
      refine v_lload K 5 rfl dX9_awaited_76 ?_
      obtain rfl := Option.some.inj h
      exact RT _ _ dX9_awaited_78
    · replace h := if_n h q1
      refine v_iload_n K 0 rfl dX9_awaited_12 ?_
      refine v_iload K 6 rfl dX9_awaited_13 ?_
      obtain ⟨r3, e2, h⟩ := bnd0_e h
      refine v_callsl K [.int x0, .int x7] [] cw_RX9_324 (cCT_choices e2) rfl rfl (Nat.le_of_ble_eq_true rfl) (by decide) z0 dX9_awaited_15 ?_
      refine v_iload_n K 1 rfl dX9_awaited_18 ?_
      refine v_i2l K dX9_awaited_19 ?_
      refine v_iload K 6 rfl dX9_awaited_20 ?_
      obtain ⟨r5, e4, h⟩ := bnd0_e h
      refine v_callsl K [.long (x1).toInt64, .int x7] [.long r3] cw_RX9_256 (cCT_power e4) rfl rfl (Nat.le_of_ble_eq_true rfl) (by decide) z0 dX9_awaited_22 ?_
      refine v_lmul K dX9_awaited_25 ?_
      refine v_bipush (v := (100 : Int32)) K dX9_awaited_26 (by decide) ?_
      refine v_iload_n K 1 rfl dX9_awaited_28 ?_
      refine v_isub K dX9_awaited_29 ?_
      refine v_i2l K dX9_awaited_30 ?_
      refine v_iload_n K 0 rfl dX9_awaited_31 ?_
      refine v_iload K 6 rfl dX9_awaited_32 ?_
      refine v_isub K dX9_awaited_34 ?_
      obtain ⟨r7, e6, h⟩ := bnd0_e h
      refine v_callsl K [.long (((100 : Int32) - x1)).toInt64, .int (x0 - x7)] [.long (r3 * r5)] cw_RX9_256 (cCT_power e6) rfl rfl (Nat.le_of_ble_eq_true rfl) (by decide) z0 dX9_awaited_35 ?_
      refine v_lmul K dX9_awaited_38 ?_
      refine v_lstore K [(0, .int x0), (1, .int x1), (2, .int x2), (3, .int x3), (4, .int x4), (5, .long x5), (7, .int x7), (8, .long ((r3 * r5) * r7))] [1, 2, 3, 4, 5, 6, 7, 0] dX9_awaited_39 (by decide) rfl ?_
      refine v_lload K 5 rfl dX9_awaited_41 ?_
      refine v_lload K 7 rfl dX9_awaited_43 ?_
      refine v_iload_n K 3 rfl dX9_awaited_45 ?_
      refine v_iload K 6 rfl dX9_awaited_46 ?_
      refine v_iload_n K 2 rfl dX9_awaited_48 ?_
      refine minS_RX9_214 K [.int x3, .long ((r3 * r5) * r7), .long x5] (Nat.le_of_ble_eq_true rfl) (by decide) dX9_awaited_49 ?_
      refine v_imul K dX9_awaited_52 ?_
      refine v_iload K 4 rfl dX9_awaited_53 ?_
      refine v_iconst (v := (0 : Int32)) K dX9_awaited_55 (by decide) ?_
      refine v_iload K 6 rfl dX9_awaited_56 ?_
      refine v_iload_n K 2 rfl dX9_awaited_58 ?_
      refine v_isub K dX9_awaited_59 ?_
      refine maxS_RX9_328 K [.int x4, .int (x3 * (if x2 < x7 then x2 else x7)), .long ((r3 * r5) * r7), .long x5] (Nat.le_of_ble_eq_true rfl) (by decide) dX9_awaited_60 ?_
      refine v_imul K dX9_awaited_63 ?_
      refine v_isub K dX9_awaited_64 ?_
      refine v_i2l K dX9_awaited_65 ?_
      refine v_lmul K dX9_awaited_66 ?_
      refine v_ladd K dX9_awaited_67 ?_
      refine v_lstore K [(0, .int x0), (1, .int x1), (2, .int x2), (3, .int x3), (4, .int x4), (5, .long (x5 + (((r3 * r5) * r7) * (((x3 * (if x2 < x7 then x2 else x7)) - (x4 * (if (0 : Int32) < (x7 - x2) then (x7 - x2) else (0 : Int32))))).toInt64))), (7, .int x7)] [1, 2, 3, 4, 5, 0, 6] dX9_awaited_68 (by decide) rfl ?_
      refine v_iinc (v := (x7 + (1 : Int32))) K 6 [(0, .int x0), (1, .int x1), (2, .int x2), (3, .int x3), (4, .int x4), (5, .long (x5 + (((r3 * r5) * r7) * (((x3 * (if x2 < x7 then x2 else x7)) - (x4 * (if (0 : Int32) < (x7 - x2) then (x7 - x2) else (0 : Int32))))).toInt64))), (7, .int (x7 + (1 : Int32)))] [1, 2, 3, 4, 5, 6, 0] dX9_awaited_70 rfl rfl (by decide) rfl ?_
      refine v_goto K 6 dX9_awaited_73 (by decide) ?_
      exact ih _ _ _ _ _ _ _ h
set_option maxHeartbeats 4000000 in
set_option maxRecDepth 100000 in
theorem wCT_awaited {X : Cx} {c : Nat → ClassId} (K : Ok X cX9_awaited RX9 10 1 c) {r : Int64} (RT : ∀ pc ls, decode cX9_awaited pc = .ok (.lreturn, 1) → V X 10 0 0 pc ls [.long r] []) (x0 : Int32) (x1 : Int32) (x2 : Int32) (x3 : Int32) (x4 : Int32) (h : CT_awaited x0 x1 x2 x3 x4 = some r) : V X 10 0 0 0 [(0, .int x0), (1, .int x1), (2, .int x2), (3, .int x3), (4, .int x4)] [] [] := by
  rw [CT_awaited] at h
  refine v_lconst (v := (0 : Int64)) K dX9_awaited_0 (by decide) ?_
  refine v_lstore K [(0, .int x0), (1, .int x1), (2, .int x2), (3, .int x3), (4, .int x4), (5, .long (0 : Int64))] [1, 2, 3, 4, 5, 0] dX9_awaited_1 (by decide) rfl ?_
  refine v_iconst (v := (0 : Int32)) K dX9_awaited_3 (by decide) ?_
  refine v_istore K [(0, .int x0), (1, .int x1), (2, .int x2), (3, .int x3), (4, .int x4), (5, .long (0 : Int64)), (7, .int (0 : Int32))] [1, 2, 3, 4, 5, 6, 0] dX9_awaited_4 (by decide) rfl ?_
  exact wCT_awaited_6 K RT fuel _ _ _ _ _ _ _ h
theorem cCT_awaited {l : Launch} {D : va_G} {c : Nat → ClassId} {x0 : Int32} {x1 : Int32} {x2 : Int32} {x3 : Int32} {x4 : Int32} {r : Int64} (h : CT_awaited x0 x1 x2 x3 x4 = some r) : Cl l D c yX9_awaited cX9_awaited 10 (some .long) 1 [.int x0, .int x1, .int x2, .int x3, .int x4] [] r [] := Cl.of (by decide) (Nat.le_of_ble_eq_true rfl) (fun X K RT => wCT_awaited K RT x0 x1 x2 x3 x4 h)
set_option maxHeartbeats 4000000 in
set_option maxRecDepth 100000 in
theorem wCT_cell_81 {ad : Nat → Nat} {G : GG} {X : Cx} {c : Nat → ClassId} (hG : gok G) (K : Ok X cX9_cell RX9 5 1 c) {r : Int64 × SS} (RT : ∀ pc ls, decode cX9_cell pc = .ok (.lreturn, 1) → V X 5 0 0 pc ls [.long r.1] (wC ad c G r.2)) : ∀ (s : SS), CT_cell_81 G s = some r → V X 5 0 0 81 [(0, .ref (ad 0))] [] (wC ad c G s) := by
  intro s h
  rw [CT_cell_81] at h
  refine v_aload_n K 0 rfl dX9_cell_81 ?_
  refine v_iconst (v := (3 : Int32)) K dX9_cell_82 (by decide) ?_
  obtain ⟨r25, s24, e23, h⟩ := bnd_e h
  refine vC_calll K [.int (3 : Int32)] [] cw_RX9_281 (cCT_lostBy hG e23) rcT rfl rfl (Nat.le_of_ble_eq_true rfl) (by decide) dX9_cell_83 ?_
  obtain rfl := Option.some.inj h
  exact RT _ _ dX9_cell_86
set_option maxHeartbeats 4000000 in
set_option maxRecDepth 100000 in
theorem wCT_cell_54 {ad : Nat → Nat} {G : GG} {X : Cx} {c : Nat → ClassId} (hG : gok G) (K : Ok X cX9_cell RX9 5 1 c) {r : Int64 × SS} (RT : ∀ pc ls, decode cX9_cell pc = .ok (.lreturn, 1) → V X 5 0 0 pc ls [.long r.1] (wC ad c G r.2)) : ∀ (x2 : Int32) (x4 : Nat) (s : SS), CT_cell_54 G x2 x4 s = some r → V X 5 0 0 54 [(0, .ref (ad 0)), (2, .int x2), (4, .ref (ad x4))] [] (wC ad c G s) := by
  intro x2 x4 s h
  rw [CT_cell_54] at h
  refine v_aload K 2 rfl dX9_cell_54 ?_
  obtain ⟨b13, h⟩ := ob_e h
  refine gC_RX9_79 b13 (v := (s x4 1)) K dX9_cell_56 rfl ?_
  refine v_if_ne K 68 dX9_cell_59 (by decide) (fun q14 => ?_) (fun q14 => ?_)
  · replace h := if_n h q14
    refine v_iload_n K 1 rfl dX9_cell_68 ?_
    refine v_if_lt K 81 dX9_cell_69 (by decide) (fun q15 => ?_) (fun q15 => ?_)
    · replace h := if_e h q15
      refine v_drop [(0, .ref (ad 0))] [0] rfl ?_
      exact wCT_cell_81 hG K RT _ h
    · replace h := if_n h q15
      refine v_iload_n K 1 rfl dX9_cell_72 ?_
      refine v_aload K 2 rfl dX9_cell_73 ?_
      obtain ⟨b16, h⟩ := ob_e h
      refine gC_RX9_272 b16 (v := (s x4 3)) K dX9_cell_75 rfl ?_
      refine v_icmp_lt K 87 dX9_cell_78 (by decide) (fun q17 => ?_) (fun q17 => ?_)
      · replace h := if_e h q17
        refine v_aload K 2 rfl dX9_cell_87 ?_
        obtain ⟨b18, h⟩ := ob_e h
        refine gC_RX9_275 b18 K dX9_cell_89 ?_
        refine v_iload_n K 1 rfl dX9_cell_92 ?_
        obtain ⟨b19, h⟩ := ob_e h
        refine lC (v := (s (x4 + 4) x2.toNatClampNeg)) K (aE_4 b18) b19 dX9_cell_93 rfl ?_
        refine v_i2l K dX9_cell_94 ?_
        obtain rfl := Option.some.inj h
        exact RT _ _ dX9_cell_95
      · replace h := if_n h q17
        refine v_drop [(0, .ref (ad 0))] [0] rfl ?_
        exact wCT_cell_81 hG K RT _ h
  · replace h := if_e h q14
    refine v_aload_n K 0 rfl dX9_cell_62 ?_
    refine v_iconst (v := (1 : Int32)) K dX9_cell_63 (by decide) ?_
    obtain ⟨r22, s21, e20, h⟩ := bnd_e h
    refine vC_calll K [.int (1 : Int32)] [] cw_RX9_281 (cCT_lostBy hG e20) rcT rfl rfl (Nat.le_of_ble_eq_true rfl) (by decide) dX9_cell_64 ?_
    obtain rfl := Option.some.inj h
    exact RT _ _ dX9_cell_67
set_option maxHeartbeats 4000000 in
set_option maxRecDepth 100000 in
theorem wCT_cell_19 {ad : Nat → Nat} {G : GG} {X : Cx} {c : Nat → ClassId} (hG : gok G) (K : Ok X cX9_cell RX9 5 1 c) {r : Int64 × SS} (RT : ∀ pc ls, decode cX9_cell pc = .ok (.lreturn, 1) → V X 5 0 0 pc ls [.long r.1] (wC ad c G r.2)) : ∀ (s : SS), CT_cell_19 G s = some r → V X 5 0 0 19 [] [] (wC ad c G s) := by
  intro s h
  rw [CT_cell_19] at h
  refine v_ldc2 (v := (-9223372036854775808 : Int64)) K kC_212 dX9_cell_19 ?_
  obtain rfl := Option.some.inj h
  exact RT _ _ dX9_cell_22
set_option maxHeartbeats 4000000 in
set_option maxRecDepth 100000 in
theorem wCT_cell {ad : Nat → Nat} {G : GG} {X : Cx} {c : Nat → ClassId} (hG : gok G) (K : Ok X cX9_cell RX9 5 1 c) {r : Int64 × SS} (RT : ∀ pc ls, decode cX9_cell pc = .ok (.lreturn, 1) → V X 5 0 0 pc ls [.long r.1] (wC ad c G r.2)) (s : SS) (x1 : Int32) (x2 : Int32) (x3 : Int32) (h : CT_cell G s x1 x2 x3 = some r) : V X 5 0 0 0 [(0, .ref (ad 0)), (1, .int x1), (2, .int x2), (3, .int x3)] [] (wC ad c G s) := by
  rw [CT_cell] at h
  refine v_aload_n K 0 rfl dX9_cell_0 ?_
  refine v_iconst (v := (0 : Int32)) K dX9_cell_1 (by decide) ?_
  refine pC_RX9_68 K dX9_cell_2 ?_
  refine v_iload_n K 1 rfl dX9_cell_5 ?_
  obtain ⟨r2, e1, h⟩ := bnd0_e h
  refine v_callsi K [.int x1] [] cw_RX9_72 (cCT_isNoSheet e1) rfl rfl (Nat.le_of_ble_eq_true rfl) (by decide) z0 dX9_cell_6 ?_
  refine v_if_ne K 19 dX9_cell_9 (by decide) (fun q3 => ?_) (fun q3 => ?_)
  · replace h := if_n h q3
    refine v_drop [] [] rfl ?_
    exact wCT_cell_19 hG K RT _ h
  · replace h := if_e h q3
    refine v_iload_n K 3 rfl dX9_cell_12 ?_
    obtain ⟨r5, e4, h⟩ := bnd0_e h
    refine v_callsi K [.int x3] [] cw_RX9_76 (cCT_isNoSort e4) rfl rfl (Nat.le_of_ble_eq_true rfl) (by decide) z0 dX9_cell_13 ?_
    refine v_if_eq K 23 dX9_cell_16 (by decide) (fun q6 => ?_) (fun q6 => ?_)
    · replace h := if_e h q6
      refine v_aload_n K 0 rfl dX9_cell_23 ?_
      refine gC_RX9_30 K dX9_cell_24 ?_
      refine v_iload_n K 1 rfl dX9_cell_27 ?_
      obtain ⟨b7, h⟩ := ob_e h
      refine qS K b7 dX9_cell_28 ?_
      refine v_astore K [(0, .ref (ad 0)), (2, .int x2), (3, .int x3), (4, .ref (ad (10 + x1.toNatClampNeg)))] [1, 3, 4, 0] dX9_cell_29 (by decide) rfl ?_
      refine v_aload K 3 rfl dX9_cell_31 ?_
      refine gC_RX9_79 (isS_of b7) (v := ((up2 s 0 10 (0 : Int32)) (10 + x1.toNatClampNeg) 1)) K dX9_cell_33 rfl ?_
      refine v_if_eq K 54 dX9_cell_36 (by decide) (fun q8 => ?_) (fun q8 => ?_)
      · replace h := if_e h q8
        refine v_drop [(0, .ref (ad 0)), (2, .int x2), (4, .ref (ad (10 + x1.toNatClampNeg)))] [0, 1, 3] rfl ?_
        exact wCT_cell_54 hG K RT _ _ _ h
      · replace h := if_n h q8
        refine v_aload K 3 rfl dX9_cell_39 ?_
        refine gC_RX9_83 (isS_of b7) (v := ((up2 s 0 10 (0 : Int32)) (10 + x1.toNatClampNeg) 2)) K dX9_cell_41 rfl ?_
        refine v_iload_n K 2 rfl dX9_cell_44 ?_
        refine v_icmp_eq K 54 dX9_cell_45 (by decide) (fun q9 => ?_) (fun q9 => ?_)
        · replace h := if_e h q9
          refine v_drop [(0, .ref (ad 0)), (2, .int x2), (4, .ref (ad (10 + x1.toNatClampNeg)))] [0, 1, 3] rfl ?_
          exact wCT_cell_54 hG K RT _ _ _ h
        · replace h := if_n h q9
          refine v_aload_n K 0 rfl dX9_cell_48 ?_
          refine v_iconst (v := (2 : Int32)) K dX9_cell_49 (by decide) ?_
          obtain ⟨r12, s11, e10, h⟩ := bnd_e h
          refine vC_calll K [.int (2 : Int32)] [] cw_RX9_281 (cCT_lostBy hG e10) rcT rfl rfl (Nat.le_of_ble_eq_true rfl) (by decide) dX9_cell_50 ?_
          obtain rfl := Option.some.inj h
          exact RT _ _ dX9_cell_53
    · replace h := if_n h q6
      refine v_drop [] [] rfl ?_
      exact wCT_cell_19 hG K RT _ h
theorem cCT_cell {l : Launch} {D : va_G} {c : Nat → ClassId} {s s' : SS} {ad : Nat → Nat} {G : GG} (hG : gok G)  {x1 : Int32} {x2 : Int32} {x3 : Int32} {r : Int64} (h : CT_cell G s x1 x2 x3 = some (r, s')) : Cl l D c yX9_cell cX9_cell 5 (some .long) 1 [.ref (ad 0), .int x1, .int x2, .int x3] (wC ad c G s) r (wC ad c G s') := Cl.of (by decide) (Nat.le_of_ble_eq_true rfl) (fun X K RT => wCT_cell hG K (r := (r, s')) RT s x1 x2 x3 h)
set_option maxHeartbeats 4000000 in
set_option maxRecDepth 100000 in
theorem wCT_copy_101 {ad : Nat → Nat} {G : GG} {X : Cx} {c : Nat → ClassId} (hG : gok G) (K : Ok X cX9_copy RX9 8 1 c) {r : Int32 × SS} (RT : ∀ pc ls, decode cX9_copy pc = .ok (.ireturn, 1) → V X 8 0 0 pc ls [.int r.1] (wC ad c G r.2)) : ∀ (s : SS), CT_copy_101 G s = some r → V X 8 0 0 101 [(0, .ref (ad 0))] [] (wC ad c G s) := by
  intro s h
  rw [CT_copy_101] at h
  refine v_aload_n K 0 rfl dX9_copy_101 ?_
  refine v_iconst (v := (3 : Int32)) K dX9_copy_102 (by decide) ?_
  obtain ⟨r26, s25, e24, h⟩ := bnd_e h
  refine vC_calli K [.int (3 : Int32)] [] cw_RX9_86 (cCT_failed hG e24) rcT rfl rfl (Nat.le_of_ble_eq_true rfl) (by decide) dX9_copy_103 ?_
  obtain rfl := Option.some.inj h
  exact RT _ _ dX9_copy_106
set_option maxHeartbeats 4000000 in
set_option maxRecDepth 100000 in
theorem wCT_copy_53 {ad : Nat → Nat} {G : GG} {X : Cx} {c : Nat → ClassId} (hG : gok G) (K : Ok X cX9_copy RX9 8 1 c) {r : Int32 × SS} (RT : ∀ pc ls, decode cX9_copy pc = .ok (.ireturn, 1) → V X 8 0 0 pc ls [.int r.1] (wC ad c G r.2)) : ∀ (s : SS), CT_copy_53 G s = some r → V X 8 0 0 53 [(0, .ref (ad 0))] [] (wC ad c G s) := by
  intro s h
  rw [CT_copy_53] at h
  refine v_aload_n K 0 rfl dX9_copy_53 ?_
  refine v_iconst (v := (1 : Int32)) K dX9_copy_54 (by decide) ?_
  obtain ⟨r29, s28, e27, h⟩ := bnd_e h
  refine vC_calli K [.int (1 : Int32)] [] cw_RX9_86 (cCT_failed hG e27) rcT rfl rfl (Nat.le_of_ble_eq_true rfl) (by decide) dX9_copy_55 ?_
  obtain rfl := Option.some.inj h
  exact RT _ _ dX9_copy_58
set_option maxHeartbeats 4000000 in
set_option maxRecDepth 100000 in
theorem wCT_copy_19 {ad : Nat → Nat} {G : GG} {X : Cx} {c : Nat → ClassId} (hG : gok G) (K : Ok X cX9_copy RX9 8 1 c) {r : Int32 × SS} (RT : ∀ pc ls, decode cX9_copy pc = .ok (.ireturn, 1) → V X 8 0 0 pc ls [.int r.1] (wC ad c G r.2)) : ∀ (s : SS), CT_copy_19 G s = some r → V X 8 0 0 19 [] [] (wC ad c G s) := by
  intro s h
  rw [CT_copy_19] at h
  refine v_iconst (v := (-1 : Int32)) K dX9_copy_19 (by decide) ?_
  obtain rfl := Option.some.inj h
  exact RT _ _ dX9_copy_20
set_option maxHeartbeats 4000000 in
set_option maxRecDepth 100000 in
theorem wCT_copy {ad : Nat → Nat} {G : GG} {X : Cx} {c : Nat → ClassId} (hG : gok G) (K : Ok X cX9_copy RX9 8 1 c) {r : Int32 × SS} (RT : ∀ pc ls, decode cX9_copy pc = .ok (.ireturn, 1) → V X 8 0 0 pc ls [.int r.1] (wC ad c G r.2)) (s : SS) (x1 : Int32) (x2 : Int32) (x3 : Int32) (x4 : Int32) (x5 : Int32) (h : CT_copy G s x1 x2 x3 x4 x5 = some r) : V X 8 0 0 0 [(0, .ref (ad 0)), (1, .int x1), (2, .int x2), (3, .int x3), (4, .int x4), (5, .int x5)] [] (wC ad c G s) := by
  rw [CT_copy] at h
  refine v_aload_n K 0 rfl dX9_copy_0 ?_
  refine v_iconst (v := (0 : Int32)) K dX9_copy_1 (by decide) ?_
  refine pC_RX9_68 K dX9_copy_2 ?_
  refine v_iload_n K 1 rfl dX9_copy_5 ?_
  obtain ⟨r2, e1, h⟩ := bnd0_e h
  refine v_callsi K [.int x1] [] cw_RX9_72 (cCT_isNoSheet e1) rfl rfl (Nat.le_of_ble_eq_true rfl) (by decide) z0 dX9_copy_6 ?_
  refine v_if_ne K 19 dX9_copy_9 (by decide) (fun q3 => ?_) (fun q3 => ?_)
  · replace h := if_n h q3
    refine v_drop [] [] rfl ?_
    exact wCT_copy_19 hG K RT _ h
  · replace h := if_e h q3
    refine v_iload_n K 3 rfl dX9_copy_12 ?_
    obtain ⟨r5, e4, h⟩ := bnd0_e h
    refine v_callsi K [.int x3] [] cw_RX9_72 (cCT_isNoSheet e4) rfl rfl (Nat.le_of_ble_eq_true rfl) (by decide) z0 dX9_copy_13 ?_
    refine v_if_eq K 21 dX9_copy_16 (by decide) (fun q6 => ?_) (fun q6 => ?_)
    · replace h := if_e h q6
      refine v_aload_n K 0 rfl dX9_copy_21 ?_
      refine gC_RX9_30 K dX9_copy_22 ?_
      refine v_iload_n K 1 rfl dX9_copy_25 ?_
      obtain ⟨b7, h⟩ := ob_e h
      refine qS K b7 dX9_copy_26 ?_
      refine v_astore K [(0, .ref (ad 0)), (2, .int x2), (3, .int x3), (4, .int x4), (5, .int x5), (6, .ref (ad (10 + x1.toNatClampNeg)))] [1, 3, 4, 5, 6, 0] dX9_copy_27 (by decide) rfl ?_
      refine v_aload_n K 0 rfl dX9_copy_29 ?_
      refine gC_RX9_30 K dX9_copy_30 ?_
      refine v_iload_n K 2 rfl dX9_copy_33 ?_
      obtain ⟨b8, h⟩ := ob_e h
      refine qS K b8 dX9_copy_34 ?_
      refine v_astore K [(0, .ref (ad 0)), (2, .int x2), (4, .int x4), (5, .int x5), (6, .ref (ad (10 + x1.toNatClampNeg))), (7, .ref (ad (10 + x3.toNatClampNeg)))] [1, 2, 4, 5, 6, 0] dX9_copy_35 (by decide) rfl ?_
      refine v_aload K 4 rfl dX9_copy_37 ?_
      refine gC_RX9_79 (isS_of b7) (v := ((up2 s 0 10 (0 : Int32)) (10 + x1.toNatClampNeg) 1)) K dX9_copy_39 rfl ?_
      refine v_if_eq K 53 dX9_copy_42 (by decide) (fun q9 => ?_) (fun q9 => ?_)
      · replace h := if_e h q9
        refine v_drop [(0, .ref (ad 0))] [0] rfl ?_
        exact wCT_copy_53 hG K RT _ h
      · replace h := if_n h q9
        refine v_aload K 5 rfl dX9_copy_45 ?_
        refine gC_RX9_79 (isS_of b8) (v := ((up2 s 0 10 (0 : Int32)) (10 + x3.toNatClampNeg) 1)) K dX9_copy_47 rfl ?_
        refine v_if_ne K 59 dX9_copy_50 (by decide) (fun q10 => ?_) (fun q10 => ?_)
        · replace h := if_n h q10
          refine v_aload K 4 rfl dX9_copy_59 ?_
          refine gC_RX9_83 (isS_of b7) (v := ((up2 s 0 10 (0 : Int32)) (10 + x1.toNatClampNeg) 2)) K dX9_copy_61 rfl ?_
          refine v_aload K 5 rfl dX9_copy_64 ?_
          refine gC_RX9_83 (isS_of b8) (v := ((up2 s 0 10 (0 : Int32)) (10 + x3.toNatClampNeg) 2)) K dX9_copy_66 rfl ?_
          refine v_icmp_eq K 78 dX9_copy_69 (by decide) (fun q11 => ?_) (fun q11 => ?_)
          · replace h := if_e h q11
            refine v_aload K 4 rfl dX9_copy_78 ?_
            refine v_iload_n K 1 rfl dX9_copy_80 ?_
            refine v_iload K 3 rfl dX9_copy_81 ?_
            obtain ⟨r14, s13, e12, h⟩ := bnd_e h
            refine vC_calli K [.int x2, .int x5] [] cw_RX9_90 (cCE_reaches hG (isS_of b7) e12) (rcE (isS_of b7)) rfl rfl (Nat.le_of_ble_eq_true rfl) (by decide) dX9_copy_83 ?_
            refine v_if_eq K 101 dX9_copy_86 (by decide) (fun q15 => ?_) (fun q15 => ?_)
            · replace h := if_e h q15
              refine v_drop [(0, .ref (ad 0))] [0] rfl ?_
              exact wCT_copy_101 hG K RT _ h
            · replace h := if_n h q15
              refine v_aload K 5 rfl dX9_copy_89 ?_
              refine v_iload K 2 rfl dX9_copy_91 ?_
              refine v_iload K 3 rfl dX9_copy_93 ?_
              obtain ⟨r18, s17, e16, h⟩ := bnd_e h
              refine vC_calli K [.int x4, .int x5] [] cw_RX9_90 (cCE_reaches hG (isS_of b8) e16) (rcE (isS_of b8)) rfl rfl (Nat.le_of_ble_eq_true rfl) (by decide) dX9_copy_95 ?_
              refine v_if_ne K 107 dX9_copy_98 (by decide) (fun q19 => ?_) (fun q19 => ?_)
              · replace h := if_n h q19
                refine v_aload K 4 rfl dX9_copy_107 ?_
                refine gC_RX9_275 (isS_of b7) K dX9_copy_109 ?_
                refine v_iload_n K 1 rfl dX9_copy_112 ?_
                refine v_aload K 5 rfl dX9_copy_113 ?_
                refine gC_RX9_275 (isS_of b8) K dX9_copy_115 ?_
                refine v_iload K 2 rfl dX9_copy_118 ?_
                refine v_iload K 3 rfl dX9_copy_120 ?_
                obtain ⟨b20, h⟩ := ob_e h
                refine cpC K (aE_4 (isS_of b7)) (aE_4 (isS_of b8)) b20 dX9_copy_122 ?_
                refine v_iload K 3 rfl dX9_copy_125 ?_
                obtain rfl := Option.some.inj h
                exact RT _ _ dX9_copy_127
              · replace h := if_e h q19
                refine v_drop [(0, .ref (ad 0))] [0] rfl ?_
                exact wCT_copy_101 hG K RT _ h
          · replace h := if_n h q11
            refine v_aload_n K 0 rfl dX9_copy_72 ?_
            refine v_iconst (v := (2 : Int32)) K dX9_copy_73 (by decide) ?_
            obtain ⟨r23, s22, e21, h⟩ := bnd_e h
            refine vC_calli K [.int (2 : Int32)] [] cw_RX9_86 (cCT_failed hG e21) rcT rfl rfl (Nat.le_of_ble_eq_true rfl) (by decide) dX9_copy_74 ?_
            obtain rfl := Option.some.inj h
            exact RT _ _ dX9_copy_77
        · replace h := if_e h q10
          refine v_drop [(0, .ref (ad 0))] [0] rfl ?_
          exact wCT_copy_53 hG K RT _ h
    · replace h := if_n h q6
      refine v_drop [] [] rfl ?_
      exact wCT_copy_19 hG K RT _ h
theorem cCT_copy {l : Launch} {D : va_G} {c : Nat → ClassId} {s s' : SS} {ad : Nat → Nat} {G : GG} (hG : gok G)  {x1 : Int32} {x2 : Int32} {x3 : Int32} {x4 : Int32} {x5 : Int32} {r : Int32} (h : CT_copy G s x1 x2 x3 x4 x5 = some (r, s')) : Ci l D c yX9_copy cX9_copy 8 (some .int) 1 [.ref (ad 0), .int x1, .int x2, .int x3, .int x4, .int x5] (wC ad c G s) r (wC ad c G s') := Ci.of (by decide) (Nat.le_of_ble_eq_true rfl) (fun X K RT => wCT_copy hG K (r := (r, s')) RT s x1 x2 x3 x4 x5 h)
set_option maxHeartbeats 4000000 in
set_option maxRecDepth 100000 in
theorem wCT_goesOn_63 {X : Cx} {c : Nat → ClassId} (K : Ok X cX9_goesOn RX9 3 1 c) {r : Int32} (RT : nb r = true → ∀ pc ls, decode cX9_goesOn pc = .ok (.ireturn, 1) → V X 3 0 0 pc ls [.int r] []) : ∀ (y0 : Int32), CT_goesOn_63 y0 = some r → V X 3 0 0 63 [] [.int y0] [] := by
  intro y0 h
  rw [CT_goesOn_63] at h
  obtain ⟨b13, h⟩ := ob_e h
  obtain rfl := Option.some.inj h
  exact RT b13 _ _ dX9_goesOn_63
set_option maxHeartbeats 4000000 in
set_option maxRecDepth 100000 in
theorem wCT_goesOn_62 {X : Cx} {c : Nat → ClassId} (K : Ok X cX9_goesOn RX9 3 1 c) {r : Int32} (RT : nb r = true → ∀ pc ls, decode cX9_goesOn pc = .ok (.ireturn, 1) → V X 3 0 0 pc ls [.int r] []) : CT_goesOn_62 = some r → V X 3 0 0 62 [] [] [] := by
  intro  h
  rw [CT_goesOn_62] at h
  refine v_iconst (v := (0 : Int32)) K dX9_goesOn_62 (by decide) ?_
  exact wCT_goesOn_63 K RT _ h
set_option maxHeartbeats 4000000 in
set_option maxRecDepth 100000 in
theorem wCT_goesOn_45 {X : Cx} {c : Nat → ClassId} (K : Ok X cX9_goesOn RX9 3 1 c) {r : Int32} (RT : nb r = true → ∀ pc ls, decode cX9_goesOn pc = .ok (.ireturn, 1) → V X 3 0 0 pc ls [.int r] []) : ∀ (y0 : Int32), CT_goesOn_45 y0 = some r → V X 3 0 0 45 [] [.int y0] [] := by
  intro y0 h
  rw [CT_goesOn_45] at h
  obtain ⟨b12, h⟩ := ob_e h
  obtain rfl := Option.some.inj h
  exact RT b12 _ _ dX9_goesOn_45
set_option maxHeartbeats 4000000 in
set_option maxRecDepth 100000 in
theorem wCT_goesOn_44 {X : Cx} {c : Nat → ClassId} (K : Ok X cX9_goesOn RX9 3 1 c) {r : Int32} (RT : nb r = true → ∀ pc ls, decode cX9_goesOn pc = .ok (.ireturn, 1) → V X 3 0 0 pc ls [.int r] []) : CT_goesOn_44 = some r → V X 3 0 0 44 [] [] [] := by
  intro  h
  rw [CT_goesOn_44] at h
  refine v_iconst (v := (0 : Int32)) K dX9_goesOn_44 (by decide) ?_
  exact wCT_goesOn_45 K RT _ h
set_option maxHeartbeats 4000000 in
set_option maxRecDepth 100000 in
theorem wCT_goesOn_22 {X : Cx} {c : Nat → ClassId} (K : Ok X cX9_goesOn RX9 3 1 c) {r : Int32} (RT : nb r = true → ∀ pc ls, decode cX9_goesOn pc = .ok (.ireturn, 1) → V X 3 0 0 pc ls [.int r] []) : ∀ (y0 : Int32), CT_goesOn_22 y0 = some r → V X 3 0 0 22 [] [.int y0] [] := by
  intro y0 h
  rw [CT_goesOn_22] at h
  obtain ⟨b11, h⟩ := ob_e h
  obtain rfl := Option.some.inj h
  exact RT b11 _ _ dX9_goesOn_22
set_option maxHeartbeats 4000000 in
set_option maxRecDepth 100000 in
theorem wCT_goesOn {X : Cx} {c : Nat → ClassId} (K : Ok X cX9_goesOn RX9 3 1 c) {r : Int32} (RT : nb r = true → ∀ pc ls, decode cX9_goesOn pc = .ok (.ireturn, 1) → V X 3 0 0 pc ls [.int r] []) (x0 : Int32) (x1 : Int32) (h : CT_goesOn x0 x1 = some r) : V X 3 0 0 0 [(0, .int x0), (1, .int x1)] [] [] := by
  rw [CT_goesOn] at h
  refine v_iload_n K 0 rfl dX9_goesOn_0 ?_
  refine v_iconst (v := (3 : Int32)) K dX9_goesOn_1 (by decide) ?_
  obtain ⟨b1, h⟩ := ob_e h
  refine v_irem K dX9_goesOn_2 b1 ?_
  refine v_istore_n K [(0, .int x0), (1, .int x1), (2, .int (x0 - x0 / (3 : Int32) * (3 : Int32)))] [1, 2, 0] dX9_goesOn_3 rfl (by decide) rfl ?_
  refine v_iload_n K 2 rfl dX9_goesOn_4 ?_
  refine v_if_ne K 23 dX9_goesOn_5 (by decide) (fun q2 => ?_) (fun q2 => ?_)
  · replace h := if_n h q2
    refine v_iload_n K 2 rfl dX9_goesOn_23 ?_
    refine v_iconst (v := (1 : Int32)) K dX9_goesOn_24 (by decide) ?_
    refine v_icmp_ne K 46 dX9_goesOn_25 (by decide) (fun q3 => ?_) (fun q3 => ?_)
    · replace h := if_n h q3
      refine v_iload_n K 1 rfl dX9_goesOn_46 ?_
      refine v_bipush (v := (59 : Int32)) K dX9_goesOn_47 (by decide) ?_
      refine v_icmp_ne K 62 dX9_goesOn_49 (by decide) (fun q4 => ?_) (fun q4 => ?_)
      · replace h := if_n h q4
        refine v_drop [] [] rfl ?_
        exact wCT_goesOn_62 K RT  h
      · replace h := if_e h q4
        refine v_iload_n K 0 rfl dX9_goesOn_52 ?_
        refine v_bipush (v := (17 : Int32)) K dX9_goesOn_53 (by decide) ?_
        refine v_icmp_ge K 62 dX9_goesOn_55 (by decide) (fun q5 => ?_) (fun q5 => ?_)
        · replace h := if_e h q5
          refine v_drop [] [] rfl ?_
          exact wCT_goesOn_62 K RT  h
        · replace h := if_n h q5
          refine v_iconst (v := (1 : Int32)) K dX9_goesOn_58 (by decide) ?_
          refine v_goto K 63 dX9_goesOn_59 (by decide) ?_
          refine v_drop [] [] rfl ?_
          exact wCT_goesOn_63 K RT _ h
    · replace h := if_e h q3
      refine v_iload_n K 1 rfl dX9_goesOn_28 ?_
      refine v_bipush (v := (49 : Int32)) K dX9_goesOn_29 (by decide) ?_
      refine v_icmp_lt K 44 dX9_goesOn_31 (by decide) (fun q6 => ?_) (fun q6 => ?_)
      · replace h := if_e h q6
        refine v_drop [] [] rfl ?_
        exact wCT_goesOn_44 K RT  h
      · replace h := if_n h q6
        refine v_iload_n K 1 rfl dX9_goesOn_34 ?_
        refine v_bipush (v := (54 : Int32)) K dX9_goesOn_35 (by decide) ?_
        refine v_icmp_gt K 44 dX9_goesOn_37 (by decide) (fun q7 => ?_) (fun q7 => ?_)
        · replace h := if_e h q7
          refine v_drop [] [] rfl ?_
          exact wCT_goesOn_44 K RT  h
        · replace h := if_n h q7
          refine v_iconst (v := (1 : Int32)) K dX9_goesOn_40 (by decide) ?_
          refine v_goto K 45 dX9_goesOn_41 (by decide) ?_
          refine v_drop [] [] rfl ?_
          exact wCT_goesOn_45 K RT _ h
  · replace h := if_e h q2
    refine v_iload_n K 1 rfl dX9_goesOn_8 ?_
    obtain ⟨r9, e8, h⟩ := bnd0_e h
    refine v_callsi K [.int x1] [] cw_RX9_321 (cCT_placeOf e8) rfl rfl (Nat.le_of_ble_eq_true rfl) (by decide) z0 dX9_goesOn_9 ?_
    refine v_bipush (v := (-9 : Int32)) K dX9_goesOn_12 (by decide) ?_
    refine v_icmp_eq K 21 dX9_goesOn_14 (by decide) (fun q10 => ?_) (fun q10 => ?_)
    · replace h := if_e h q10
      refine v_iconst (v := (0 : Int32)) K dX9_goesOn_21 (by decide) ?_
      refine v_drop [] [] rfl ?_
      exact wCT_goesOn_22 K RT _ h
    · replace h := if_n h q10
      refine v_iconst (v := (1 : Int32)) K dX9_goesOn_17 (by decide) ?_
      refine v_goto K 22 dX9_goesOn_18 (by decide) ?_
      refine v_drop [] [] rfl ?_
      exact wCT_goesOn_22 K RT _ h
theorem cCT_goesOn {l : Launch} {D : va_G} {c : Nat → ClassId} {x0 : Int32} {x1 : Int32} {r : Int32} (h : CT_goesOn x0 x1 = some r) : Ci l D c yX9_goesOn cX9_goesOn 3 (some .boolean) 1 [.int x0, .int x1] [] r [] := Ci.ofZ (by decide) (Nat.le_of_ble_eq_true rfl) (fun X K RT => wCT_goesOn K RT x0 x1 h)
set_option maxHeartbeats 4000000 in
set_option maxRecDepth 100000 in
theorem wCT_joining {ad : Nat → Nat} {G : GG} {X : Cx} {c : Nat → ClassId} (hG : gok G) (K : Ok X cX9_joining RX9 2 1 c) {r : Int32 × SS} (RT : ∀ pc ls, decode cX9_joining pc = .ok (.ireturn, 1) → V X 2 0 0 pc ls [.int r.1] (wC ad c G r.2)) (s : SS) (x1 : Int32) (h : CT_joining G s x1 = some r) : V X 2 0 0 0 [(0, .ref (ad 0)), (1, .int x1)] [] (wC ad c G s) := by
  rw [CT_joining] at h
  refine v_aload_n K 0 rfl dX9_joining_0 ?_
  obtain ⟨r3, s2, e1, h⟩ := bnd_e h
  refine vC_calli K [] [] cw_RX9_117 (cCT_isNoCafe hG e1) rcT rfl rfl (Nat.le_of_ble_eq_true rfl) (by decide) dX9_joining_1 ?_
  refine v_if_eq K 10 dX9_joining_4 (by decide) (fun q4 => ?_) (fun q4 => ?_)
  · replace h := if_e h q4
    refine v_aload_n K 0 rfl dX9_joining_10 ?_
    refine gC_RX9_12 K dX9_joining_11 ?_
    refine gC_RX9_127 rfl (v := (s2 1 6)) K dX9_joining_14 rfl ?_
    refine v_iload_n K 1 rfl dX9_joining_17 ?_
    refine v_icmp_ne K 23 dX9_joining_18 (by decide) (fun q5 => ?_) (fun q5 => ?_)
    · replace h := if_n h q5
      refine v_aload_n K 0 rfl dX9_joining_23 ?_
      refine gC_RX9_12 K dX9_joining_24 ?_
      refine v_iload_n K 1 rfl dX9_joining_27 ?_
      obtain ⟨b6, h⟩ := ob_e h
      refine pC_RX9_127 rfl K b6 dX9_joining_28 ?_
      refine v_aload_n K 0 rfl dX9_joining_31 ?_
      obtain ⟨s8, e7, h⟩ := bnd0_e h
      refine vC_callv K [] [] cw_RX9_105 (cCT_forget hG e7) rcT rfl rfl (Nat.le_of_ble_eq_true rfl) (by decide) dX9_joining_32 ?_
      refine v_iconst (v := (1 : Int32)) K dX9_joining_35 (by decide) ?_
      obtain rfl := Option.some.inj h
      exact RT _ _ dX9_joining_36
    · replace h := if_e h q5
      refine v_iconst (v := (0 : Int32)) K dX9_joining_21 (by decide) ?_
      obtain rfl := Option.some.inj h
      exact RT _ _ dX9_joining_22
  · replace h := if_n h q4
    refine v_bipush (v := (-3 : Int32)) K dX9_joining_7 (by decide) ?_
    obtain rfl := Option.some.inj h
    exact RT _ _ dX9_joining_9
theorem cCT_joining {l : Launch} {D : va_G} {c : Nat → ClassId} {s s' : SS} {ad : Nat → Nat} {G : GG} (hG : gok G)  {x1 : Int32} {r : Int32} (h : CT_joining G s x1 = some (r, s')) : Ci l D c yX9_joining cX9_joining 2 (some .int) 1 [.ref (ad 0), .int x1] (wC ad c G s) r (wC ad c G s') := Ci.of (by decide) (Nat.le_of_ble_eq_true rfl) (fun X K RT => wCT_joining hG K (r := (r, s')) RT s x1 h)
set_option maxHeartbeats 4000000 in
set_option maxRecDepth 100000 in
theorem wCT_lose {ad : Nat → Nat} {G : GG} {X : Cx} {c : Nat → ClassId} (hG : gok G) (K : Ok X cX9_lose RX9 2 1 c) {r : Int32 × SS} (RT : ∀ pc ls, decode cX9_lose pc = .ok (.ireturn, 1) → V X 2 0 0 pc ls [.int r.1] (wC ad c G r.2)) (s : SS) (x1 : Int32) (h : CT_lose G s x1 = some r) : V X 2 0 0 0 [(0, .ref (ad 0)), (1, .int x1)] [] (wC ad c G s) := by
  rw [CT_lose] at h
  refine v_iload_n K 1 rfl dX9_lose_0 ?_
  obtain ⟨r2, e1, h⟩ := bnd0_e h
  refine v_callsi K [.int x1] [] cw_RX9_72 (cCT_isNoSheet e1) rfl rfl (Nat.le_of_ble_eq_true rfl) (by decide) z0 dX9_lose_1 ?_
  refine v_if_eq K 9 dX9_lose_4 (by decide) (fun q3 => ?_) (fun q3 => ?_)
  · replace h := if_e h q3
    refine v_aload_n K 0 rfl dX9_lose_9 ?_
    refine gC_RX9_30 K dX9_lose_10 ?_
    refine v_iload_n K 1 rfl dX9_lose_13 ?_
    obtain ⟨b4, h⟩ := ob_e h
    refine qS K b4 dX9_lose_14 ?_
    refine gC_RX9_79 (isS_of b4) (v := (s (10 + x1.toNatClampNeg) 1)) K dX9_lose_15 rfl ?_
    refine v_if_ne K 23 dX9_lose_18 (by decide) (fun q5 => ?_) (fun q5 => ?_)
    · replace h := if_n h q5
      refine v_aload_n K 0 rfl dX9_lose_23 ?_
      refine gC_RX9_30 K dX9_lose_24 ?_
      refine v_iload_n K 1 rfl dX9_lose_27 ?_
      obtain ⟨b6, h⟩ := ob_e h
      refine qS K b6 dX9_lose_28 ?_
      refine v_iconst (v := (0 : Int32)) K dX9_lose_29 (by decide) ?_
      obtain ⟨b7, h⟩ := ob_e h
      refine pC_RX9_79 (isS_of b6) K b7 dX9_lose_30 ?_
      refine v_iconst (v := (1 : Int32)) K dX9_lose_33 (by decide) ?_
      obtain rfl := Option.some.inj h
      exact RT _ _ dX9_lose_34
    · replace h := if_e h q5
      refine v_iconst (v := (0 : Int32)) K dX9_lose_21 (by decide) ?_
      obtain rfl := Option.some.inj h
      exact RT _ _ dX9_lose_22
  · replace h := if_n h q3
    refine v_iconst (v := (-1 : Int32)) K dX9_lose_7 (by decide) ?_
    obtain rfl := Option.some.inj h
    exact RT _ _ dX9_lose_8
theorem cCT_lose {l : Launch} {D : va_G} {c : Nat → ClassId} {s s' : SS} {ad : Nat → Nat} {G : GG} (hG : gok G)  {x1 : Int32} {r : Int32} (h : CT_lose G s x1 = some (r, s')) : Ci l D c yX9_lose cX9_lose 2 (some .int) 1 [.ref (ad 0), .int x1] (wC ad c G s) r (wC ad c G s') := Ci.of (by decide) (Nat.le_of_ble_eq_true rfl) (fun X K RT => wCT_lose hG K (r := (r, s')) RT s x1 h)
set_option maxHeartbeats 4000000 in
set_option maxRecDepth 100000 in
theorem wCT_many_91 {ad : Nat → Nat} {G : GG} {X : Cx} {c : Nat → ClassId} (hG : gok G) (K : Ok X cX9_many RX9 2 1 c) {r : Int32 × SS} (RT : ∀ pc ls, decode cX9_many pc = .ok (.ireturn, 1) → V X 2 0 0 pc ls [.int r.1] (wC ad c G r.2)) : ∀ (y0 : Int32) (s : SS), CT_many_91 G y0 s = some r → V X 2 0 0 91 [] [.int y0] (wC ad c G s) := by
  intro y0 s h
  rw [CT_many_91] at h
  obtain rfl := Option.some.inj h
  exact RT _ _ dX9_many_91
set_option maxHeartbeats 4000000 in
set_option maxRecDepth 100000 in
theorem wCT_many {ad : Nat → Nat} {G : GG} {X : Cx} {c : Nat → ClassId} (hG : gok G) (K : Ok X cX9_many RX9 2 1 c) {r : Int32 × SS} (RT : ∀ pc ls, decode cX9_many pc = .ok (.ireturn, 1) → V X 2 0 0 pc ls [.int r.1] (wC ad c G r.2)) (s : SS) (x1 : Int32) (h : CT_many G s x1 = some r) : V X 2 0 0 0 [(0, .ref (ad 0)), (1, .int x1)] [] (wC ad c G s) := by
  rw [CT_many] at h
  refine v_iload_n K 1 rfl dX9_many_0 ?_
  by_cases q1 : x1 = (0 : Int32)
  · replace h := if_e h q1
    refine v_tableIn (off := 43) K 44 dX9_many_1 (by rw [q1]; decide) (by rw [q1]; decide) (by rw [q1]; rfl) (by decide) ?_
    refine v_aload_n K 0 rfl dX9_many_44 ?_
    refine gC_RX9_12 K dX9_many_45 ?_
    refine gC_RX9_108 rfl (v := (s 1 2)) K dX9_many_48 rfl ?_
    obtain rfl := Option.some.inj h
    exact RT _ _ dX9_many_51
  · replace h := if_n h q1
    by_cases q2 : x1 = (1 : Int32)
    · replace h := if_e h q2
      refine v_tableIn (off := 51) K 52 dX9_many_1 (by rw [q2]; decide) (by rw [q2]; decide) (by rw [q2]; rfl) (by decide) ?_
      refine v_aload_n K 0 rfl dX9_many_52 ?_
      refine gC_RX9_24 K dX9_many_53 ?_
      refine gC_RX9_102 (v := (s 7 1)) K dX9_many_56 rfl ?_
      obtain rfl := Option.some.inj h
      exact RT _ _ dX9_many_59
    · replace h := if_n h q2
      by_cases q3 : x1 = (2 : Int32)
      · replace h := if_e h q3
        refine v_tableIn (off := 59) K 60 dX9_many_1 (by rw [q3]; decide) (by rw [q3]; decide) (by rw [q3]; rfl) (by decide) ?_
        refine v_aload_n K 0 rfl dX9_many_60 ?_
        refine gC_RX9_12 K dX9_many_61 ?_
        refine gC_RX9_121 rfl (v := (s 1 3)) K dX9_many_64 rfl ?_
        obtain rfl := Option.some.inj h
        exact RT _ _ dX9_many_67
      · replace h := if_n h q3
        by_cases q4 : x1 = (3 : Int32)
        · replace h := if_e h q4
          refine v_tableIn (off := 67) K 68 dX9_many_1 (by rw [q4]; decide) (by rw [q4]; decide) (by rw [q4]; rfl) (by decide) ?_
          refine v_aload_n K 0 rfl dX9_many_68 ?_
          refine gC_RX9_12 K dX9_many_69 ?_
          refine gC_RX9_124 rfl (v := (s 1 4)) K dX9_many_72 rfl ?_
          obtain rfl := Option.some.inj h
          exact RT _ _ dX9_many_75
        · replace h := if_n h q4
          by_cases q5 : x1 = (4 : Int32)
          · replace h := if_e h q5
            refine v_tableIn (off := 75) K 76 dX9_many_1 (by rw [q5]; decide) (by rw [q5]; decide) (by rw [q5]; rfl) (by decide) ?_
            refine v_aload_n K 0 rfl dX9_many_76 ?_
            refine gC_RX9_12 K dX9_many_77 ?_
            refine gC_RX9_127 rfl (v := (s 1 6)) K dX9_many_80 rfl ?_
            refine v_if_eq K 90 dX9_many_83 (by decide) (fun q6 => ?_) (fun q6 => ?_)
            · replace h := if_e h q6
              refine v_iconst (v := (0 : Int32)) K dX9_many_90 (by decide) ?_
              refine v_drop [] [] rfl ?_
              exact wCT_many_91 hG K RT _ _ h
            · replace h := if_n h q6
              refine v_iconst (v := (1 : Int32)) K dX9_many_86 (by decide) ?_
              refine v_goto K 91 dX9_many_87 (by decide) ?_
              refine v_drop [] [] rfl ?_
              exact wCT_many_91 hG K RT _ _ h
          · replace h := if_n h q5
            by_cases q7 : x1 = (5 : Int32)
            · replace h := if_e h q7
              refine v_tableIn (off := 91) K 92 dX9_many_1 (by rw [q7]; decide) (by rw [q7]; decide) (by rw [q7]; rfl) (by decide) ?_
              refine v_aload_n K 0 rfl dX9_many_92 ?_
              refine gC_RX9_12 K dX9_many_93 ?_
              refine gC_RX9_130 rfl (v := (s 1 5)) K dX9_many_96 rfl ?_
              obtain rfl := Option.some.inj h
              exact RT _ _ dX9_many_99
            · replace h := if_n h q7
              by_cases q8 : x1 = (6 : Int32)
              · replace h := if_e h q8
                refine v_tableIn (off := 99) K 100 dX9_many_1 (by rw [q8]; decide) (by rw [q8]; decide) (by rw [q8]; rfl) (by decide) ?_
                refine v_aload_n K 0 rfl dX9_many_100 ?_
                refine gC_RX9_12 K dX9_many_101 ?_
                obtain ⟨r11, s10, e9, h⟩ := bnd_e h
                refine vC_calli K [] [] cw_RX9_301 (cCH_seatsInAll hG rfl e9) (rcH rfl) rfl rfl (Nat.le_of_ble_eq_true rfl) (by decide) dX9_many_104 ?_
                obtain rfl := Option.some.inj h
                exact RT _ _ dX9_many_107
              · replace h := if_n h q8
                refine v_tableOut K 108 dX9_many_1 (by have eq1 := lv_neT q1 (show ((0 : Int32)).toInt = 0 from by decide); have eq2 := lv_neT q2 (show ((1 : Int32)).toInt = 1 from by decide); have eq3 := lv_neT q3 (show ((2 : Int32)).toInt = 2 from by decide); have eq4 := lv_neT q4 (show ((3 : Int32)).toInt = 3 from by decide); have eq5 := lv_neT q5 (show ((4 : Int32)).toInt = 4 from by decide); have eq7 := lv_neT q7 (show ((5 : Int32)).toInt = 5 from by decide); have eq8 := lv_neT q8 (show ((6 : Int32)).toInt = 6 from by decide); omega) (by decide) ?_
                refine v_bipush (v := (-2 : Int32)) K dX9_many_108 (by decide) ?_
                obtain rfl := Option.some.inj h
                exact RT _ _ dX9_many_110
theorem cCT_many {l : Launch} {D : va_G} {c : Nat → ClassId} {s s' : SS} {ad : Nat → Nat} {G : GG} (hG : gok G)  {x1 : Int32} {r : Int32} (h : CT_many G s x1 = some (r, s')) : Ci l D c yX9_many cX9_many 2 (some .int) 1 [.ref (ad 0), .int x1] (wC ad c G s) r (wC ad c G s') := Ci.of (by decide) (Nat.le_of_ble_eq_true rfl) (fun X K RT => wCT_many hG K (r := (r, s')) RT s x1 h)
set_option maxHeartbeats 4000000 in
set_option maxRecDepth 100000 in
theorem wCT_patience_10 {ad : Nat → Nat} {G : GG} {X : Cx} {c : Nat → ClassId} (hG : gok G) (K : Ok X cX9_patience RX9 3 1 c) {r : Int32 × SS} (RT : ∀ pc ls, decode cX9_patience pc = .ok (.ireturn, 1) → V X 3 0 0 pc ls [.int r.1] (wC ad c G r.2)) : ∀ (s : SS), CT_patience_10 G s = some r → V X 3 0 0 10 [] [] (wC ad c G s) := by
  intro s h
  rw [CT_patience_10] at h
  refine v_bipush (v := (-2 : Int32)) K dX9_patience_10 (by decide) ?_
  obtain rfl := Option.some.inj h
  exact RT _ _ dX9_patience_12
set_option maxHeartbeats 4000000 in
set_option maxRecDepth 100000 in
theorem wCT_patience {ad : Nat → Nat} {G : GG} {X : Cx} {c : Nat → ClassId} (hG : gok G) (K : Ok X cX9_patience RX9 3 1 c) {r : Int32 × SS} (RT : ∀ pc ls, decode cX9_patience pc = .ok (.ireturn, 1) → V X 3 0 0 pc ls [.int r.1] (wC ad c G r.2)) (s : SS) (x1 : Int32) (h : CT_patience G s x1 = some r) : V X 3 0 0 0 [(0, .ref (ad 0)), (1, .int x1)] [] (wC ad c G s) := by
  rw [CT_patience] at h
  refine v_iload_n K 1 rfl dX9_patience_0 ?_
  refine v_if_lt K 10 dX9_patience_1 (by decide) (fun q1 => ?_) (fun q1 => ?_)
  · replace h := if_e h q1
    refine v_drop [] [] rfl ?_
    exact wCT_patience_10 hG K RT _ h
  · replace h := if_n h q1
    refine v_iload_n K 1 rfl dX9_patience_4 ?_
    refine v_bipush (v := (30 : Int32)) K dX9_patience_5 (by decide) ?_
    refine v_icmp_le K 13 dX9_patience_7 (by decide) (fun q2 => ?_) (fun q2 => ?_)
    · replace h := if_e h q2
      refine v_aload_n K 0 rfl dX9_patience_13 ?_
      obtain ⟨r5, s4, e3, h⟩ := bnd_e h
      refine vC_calli K [] [] cw_RX9_117 (cCT_isNoCafe hG e3) rcT rfl rfl (Nat.le_of_ble_eq_true rfl) (by decide) dX9_patience_14 ?_
      refine v_if_eq K 23 dX9_patience_17 (by decide) (fun q6 => ?_) (fun q6 => ?_)
      · replace h := if_e h q6
        refine v_aload_n K 0 rfl dX9_patience_23 ?_
        refine gC_RX9_12 K dX9_patience_24 ?_
        refine gC_RX9_124 rfl (v := (s4 1 4)) K dX9_patience_27 rfl ?_
        refine v_istore_n K [(0, .ref (ad 0)), (1, .int x1), (2, .int (s4 1 4))] [1, 2, 0] dX9_patience_30 rfl (by decide) rfl ?_
        refine v_aload_n K 0 rfl dX9_patience_31 ?_
        refine gC_RX9_12 K dX9_patience_32 ?_
        refine v_iload_n K 1 rfl dX9_patience_35 ?_
        refine pC_RX9_124 rfl K dX9_patience_36 ?_
        refine v_aload_n K 0 rfl dX9_patience_39 ?_
        obtain ⟨s8, e7, h⟩ := bnd0_e h
        refine vC_callv K [] [] cw_RX9_105 (cCT_forget hG e7) rcT rfl rfl (Nat.le_of_ble_eq_true rfl) (by decide) dX9_patience_40 ?_
        refine v_iload_n K 2 rfl dX9_patience_43 ?_
        obtain rfl := Option.some.inj h
        exact RT _ _ dX9_patience_44
      · replace h := if_n h q6
        refine v_bipush (v := (-3 : Int32)) K dX9_patience_20 (by decide) ?_
        obtain rfl := Option.some.inj h
        exact RT _ _ dX9_patience_22
    · replace h := if_n h q2
      refine v_drop [] [] rfl ?_
      exact wCT_patience_10 hG K RT _ h
theorem cCT_patience {l : Launch} {D : va_G} {c : Nat → ClassId} {s s' : SS} {ad : Nat → Nat} {G : GG} (hG : gok G)  {x1 : Int32} {r : Int32} (h : CT_patience G s x1 = some (r, s')) : Ci l D c yX9_patience cX9_patience 3 (some .int) 1 [.ref (ad 0), .int x1] (wC ad c G s) r (wC ad c G s') := Ci.of (by decide) (Nat.le_of_ble_eq_true rfl) (fun X K RT => wCT_patience hG K (r := (r, s')) RT s x1 h)
set_option maxHeartbeats 4000000 in
set_option maxRecDepth 100000 in
theorem wCT_put_49 {ad : Nat → Nat} {G : GG} {X : Cx} {c : Nat → ClassId} (hG : gok G) (K : Ok X cX9_put RX9 5 1 c) {r : Int32 × SS} (RT : ∀ pc ls, decode cX9_put pc = .ok (.ireturn, 1) → V X 5 0 0 pc ls [.int r.1] (wC ad c G r.2)) : ∀ (s : SS), CT_put_49 G s = some r → V X 5 0 0 49 [(0, .ref (ad 0))] [] (wC ad c G s) := by
  intro s h
  rw [CT_put_49] at h
  refine v_aload_n K 0 rfl dX9_put_49 ?_
  refine v_iconst (v := (3 : Int32)) K dX9_put_50 (by decide) ?_
  obtain ⟨r17, s16, e15, h⟩ := bnd_e h
  refine vC_calli K [.int (3 : Int32)] [] cw_RX9_86 (cCT_failed hG e15) rcT rfl rfl (Nat.le_of_ble_eq_true rfl) (by decide) dX9_put_51 ?_
  obtain rfl := Option.some.inj h
  exact RT _ _ dX9_put_54
set_option maxHeartbeats 4000000 in
set_option maxRecDepth 100000 in
theorem wCT_put {ad : Nat → Nat} {G : GG} {X : Cx} {c : Nat → ClassId} (hG : gok G) (K : Ok X cX9_put RX9 5 1 c) {r : Int32 × SS} (RT : ∀ pc ls, decode cX9_put pc = .ok (.ireturn, 1) → V X 5 0 0 pc ls [.int r.1] (wC ad c G r.2)) (s : SS) (x1 : Int32) (x2 : Int32) (x3 : Int32) (h : CT_put G s x1 x2 x3 = some r) : V X 5 0 0 0 [(0, .ref (ad 0)), (1, .int x1), (2, .int x2), (3, .int x3)] [] (wC ad c G s) := by
  rw [CT_put] at h
  refine v_aload_n K 0 rfl dX9_put_0 ?_
  refine v_iconst (v := (0 : Int32)) K dX9_put_1 (by decide) ?_
  refine pC_RX9_68 K dX9_put_2 ?_
  refine v_iload_n K 1 rfl dX9_put_5 ?_
  obtain ⟨r2, e1, h⟩ := bnd0_e h
  refine v_callsi K [.int x1] [] cw_RX9_72 (cCT_isNoSheet e1) rfl rfl (Nat.le_of_ble_eq_true rfl) (by decide) z0 dX9_put_6 ?_
  refine v_if_eq K 14 dX9_put_9 (by decide) (fun q3 => ?_) (fun q3 => ?_)
  · replace h := if_e h q3
    refine v_aload_n K 0 rfl dX9_put_14 ?_
    refine gC_RX9_30 K dX9_put_15 ?_
    refine v_iload_n K 1 rfl dX9_put_18 ?_
    obtain ⟨b4, h⟩ := ob_e h
    refine qS K b4 dX9_put_19 ?_
    refine v_astore K [(0, .ref (ad 0)), (2, .int x2), (3, .int x3), (4, .ref (ad (10 + x1.toNatClampNeg)))] [1, 3, 4, 0] dX9_put_20 (by decide) rfl ?_
    refine v_aload K 3 rfl dX9_put_22 ?_
    refine gC_RX9_79 (isS_of b4) (v := ((up2 s 0 10 (0 : Int32)) (10 + x1.toNatClampNeg) 1)) K dX9_put_24 rfl ?_
    refine v_if_ne K 36 dX9_put_27 (by decide) (fun q5 => ?_) (fun q5 => ?_)
    · replace h := if_n h q5
      refine v_iload_n K 1 rfl dX9_put_36 ?_
      refine v_if_lt K 49 dX9_put_37 (by decide) (fun q6 => ?_) (fun q6 => ?_)
      · replace h := if_e h q6
        refine v_drop [(0, .ref (ad 0))] [0] rfl ?_
        exact wCT_put_49 hG K RT _ h
      · replace h := if_n h q6
        refine v_iload_n K 1 rfl dX9_put_40 ?_
        refine v_aload K 3 rfl dX9_put_41 ?_
        refine gC_RX9_272 (isS_of b4) (v := ((up2 s 0 10 (0 : Int32)) (10 + x1.toNatClampNeg) 3)) K dX9_put_43 rfl ?_
        refine v_icmp_lt K 55 dX9_put_46 (by decide) (fun q7 => ?_) (fun q7 => ?_)
        · replace h := if_e h q7
          refine v_aload K 3 rfl dX9_put_55 ?_
          refine gC_RX9_275 (isS_of b4) K dX9_put_57 ?_
          refine v_iload_n K 1 rfl dX9_put_60 ?_
          refine v_aload K 3 rfl dX9_put_61 ?_
          refine v_iload_n K 2 rfl dX9_put_63 ?_
          obtain ⟨r10, s9, e8, h⟩ := bnd_e h
          refine vC_calli K [.int x3] [.int x2, .ref (ad ((10 + x1.toNatClampNeg) + 4))] cw_RX9_278 (cCE_cut hG (isS_of b4) e8) (rcE (isS_of b4)) rfl rfl (Nat.le_of_ble_eq_true rfl) (by decide) dX9_put_64 ?_
          obtain ⟨b11, h⟩ := ob_e h
          refine sC K (aE_4 (isS_of b4)) b11 dX9_put_67 ?_
          refine v_iconst (v := (1 : Int32)) K dX9_put_68 (by decide) ?_
          obtain rfl := Option.some.inj h
          exact RT _ _ dX9_put_69
        · replace h := if_n h q7
          refine v_drop [(0, .ref (ad 0))] [0] rfl ?_
          exact wCT_put_49 hG K RT _ h
    · replace h := if_e h q5
      refine v_aload_n K 0 rfl dX9_put_30 ?_
      refine v_iconst (v := (1 : Int32)) K dX9_put_31 (by decide) ?_
      obtain ⟨r14, s13, e12, h⟩ := bnd_e h
      refine vC_calli K [.int (1 : Int32)] [] cw_RX9_86 (cCT_failed hG e12) rcT rfl rfl (Nat.le_of_ble_eq_true rfl) (by decide) dX9_put_32 ?_
      obtain rfl := Option.some.inj h
      exact RT _ _ dX9_put_35
  · replace h := if_n h q3
    refine v_iconst (v := (-1 : Int32)) K dX9_put_12 (by decide) ?_
    obtain rfl := Option.some.inj h
    exact RT _ _ dX9_put_13
theorem cCT_put {l : Launch} {D : va_G} {c : Nat → ClassId} {s s' : SS} {ad : Nat → Nat} {G : GG} (hG : gok G)  {x1 : Int32} {x2 : Int32} {x3 : Int32} {r : Int32} (h : CT_put G s x1 x2 x3 = some (r, s')) : Ci l D c yX9_put cX9_put 5 (some .int) 1 [.ref (ad 0), .int x1, .int x2, .int x3] (wC ad c G s) r (wC ad c G s') := Ci.of (by decide) (Nat.le_of_ble_eq_true rfl) (fun X K RT => wCT_put hG K (r := (r, s')) RT s x1 x2 x3 h)
set_option maxHeartbeats 4000000 in
set_option maxRecDepth 100000 in
theorem wCT_rain_20 {ad : Nat → Nat} {G : GG} {X : Cx} {c : Nat → ClassId} (hG : gok G) (K : Ok X cX9_rain RX9 2 1 c) {r : Int32 × SS} (RT : ∀ pc ls, decode cX9_rain pc = .ok (.ireturn, 1) → V X 2 0 0 pc ls [.int r.1] (wC ad c G r.2)) : ∀ (x1 : Int32) (s : SS), CT_rain_20 G x1 s = some r → V X 2 0 0 20 [(0, .ref (ad 0)), (1, .int x1)] [] (wC ad c G s) := by
  intro x1 s h
  rw [CT_rain_20] at h
  refine v_aload_n K 0 rfl dX9_rain_20 ?_
  obtain ⟨r6, s5, e4, h⟩ := bnd_e h
  refine vC_calli K [] [] cw_RX9_117 (cCT_isNoCafe hG e4) rcT rfl rfl (Nat.le_of_ble_eq_true rfl) (by decide) dX9_rain_21 ?_
  refine v_if_eq K 30 dX9_rain_24 (by decide) (fun q7 => ?_) (fun q7 => ?_)
  · replace h := if_e h q7
    refine v_aload_n K 0 rfl dX9_rain_30 ?_
    refine gC_RX9_12 K dX9_rain_31 ?_
    refine v_iload_n K 1 rfl dX9_rain_34 ?_
    refine pC_RX9_130 rfl K dX9_rain_35 ?_
    refine v_aload_n K 0 rfl dX9_rain_38 ?_
    obtain ⟨s9, e8, h⟩ := bnd0_e h
    refine vC_callv K [] [] cw_RX9_105 (cCT_forget hG e8) rcT rfl rfl (Nat.le_of_ble_eq_true rfl) (by decide) dX9_rain_39 ?_
    refine v_iconst (v := (1 : Int32)) K dX9_rain_42 (by decide) ?_
    obtain rfl := Option.some.inj h
    exact RT _ _ dX9_rain_43
  · replace h := if_n h q7
    refine v_bipush (v := (-3 : Int32)) K dX9_rain_27 (by decide) ?_
    obtain rfl := Option.some.inj h
    exact RT _ _ dX9_rain_29
set_option maxHeartbeats 4000000 in
set_option maxRecDepth 100000 in
theorem wCT_rain_17 {ad : Nat → Nat} {G : GG} {X : Cx} {c : Nat → ClassId} (hG : gok G) (K : Ok X cX9_rain RX9 2 1 c) {r : Int32 × SS} (RT : ∀ pc ls, decode cX9_rain pc = .ok (.ireturn, 1) → V X 2 0 0 pc ls [.int r.1] (wC ad c G r.2)) : ∀ (s : SS), CT_rain_17 G s = some r → V X 2 0 0 17 [] [] (wC ad c G s) := by
  intro s h
  rw [CT_rain_17] at h
  refine v_bipush (v := (-2 : Int32)) K dX9_rain_17 (by decide) ?_
  obtain rfl := Option.some.inj h
  exact RT _ _ dX9_rain_19
set_option maxHeartbeats 4000000 in
set_option maxRecDepth 100000 in
theorem wCT_rain {ad : Nat → Nat} {G : GG} {X : Cx} {c : Nat → ClassId} (hG : gok G) (K : Ok X cX9_rain RX9 2 1 c) {r : Int32 × SS} (RT : ∀ pc ls, decode cX9_rain pc = .ok (.ireturn, 1) → V X 2 0 0 pc ls [.int r.1] (wC ad c G r.2)) (s : SS) (x1 : Int32) (h : CT_rain G s x1 = some r) : V X 2 0 0 0 [(0, .ref (ad 0)), (1, .int x1)] [] (wC ad c G s) := by
  rw [CT_rain] at h
  refine v_iload_n K 1 rfl dX9_rain_0 ?_
  refine v_bipush (v := (-9 : Int32)) K dX9_rain_1 (by decide) ?_
  refine v_icmp_eq K 20 dX9_rain_3 (by decide) (fun q1 => ?_) (fun q1 => ?_)
  · replace h := if_e h q1
    exact wCT_rain_20 hG K RT _ _ h
  · replace h := if_n h q1
    refine v_iload_n K 1 rfl dX9_rain_6 ?_
    refine v_if_lt K 17 dX9_rain_7 (by decide) (fun q2 => ?_) (fun q2 => ?_)
    · replace h := if_e h q2
      refine v_drop [] [] rfl ?_
      exact wCT_rain_17 hG K RT _ h
    · replace h := if_n h q2
      refine v_iload_n K 1 rfl dX9_rain_10 ?_
      refine v_sipush (v := (400 : Int32)) K dX9_rain_11 (by decide) ?_
      refine v_icmp_lt K 20 dX9_rain_14 (by decide) (fun q3 => ?_) (fun q3 => ?_)
      · replace h := if_e h q3
        exact wCT_rain_20 hG K RT _ _ h
      · replace h := if_n h q3
        refine v_drop [] [] rfl ?_
        exact wCT_rain_17 hG K RT _ h
theorem cCT_rain {l : Launch} {D : va_G} {c : Nat → ClassId} {s s' : SS} {ad : Nat → Nat} {G : GG} (hG : gok G)  {x1 : Int32} {r : Int32} (h : CT_rain G s x1 = some (r, s')) : Ci l D c yX9_rain cX9_rain 2 (some .int) 1 [.ref (ad 0), .int x1] (wC ad c G s) r (wC ad c G s') := Ci.of (by decide) (Nat.le_of_ble_eq_true rfl) (fun X K RT => wCT_rain hG K (r := (r, s')) RT s x1 h)
set_option maxHeartbeats 4000000 in
set_option maxRecDepth 100000 in
theorem wCT_rule_9 {ad : Nat → Nat} {G : GG} {X : Cx} {c : Nat → ClassId} (hG : gok G) (K : Ok X cX9_rule RX9 3 1 c) {r : Int32 × SS} (RT : ∀ pc ls, decode cX9_rule pc = .ok (.ireturn, 1) → V X 3 0 0 pc ls [.int r.1] (wC ad c G r.2)) : ∀ (s : SS), CT_rule_9 G s = some r → V X 3 0 0 9 [] [] (wC ad c G s) := by
  intro s h
  rw [CT_rule_9] at h
  refine v_bipush (v := (-2 : Int32)) K dX9_rule_9 (by decide) ?_
  obtain rfl := Option.some.inj h
  exact RT _ _ dX9_rule_11
set_option maxHeartbeats 4000000 in
set_option maxRecDepth 100000 in
theorem wCT_rule {ad : Nat → Nat} {G : GG} {X : Cx} {c : Nat → ClassId} (hG : gok G) (K : Ok X cX9_rule RX9 3 1 c) {r : Int32 × SS} (RT : ∀ pc ls, decode cX9_rule pc = .ok (.ireturn, 1) → V X 3 0 0 pc ls [.int r.1] (wC ad c G r.2)) (s : SS) (x1 : Int32) (h : CT_rule G s x1 = some r) : V X 3 0 0 0 [(0, .ref (ad 0)), (1, .int x1)] [] (wC ad c G s) := by
  rw [CT_rule] at h
  refine v_iload_n K 1 rfl dX9_rule_0 ?_
  refine v_if_lt K 9 dX9_rule_1 (by decide) (fun q1 => ?_) (fun q1 => ?_)
  · replace h := if_e h q1
    refine v_drop [] [] rfl ?_
    exact wCT_rule_9 hG K RT _ h
  · replace h := if_n h q1
    refine v_iload_n K 1 rfl dX9_rule_4 ?_
    refine v_iconst (v := (2 : Int32)) K dX9_rule_5 (by decide) ?_
    refine v_icmp_le K 12 dX9_rule_6 (by decide) (fun q2 => ?_) (fun q2 => ?_)
    · replace h := if_e h q2
      refine v_aload_n K 0 rfl dX9_rule_12 ?_
      obtain ⟨r5, s4, e3, h⟩ := bnd_e h
      refine vC_calli K [] [] cw_RX9_117 (cCT_isNoCafe hG e3) rcT rfl rfl (Nat.le_of_ble_eq_true rfl) (by decide) dX9_rule_13 ?_
      refine v_if_eq K 22 dX9_rule_16 (by decide) (fun q6 => ?_) (fun q6 => ?_)
      · replace h := if_e h q6
        refine v_aload_n K 0 rfl dX9_rule_22 ?_
        refine gC_RX9_12 K dX9_rule_23 ?_
        refine gC_RX9_121 rfl (v := (s4 1 3)) K dX9_rule_26 rfl ?_
        refine v_istore_n K [(0, .ref (ad 0)), (1, .int x1), (2, .int (s4 1 3))] [1, 2, 0] dX9_rule_29 rfl (by decide) rfl ?_
        refine v_aload_n K 0 rfl dX9_rule_30 ?_
        refine gC_RX9_12 K dX9_rule_31 ?_
        refine v_iload_n K 1 rfl dX9_rule_34 ?_
        refine pC_RX9_121 rfl K dX9_rule_35 ?_
        refine v_aload_n K 0 rfl dX9_rule_38 ?_
        obtain ⟨s8, e7, h⟩ := bnd0_e h
        refine vC_callv K [] [] cw_RX9_105 (cCT_forget hG e7) rcT rfl rfl (Nat.le_of_ble_eq_true rfl) (by decide) dX9_rule_39 ?_
        refine v_iload_n K 2 rfl dX9_rule_42 ?_
        obtain rfl := Option.some.inj h
        exact RT _ _ dX9_rule_43
      · replace h := if_n h q6
        refine v_bipush (v := (-3 : Int32)) K dX9_rule_19 (by decide) ?_
        obtain rfl := Option.some.inj h
        exact RT _ _ dX9_rule_21
    · replace h := if_n h q2
      refine v_drop [] [] rfl ?_
      exact wCT_rule_9 hG K RT _ h
theorem cCT_rule {l : Launch} {D : va_G} {c : Nat → ClassId} {s s' : SS} {ad : Nat → Nat} {G : GG} (hG : gok G)  {x1 : Int32} {r : Int32} (h : CT_rule G s x1 = some (r, s')) : Ci l D c yX9_rule cX9_rule 3 (some .int) 1 [.ref (ad 0), .int x1] (wC ad c G s) r (wC ad c G s') := Ci.of (by decide) (Nat.le_of_ble_eq_true rfl) (fun X K RT => wCT_rule hG K (r := (r, s')) RT s x1 h)
set_option maxHeartbeats 4000000 in
set_option maxRecDepth 100000 in
theorem wCD_begin_74 {ad : Nat → Nat} {G : GG} {o : Nat} {X : Cx} {c : Nat → ClassId} (hG : gok G) (ho : isD o = true) (K : Ok X cX0_begin RX0 3 1 c) {r : SS} (RT : ∀ pc ls, decode cX0_begin pc = .ok (.return_, 1) → V X 3 0 0 pc ls [] (wC ad c G r)) {k15 : Int32 → Int32 → SS → Option SS} (hk15 : ∀ (x1 : Int32) (x2 : Int32) (s : SS), k15 x1 x2 s = some r → V X 3 0 0 15 [(0, .ref (ad o)), (1, .int x1), (2, .int x2)] [] (wC ad c G s)) : ∀ (x1 : Int32) (x2 : Int32) (s : SS), CD_begin_74 G o k15 x1 x2 s = some r → V X 3 0 0 74 [(0, .ref (ad o)), (1, .int x1), (2, .int x2)] [] (wC ad c G s) := by
  intro x1 x2 s h
  rw [CD_begin_74] at h
  refine v_iinc (v := (x2 + (1 : Int32))) K 2 [(0, .ref (ad o)), (1, .int x1), (2, .int (x2 + (1 : Int32)))] [1, 2, 0] dX0_begin_74 rfl rfl (by decide) rfl ?_
  refine v_goto K 15 dX0_begin_77 (by decide) ?_
  exact hk15 _ _ _ h
set_option maxHeartbeats 4000000 in
set_option maxRecDepth 100000 in
theorem wCD_begin_15 {ad : Nat → Nat} {G : GG} {o : Nat} {X : Cx} {c : Nat → ClassId} (hG : gok G) (ho : isD o = true) (K : Ok X cX0_begin RX0 3 1 c) {r : SS} (RT : ∀ pc ls, decode cX0_begin pc = .ok (.return_, 1) → V X 3 0 0 pc ls [] (wC ad c G r)) : ∀ (n : Nat) (x1 : Int32) (x2 : Int32) (s : SS), CD_begin_15 G o n x1 x2 s = some r → V X 3 0 0 15 [(0, .ref (ad o)), (1, .int x1), (2, .int x2)] [] (wC ad c G s) := by
  intro n
  induction n with
  | zero => intro _ _ _ h; cases h
  | succ n ih =>
    intro x1 x2 s h
    rw [CD_begin_15] at h
    refine v_iload_n K 2 rfl dX0_begin_15 ?_
    refine v_aload_n K 0 rfl dX0_begin_16 ?_
    refine gC_RX0_37 ho K dX0_begin_17 ?_
    refine gC_RX0_106 (v := (s 7 1)) K dX0_begin_20 rfl ?_
    refine v_icmp_ge K 80 dX0_begin_23 (by decide) (fun q3 => ?_) (fun q3 => ?_)
    · replace h := if_e h q3
      obtain rfl := Option.some.inj h
      exact RT _ _ dX0_begin_80
    · replace h := if_n h q3
      refine v_aload_n K 0 rfl dX0_begin_26 ?_
      refine gC_RX0_9 ho K dX0_begin_27 ?_
      refine v_iload_n K 2 rfl dX0_begin_30 ?_
      refine v_iconst (v := (3 : Int32)) K dX0_begin_31 (by decide) ?_
      obtain ⟨b4, h⟩ := ob_e h
      refine sC K (aD_1 ho) b4 dX0_begin_32 ?_
      refine v_aload_n K 0 rfl dX0_begin_33 ?_
      refine gC_RX0_15 ho K dX0_begin_34 ?_
      refine v_iload_n K 2 rfl dX0_begin_37 ?_
      refine v_bipush (v := (-9 : Int32)) K dX0_begin_38 (by decide) ?_
      obtain ⟨b5, h⟩ := ob_e h
      refine sC K (aD_2 ho) b5 dX0_begin_40 ?_
      refine v_aload_n K 0 rfl dX0_begin_41 ?_
      refine gC_RX0_18 ho K dX0_begin_42 ?_
      refine v_iload_n K 2 rfl dX0_begin_45 ?_
      refine v_bipush (v := (-9 : Int32)) K dX0_begin_46 (by decide) ?_
      obtain ⟨b6, h⟩ := ob_e h
      refine sC K (aD_3 ho) b6 dX0_begin_48 ?_
      refine v_aload_n K 0 rfl dX0_begin_49 ?_
      refine gC_RX0_21 ho K dX0_begin_50 ?_
      refine v_iload_n K 2 rfl dX0_begin_53 ?_
      refine v_bipush (v := (-9 : Int32)) K dX0_begin_54 (by decide) ?_
      obtain ⟨b7, h⟩ := ob_e h
      refine sC K (aD_4 ho) b7 dX0_begin_56 ?_
      refine v_aload_n K 0 rfl dX0_begin_57 ?_
      refine gC_RX0_24 ho K dX0_begin_58 ?_
      refine v_iload_n K 2 rfl dX0_begin_61 ?_
      refine v_iconst (v := (0 : Int32)) K dX0_begin_62 (by decide) ?_
      obtain ⟨b8, h⟩ := ob_e h
      refine sC K (aD_5 ho) b8 dX0_begin_63 ?_
      refine v_iload_n K 2 rfl dX0_begin_64 ?_
      refine v_iload_n K 1 rfl dX0_begin_65 ?_
      refine v_icmp_eq K 74 dX0_begin_66 (by decide) (fun q9 => ?_) (fun q9 => ?_)
      · replace h := if_e h q9
        exact wCD_begin_74 hG ho K RT (fun a0 a1 a2 e => ih a0 a1 a2 e) _ _ _ h
      · replace h := if_n h q9
        refine v_aload_n K 0 rfl dX0_begin_69 ?_
        refine v_iload_n K 2 rfl dX0_begin_70 ?_
        obtain ⟨s11, e10, h⟩ := bnd0_e h
        refine vC_callv K [.int x2] [] cw_RX0_109 (cCD_list hG ho e10) (rcD ho) rfl rfl (Nat.le_of_ble_eq_true rfl) (by decide) dX0_begin_71 ?_
        exact wCD_begin_74 hG ho K RT (fun a0 a1 a2 e => ih a0 a1 a2 e) _ _ _ h
set_option maxHeartbeats 4000000 in
set_option maxRecDepth 100000 in
theorem wCD_begin {ad : Nat → Nat} {G : GG} {o : Nat} {X : Cx} {c : Nat → ClassId} (hG : gok G) (ho : isD o = true) (K : Ok X cX0_begin RX0 3 1 c) {r : SS} (RT : ∀ pc ls, decode cX0_begin pc = .ok (.return_, 1) → V X 3 0 0 pc ls [] (wC ad c G r)) (s : SS) (x1 : Int32) (h : CD_begin G o s x1 = some r) : V X 3 0 0 0 [(0, .ref (ad o)), (1, .int x1)] [] (wC ad c G s) := by
  rw [CD_begin] at h
  refine v_aload_n K 0 rfl dX0_begin_0 ?_
  refine gC_RX0_30 ho K dX0_begin_1 ?_
  refine v_iconst (v := (-1 : Int32)) K dX0_begin_4 (by decide) ?_
  obtain ⟨s2, e1, h⟩ := bnd0_e h
  refine v_callwv K [.ref (ad (o + 7)), .int (-1 : Int32)] [] cw_RX0_100 (cCJ_fill hG (aD_7 ho) e1) (wC_same ad c G _ _) rfl rfl (Nat.le_of_ble_eq_true rfl) (by decide) z0 dX0_begin_5 ?_
  refine v_aload_n K 0 rfl dX0_begin_8 ?_
  refine v_iconst (v := (0 : Int32)) K dX0_begin_9 (by decide) ?_
  refine pC_RX0_86 ho K dX0_begin_10 ?_
  refine v_iconst (v := (0 : Int32)) K dX0_begin_13 (by decide) ?_
  refine v_istore_n K [(0, .ref (ad o)), (1, .int x1), (2, .int (0 : Int32))] [1, 2, 0] dX0_begin_14 rfl (by decide) rfl ?_
  exact wCD_begin_15 hG ho K RT fuel _ _ _ h
theorem cCD_begin {l : Launch} {D : va_G} {c : Nat → ClassId} {s s' : SS} {ad : Nat → Nat} {G : GG} {o : Nat} (hG : gok G) (ho : isD o = true)  {x1 : Int32} (h : CD_begin G o s x1 = some s') : Cv l D c yX0_begin cX0_begin 3 none 1 [.ref (ad o), .int x1] (wC ad c G s) (wC ad c G s') := Cv.of (by decide) (Nat.le_of_ble_eq_true rfl) (fun X K RT => wCD_begin hG ho K RT s x1 h)
theorem cu_RX0_92_0 : cwOok RX0 92 RX2 RX2 yX2_coinFor yX2_coinFor cX2_coinFor 2 (some .int) 1 := ⟨⟨by decide, by decide, by decide +kernel⟩, by decide, all6 (BG_ix 568 (by decide +kernel) rfl) (BG_ix 571 (by decide +kernel) rfl) (BG_ix 569 (by decide +kernel) rfl) (BG_ix 570 (by decide +kernel) rfl) (BG_ix 569 (by decide +kernel) rfl) (BG_ix 69 (by decide +kernel) rfl), (BG_ix 576 (by decide +kernel) rfl), cX2_coinFor, 2, (some .int), (BG_ix 576 (by decide +kernel) rfl)⟩
theorem cu_RX0_92_1 : cwOok RX0 92 RX7 RX2 yX2_coinFor yX7_coinFor cX7_coinFor 2 (some .int) 1 := ⟨⟨by decide, by decide, by decide +kernel⟩, by decide, all6 (BG_ix 568 (by decide +kernel) rfl) (BG_ix 571 (by decide +kernel) rfl) (BG_ix 569 (by decide +kernel) rfl) (BG_ix 575 (by decide +kernel) rfl) (BG_ix 573 (by decide +kernel) rfl) (BG_ix 70 (by decide +kernel) rfl), (BG_ix 574 (by decide +kernel) rfl), cX2_coinFor, 2, (some .int), (BG_ix 576 (by decide +kernel) rfl)⟩
theorem cu_RX0_92_2 : cwOok RX0 92 RX4 RX2 yX2_coinFor yX7_coinFor cX7_coinFor 2 (some .int) 1 := ⟨⟨by decide, by decide, by decide +kernel⟩, by decide, all6 (BG_ix 568 (by decide +kernel) rfl) (BG_ix 571 (by decide +kernel) rfl) (BG_ix 569 (by decide +kernel) rfl) (BG_ix 572 (by decide +kernel) rfl) (BG_ix 573 (by decide +kernel) rfl) (BG_ix 70 (by decide +kernel) rfl), (BG_ix 574 (by decide +kernel) rfl), cX2_coinFor, 2, (some .int), (BG_ix 576 (by decide +kernel) rfl)⟩
theorem vU_RX0_92 {X : Cx} {cc : ByteArray} {nL d pc : Nat} {c : Nat → ClassId} {ls : List (Nat × Value)} {ad : Nat → Nat} {G : GG} {s s' : SS} {a : Nat} {x1 : Int32} {r : Int32} (hG : gok G) (ha : gm G a = true) (K : Ok X cc RX0 nL d c) (rest : List Value) (h : Cv_coinFor G a s x1 = some (r, s')) (hrm : (rest.map fun v => v.category).sum ≤ 8) (hdc : 0 + 1 ≤ d) (hd : decode cc pc = .ok (.invokevirtual 92, 3)) (k : V X nL 0 0 (pc + 3) ls (.int r :: rest) (wC ad c G s')) : V X nL 0 0 pc ls (.int x1 :: .ref a :: rest) (wC ad c G s) := by
  obtain ⟨q, hq⟩ := gpos (ad := ad) (c := c) (s := s) ha
  rw [Cv_coinFor] at h
  rcases gk3 G a with e | e | e <;> rw [e] at h hq
  · rw [if_pos rfl] at h
    exact v_callO K [.int x1] rest cu_RX0_92_0 (cCG_coinFor hG ha h) q hq rfl (wC_same ad c G s s') rfl rfl hrm (by omega) z0 hd k
  · rw [if_neg (by decide), if_pos rfl] at h
    exact v_callO K [.int x1] rest cu_RX0_92_1 (cCY_coinFor hG ha h) q hq rfl (wC_same ad c G s s') rfl rfl hrm (by omega) z0 hd k
  · rw [if_neg (by decide), if_neg (by decide)] at h
    exact v_callO K [.int x1] rest cu_RX0_92_2 (cCY_coinFor hG ha h) q hq rfl (wC_same ad c G s s') rfl rfl hrm (by omega) z0 hd k
set_option maxHeartbeats 4000000 in
set_option maxRecDepth 100000 in
theorem wCD_coinOf_37 {ad : Nat → Nat} {G : GG} {o : Nat} {X : Cx} {c : Nat → ClassId} (hG : gok G) (ho : isD o = true) (K : Ok X cX0_coinOf RX0 2 1 c) {r : Int32 × SS} (RT : ∀ pc ls, decode cX0_coinOf pc = .ok (.ireturn, 1) → V X 2 0 0 pc ls [.int r.1] (wC ad c G r.2)) : ∀ (y0 : Int32) (s : SS), CD_coinOf_37 G o y0 s = some r → V X 2 0 0 37 [] [.int y0] (wC ad c G s) := by
  intro y0 s h
  rw [CD_coinOf_37] at h
  obtain rfl := Option.some.inj h
  exact RT _ _ dX0_coinOf_37
set_option maxHeartbeats 4000000 in
set_option maxRecDepth 100000 in
theorem wCD_coinOf {ad : Nat → Nat} {G : GG} {o : Nat} {X : Cx} {c : Nat → ClassId} (hG : gok G) (ho : isD o = true) (K : Ok X cX0_coinOf RX0 2 1 c) {r : Int32 × SS} (RT : ∀ pc ls, decode cX0_coinOf pc = .ok (.ireturn, 1) → V X 2 0 0 pc ls [.int r.1] (wC ad c G r.2)) (s : SS) (x1 : Int32) (h : CD_coinOf G o s x1 = some r) : V X 2 0 0 0 [(0, .ref (ad o)), (1, .int x1)] [] (wC ad c G s) := by
  rw [CD_coinOf] at h
  refine v_aload_n K 0 rfl dX0_coinOf_0 ?_
  refine gC_RX0_18 ho K dX0_coinOf_1 ?_
  refine v_iload_n K 1 rfl dX0_coinOf_4 ?_
  obtain ⟨b1, h⟩ := ob_e h
  refine lC (v := (s (o + 3) x1.toNatClampNeg)) K (aD_3 ho) b1 dX0_coinOf_5 rfl ?_
  refine v_bipush (v := (-9 : Int32)) K dX0_coinOf_6 (by decide) ?_
  refine v_icmp_ne K 15 dX0_coinOf_8 (by decide) (fun q2 => ?_) (fun q2 => ?_)
  · replace h := if_n h q2
    refine v_aload_n K 0 rfl dX0_coinOf_15 ?_
    refine gC_RX0_47 ho K dX0_coinOf_16 ?_
    refine v_iload_n K 1 rfl dX0_coinOf_19 ?_
    obtain ⟨b3, h⟩ := ob_e h
    obtain ⟨a4, e5, h⟩ := gld_e h
    refine qG K e5 b3 dX0_coinOf_20 ?_
    refine v_aload_n K 0 rfl dX0_coinOf_21 ?_
    refine gC_RX0_21 ho K dX0_coinOf_22 ?_
    refine v_iload_n K 1 rfl dX0_coinOf_25 ?_
    obtain ⟨b6, h⟩ := ob_e h
    refine lC (v := (s (o + 4) x1.toNatClampNeg)) K (aD_4 ho) b6 dX0_coinOf_26 rfl ?_
    refine v_aload_n K 0 rfl dX0_coinOf_27 ?_
    refine gC_RX0_18 ho K dX0_coinOf_28 ?_
    refine v_iload_n K 1 rfl dX0_coinOf_31 ?_
    obtain ⟨b7, h⟩ := ob_e h
    refine lC (v := (s (o + 3) x1.toNatClampNeg)) K (aD_3 ho) b7 dX0_coinOf_32 rfl ?_
    refine v_isub K dX0_coinOf_33 ?_
    obtain ⟨r10, s9, e8, h⟩ := bnd_e h
    refine vU_RX0_92 hG (hG _ _ e5) K [] e8 (Nat.le_of_ble_eq_true rfl) (by decide) dX0_coinOf_34 ?_
    refine v_drop [] [] rfl ?_
    exact wCD_coinOf_37 hG ho K RT _ _ h
  · replace h := if_e h q2
    refine v_iconst (v := (0 : Int32)) K dX0_coinOf_11 (by decide) ?_
    refine v_goto K 37 dX0_coinOf_12 (by decide) ?_
    refine v_drop [] [] rfl ?_
    exact wCD_coinOf_37 hG ho K RT _ _ h
theorem cCD_coinOf {l : Launch} {D : va_G} {c : Nat → ClassId} {s s' : SS} {ad : Nat → Nat} {G : GG} {o : Nat} (hG : gok G) (ho : isD o = true)  {x1 : Int32} {r : Int32} (h : CD_coinOf G o s x1 = some (r, s')) : Ci l D c yX0_coinOf cX0_coinOf 2 (some .int) 1 [.ref (ad o), .int x1] (wC ad c G s) r (wC ad c G s') := Ci.of (by decide) (Nat.le_of_ble_eq_true rfl) (fun X K RT => wCD_coinOf hG ho K (r := (r, s')) RT s x1 h)
set_option maxHeartbeats 4000000 in
set_option maxRecDepth 100000 in
theorem wCD_findPlace_113 {ad : Nat → Nat} {G : GG} {o : Nat} {X : Cx} {c : Nat → ClassId} (hG : gok G) (ho : isD o = true) (K : Ok X cX0_findPlace RX0 4 1 c) {r : Int32 × SS} (RT : ∀ pc ls, decode cX0_findPlace pc = .ok (.ireturn, 1) → V X 4 0 0 pc ls [.int r.1] (wC ad c G r.2)) : ∀ (x3 : Int32) (s : SS), CD_findPlace_113 G o x3 s = some r → V X 4 0 0 113 [(3, .int x3)] [] (wC ad c G s) := by
  intro x3 s h
  rw [CD_findPlace_113] at h
  refine v_iload_n K 0 rfl dX0_findPlace_113 ?_
  obtain rfl := Option.some.inj h
  exact RT _ _ dX0_findPlace_114
set_option maxHeartbeats 4000000 in
set_option maxRecDepth 100000 in
theorem wCD_findPlace_90 {ad : Nat → Nat} {G : GG} {o : Nat} {X : Cx} {c : Nat → ClassId} (hG : gok G) (ho : isD o = true) (K : Ok X cX0_findPlace RX0 4 1 c) {r : Int32 × SS} (RT : ∀ pc ls, decode cX0_findPlace pc = .ok (.ireturn, 1) → V X 4 0 0 pc ls [.int r.1] (wC ad c G r.2)) : ∀ (y0 : Int32) (x1 : Int32) (s : SS), CD_findPlace_90 G o y0 x1 s = some r → V X 4 0 0 90 [(0, .ref (ad o)), (1, .int x1)] [.int y0] (wC ad c G s) := by
  intro y0 x1 s h
  rw [CD_findPlace_90] at h
  refine v_istore_n K [(0, .ref (ad o)), (1, .int x1), (3, .int y0)] [1, 2, 0] dX0_findPlace_90 rfl (by decide) rfl ?_
  refine v_iload_n K 2 rfl dX0_findPlace_91 ?_
  refine v_bipush (v := (-9 : Int32)) K dX0_findPlace_92 (by decide) ?_
  refine v_icmp_eq K 113 dX0_findPlace_94 (by decide) (fun q20 => ?_) (fun q20 => ?_)
  · replace h := if_e h q20
    refine v_drop [(3, .int y0)] [2] rfl ?_
    exact wCD_findPlace_113 hG ho K RT _ _ h
  · replace h := if_n h q20
    refine v_aload_n K 0 rfl dX0_findPlace_97 ?_
    refine gC_RX0_30 ho K dX0_findPlace_98 ?_
    refine v_iload_n K 2 rfl dX0_findPlace_101 ?_
    refine v_iload_n K 1 rfl dX0_findPlace_102 ?_
    obtain ⟨b21, h⟩ := ob_e h
    refine sC K (aD_7 ho) b21 dX0_findPlace_103 ?_
    refine v_aload_n K 0 rfl dX0_findPlace_104 ?_
    refine gC_RX0_30 ho K dX0_findPlace_105 ?_
    refine v_iload_n K 2 rfl dX0_findPlace_108 ?_
    refine v_iconst (v := (1 : Int32)) K dX0_findPlace_109 (by decide) ?_
    refine v_iadd K dX0_findPlace_110 ?_
    refine v_iload_n K 1 rfl dX0_findPlace_111 ?_
    obtain ⟨b22, h⟩ := ob_e h
    refine sC K (aD_7 ho) b22 dX0_findPlace_112 ?_
    refine v_drop [(3, .int y0)] [2] rfl ?_
    exact wCD_findPlace_113 hG ho K RT _ _ h
set_option maxHeartbeats 4000000 in
set_option maxRecDepth 100000 in
theorem wCD_findPlace_52 {ad : Nat → Nat} {G : GG} {o : Nat} {X : Cx} {c : Nat → ClassId} (hG : gok G) (ho : isD o = true) (K : Ok X cX0_findPlace RX0 4 1 c) {r : Int32 × SS} (RT : ∀ pc ls, decode cX0_findPlace pc = .ok (.ireturn, 1) → V X 4 0 0 pc ls [.int r.1] (wC ad c G r.2)) : ∀ (x1 : Int32) (x2 : Nat) (x3 : Int32) (s : SS), CD_findPlace_52 G o x1 x2 x3 s = some r → V X 4 0 0 52 [(0, .ref (ad o)), (1, .int x1), (2, .ref x2), (3, .int x3)] [] (wC ad c G s) := by
  intro x1 x2 x3 s h
  rw [CD_findPlace_52] at h
  refine v_iload_n K 3 rfl dX0_findPlace_52 ?_
  refine v_bipush (v := (-9 : Int32)) K dX0_findPlace_53 (by decide) ?_
  refine v_icmp_eq K 67 dX0_findPlace_55 (by decide) (fun q13 => ?_) (fun q13 => ?_)
  · replace h := if_e h q13
    refine v_aload_n K 0 rfl dX0_findPlace_67 ?_
    refine gC_RX0_33 ho (v := (s o 9)) K dX0_findPlace_68 rfl ?_
    refine gC_RX0_159 (hou_ok (s o 9)) (v := (s (hou (s o 9)) 6)) K dX0_findPlace_71 rfl ?_
    refine v_if_eq K 88 dX0_findPlace_74 (by decide) (fun q14 => ?_) (fun q14 => ?_)
    · replace h := if_e h q14
      refine v_bipush (v := (-9 : Int32)) K dX0_findPlace_88 (by decide) ?_
      refine v_drop [(0, .ref (ad o)), (1, .int x1)] [0, 1] rfl ?_
      exact wCD_findPlace_90 hG ho K RT _ _ _ h
    · replace h := if_n h q14
      refine v_aload_n K 0 rfl dX0_findPlace_77 ?_
      refine v_aload_n K 2 rfl dX0_findPlace_78 ?_
      obtain ⟨b15, h⟩ := ob_e h
      refine gC_RX0_150 b15 K dX0_findPlace_79 ?_
      obtain ⟨r18, s17, e16, h⟩ := bnd_e h
      refine vC_calli K [.int (gv G x2 1)] [] cw_RX0_163 (cCD_twoTables hG ho e16) (rcD ho) rfl rfl (Nat.le_of_ble_eq_true rfl) (by decide) dX0_findPlace_82 ?_
      refine v_goto K 90 dX0_findPlace_85 (by decide) ?_
      refine v_drop [(0, .ref (ad o)), (1, .int x1)] [0, 1] rfl ?_
      exact wCD_findPlace_90 hG ho K RT _ _ _ h
  · replace h := if_n h q13
    refine v_aload_n K 0 rfl dX0_findPlace_58 ?_
    refine gC_RX0_30 ho K dX0_findPlace_59 ?_
    refine v_iload_n K 3 rfl dX0_findPlace_62 ?_
    refine v_iload_n K 1 rfl dX0_findPlace_63 ?_
    obtain ⟨b19, h⟩ := ob_e h
    refine sC K (aD_7 ho) b19 dX0_findPlace_64 ?_
    refine v_iload_n K 3 rfl dX0_findPlace_65 ?_
    obtain rfl := Option.some.inj h
    exact RT _ _ dX0_findPlace_66
set_option maxHeartbeats 4000000 in
set_option maxRecDepth 100000 in
theorem wCD_findPlace_35 {ad : Nat → Nat} {G : GG} {o : Nat} {X : Cx} {c : Nat → ClassId} (hG : gok G) (ho : isD o = true) (K : Ok X cX0_findPlace RX0 4 1 c) {r : Int32 × SS} (RT : ∀ pc ls, decode cX0_findPlace pc = .ok (.ireturn, 1) → V X 4 0 0 pc ls [.int r.1] (wC ad c G r.2)) : ∀ (y0 : Int32) (x1 : Int32) (x2 : Nat) (s : SS), CD_findPlace_35 G o y0 x1 x2 s = some r → V X 4 0 0 35 [(0, .ref (ad o)), (1, .int x1), (2, .ref x2)] [.int y0] (wC ad c G s) := by
  intro y0 x1 x2 s h
  rw [CD_findPlace_35] at h
  refine v_istore_n K [(0, .ref (ad o)), (1, .int x1), (2, .ref x2), (3, .int y0)] [1, 2, 3, 0] dX0_findPlace_35 rfl (by decide) rfl ?_
  refine v_iload_n K 3 rfl dX0_findPlace_36 ?_
  refine v_bipush (v := (-9 : Int32)) K dX0_findPlace_37 (by decide) ?_
  refine v_icmp_ne K 52 dX0_findPlace_39 (by decide) (fun q8 => ?_) (fun q8 => ?_)
  · replace h := if_n h q8
    exact wCD_findPlace_52 hG ho K RT _ _ _ _ h
  · replace h := if_e h q8
    refine v_aload_n K 0 rfl dX0_findPlace_42 ?_
    refine v_aload_n K 2 rfl dX0_findPlace_43 ?_
    obtain ⟨b9, h⟩ := ob_e h
    refine gC_RX0_150 b9 K dX0_findPlace_44 ?_
    refine v_iconst (v := (-1 : Int32)) K dX0_findPlace_47 (by decide) ?_
    obtain ⟨r12, s11, e10, h⟩ := bnd_e h
    refine vC_calli K [.int (gv G x2 1), .int (-1 : Int32)] [] cw_RX0_156 (cCD_oneTable hG ho e10) (rcD ho) rfl rfl (Nat.le_of_ble_eq_true rfl) (by decide) dX0_findPlace_48 ?_
    refine v_istore_n K [(0, .ref (ad o)), (1, .int x1), (2, .ref x2), (3, .int r12)] [1, 2, 3, 0] dX0_findPlace_51 rfl (by decide) rfl ?_
    exact wCD_findPlace_52 hG ho K RT _ _ _ _ h
set_option maxHeartbeats 4000000 in
set_option maxRecDepth 100000 in
theorem wCD_findPlace {ad : Nat → Nat} {G : GG} {o : Nat} {X : Cx} {c : Nat → ClassId} (hG : gok G) (ho : isD o = true) (K : Ok X cX0_findPlace RX0 4 1 c) {r : Int32 × SS} (RT : ∀ pc ls, decode cX0_findPlace pc = .ok (.ireturn, 1) → V X 4 0 0 pc ls [.int r.1] (wC ad c G r.2)) (s : SS) (x1 : Int32) (h : CD_findPlace G o s x1 = some r) : V X 4 0 0 0 [(0, .ref (ad o)), (1, .int x1)] [] (wC ad c G s) := by
  rw [CD_findPlace] at h
  refine v_aload_n K 0 rfl dX0_findPlace_0 ?_
  refine gC_RX0_47 ho K dX0_findPlace_1 ?_
  refine v_iload_n K 1 rfl dX0_findPlace_4 ?_
  obtain ⟨b1, h⟩ := ob_e h
  obtain ⟨a2, e3, h⟩ := gld_e h
  refine qG K e3 b1 dX0_findPlace_5 ?_
  refine v_astore_n K [(0, .ref (ad o)), (1, .int x1), (2, .ref a2)] [1, 2, 0] dX0_findPlace_6 rfl (by decide) rfl ?_
  refine v_aload_n K 0 rfl dX0_findPlace_7 ?_
  refine gC_RX0_33 ho (v := (s o 9)) K dX0_findPlace_8 rfl ?_
  refine gC_RX0_147 (hou_ok (s o 9)) (v := (s (hou (s o 9)) 3)) K dX0_findPlace_11 rfl ?_
  refine v_iconst (v := (2 : Int32)) K dX0_findPlace_14 (by decide) ?_
  refine v_icmp_ne K 33 dX0_findPlace_15 (by decide) (fun q4 => ?_) (fun q4 => ?_)
  · replace h := if_n h q4
    refine v_bipush (v := (-9 : Int32)) K dX0_findPlace_33 (by decide) ?_
    exact wCD_findPlace_35 hG ho K RT _ _ _ _ h
  · replace h := if_e h q4
    refine v_aload_n K 0 rfl dX0_findPlace_18 ?_
    refine v_aload_n K 2 rfl dX0_findPlace_19 ?_
    refine gC_RX0_150 (hG _ _ e3) K dX0_findPlace_20 ?_
    refine v_aload_n K 2 rfl dX0_findPlace_23 ?_
    refine gC_RX0_153 (hG _ _ e3) K dX0_findPlace_24 ?_
    obtain ⟨r7, s6, e5, h⟩ := bnd_e h
    refine vC_calli K [.int (gv G a2 1), .int (gv G a2 4)] [] cw_RX0_156 (cCD_oneTable hG ho e5) (rcD ho) rfl rfl (Nat.le_of_ble_eq_true rfl) (by decide) dX0_findPlace_27 ?_
    refine v_goto K 35 dX0_findPlace_30 (by decide) ?_
    exact wCD_findPlace_35 hG ho K RT _ _ _ _ h
theorem cCD_findPlace {l : Launch} {D : va_G} {c : Nat → ClassId} {s s' : SS} {ad : Nat → Nat} {G : GG} {o : Nat} (hG : gok G) (ho : isD o = true)  {x1 : Int32} {r : Int32} (h : CD_findPlace G o s x1 = some (r, s')) : Ci l D c yX0_findPlace cX0_findPlace 4 (some .int) 1 [.ref (ad o), .int x1] (wC ad c G s) r (wC ad c G s') := Ci.of (by decide) (Nat.le_of_ble_eq_true rfl) (fun X K RT => wCD_findPlace hG ho K (r := (r, s')) RT s x1 h)
set_option maxHeartbeats 4000000 in
set_option maxRecDepth 100000 in
theorem wCD_goWhoseTimeIsOver_49 {ad : Nat → Nat} {G : GG} {o : Nat} {X : Cx} {c : Nat → ClassId} (hG : gok G) (ho : isD o = true) (K : Ok X cX0_goWhoseTimeIsOver RX0 4 1 c) {r : SS} (RT : ∀ pc ls, decode cX0_goWhoseTimeIsOver pc = .ok (.return_, 1) → V X 4 0 0 pc ls [] (wC ad c G r)) {k2 : Int32 → Int32 → SS → Option SS} (hk2 : ∀ (x1 : Int32) (x2 : Int32) (s : SS), k2 x1 x2 s = some r → V X 4 0 0 2 [(0, .ref (ad o)), (1, .int x1), (2, .int x2)] [] (wC ad c G s)) : ∀ (x1 : Int32) (x2 : Int32) (s : SS), CD_goWhoseTimeIsOver_49 G o k2 x1 x2 s = some r → V X 4 0 0 49 [(0, .ref (ad o)), (1, .int x1), (2, .int x2)] [] (wC ad c G s) := by
  intro x1 x2 s h
  rw [CD_goWhoseTimeIsOver_49] at h
  refine v_iinc (v := (x2 + (1 : Int32))) K 2 [(0, .ref (ad o)), (1, .int x1), (2, .int (x2 + (1 : Int32)))] [1, 2, 0] dX0_goWhoseTimeIsOver_49 rfl rfl (by decide) rfl ?_
  refine v_goto K 2 dX0_goWhoseTimeIsOver_52 (by decide) ?_
  exact hk2 _ _ _ h
set_option maxHeartbeats 4000000 in
set_option maxRecDepth 100000 in
theorem wCD_goWhoseTimeIsOver_2 {ad : Nat → Nat} {G : GG} {o : Nat} {X : Cx} {c : Nat → ClassId} (hG : gok G) (ho : isD o = true) (K : Ok X cX0_goWhoseTimeIsOver RX0 4 1 c) {r : SS} (RT : ∀ pc ls, decode cX0_goWhoseTimeIsOver pc = .ok (.return_, 1) → V X 4 0 0 pc ls [] (wC ad c G r)) : ∀ (n : Nat) (x1 : Int32) (x2 : Int32) (s : SS), CD_goWhoseTimeIsOver_2 G o n x1 x2 s = some r → V X 4 0 0 2 [(0, .ref (ad o)), (1, .int x1), (2, .int x2)] [] (wC ad c G s) := by
  intro n
  induction n with
  | zero => intro _ _ _ h; cases h
  | succ n ih =>
    intro x1 x2 s h
    rw [CD_goWhoseTimeIsOver_2] at h
    refine v_iload_n K 2 rfl dX0_goWhoseTimeIsOver_2 ?_
    refine v_aload_n K 0 rfl dX0_goWhoseTimeIsOver_3 ?_
    refine gC_RX0_86 ho (v := (s o 10)) K dX0_goWhoseTimeIsOver_4 rfl ?_
    refine v_icmp_ge K 55 dX0_goWhoseTimeIsOver_7 (by decide) (fun q1 => ?_) (fun q1 => ?_)
    · replace h := if_e h q1
      obtain rfl := Option.some.inj h
      exact RT _ _ dX0_goWhoseTimeIsOver_55
    · replace h := if_n h q1
      refine v_aload_n K 0 rfl dX0_goWhoseTimeIsOver_10 ?_
      refine gC_RX0_27 ho K dX0_goWhoseTimeIsOver_11 ?_
      refine v_iload_n K 2 rfl dX0_goWhoseTimeIsOver_14 ?_
      obtain ⟨b2, h⟩ := ob_e h
      refine lC (v := (s (o + 6) x2.toNatClampNeg)) K (aD_6 ho) b2 dX0_goWhoseTimeIsOver_15 rfl ?_
      refine v_istore_n K [(0, .ref (ad o)), (1, .int x1), (2, .int x2), (3, .int (s (o + 6) x2.toNatClampNeg))] [1, 2, 3, 0] dX0_goWhoseTimeIsOver_16 rfl (by decide) rfl ?_
      refine v_aload_n K 0 rfl dX0_goWhoseTimeIsOver_17 ?_
      refine gC_RX0_9 ho K dX0_goWhoseTimeIsOver_18 ?_
      refine v_iload_n K 3 rfl dX0_goWhoseTimeIsOver_21 ?_
      obtain ⟨b3, h⟩ := ob_e h
      refine lC (v := (s (o + 1) (s (o + 6) x2.toNatClampNeg).toNatClampNeg)) K (aD_1 ho) b3 dX0_goWhoseTimeIsOver_22 rfl ?_
      refine v_iconst (v := (5 : Int32)) K dX0_goWhoseTimeIsOver_23 (by decide) ?_
      refine v_icmp_ne K 49 dX0_goWhoseTimeIsOver_24 (by decide) (fun q4 => ?_) (fun q4 => ?_)
      · replace h := if_n h q4
        refine v_drop [(0, .ref (ad o)), (1, .int x1), (2, .int x2)] [0, 1, 2] rfl ?_
        exact wCD_goWhoseTimeIsOver_49 hG ho K RT (fun a0 a1 a2 e => ih a0 a1 a2 e) _ _ _ h
      · replace h := if_e h q4
        refine v_aload_n K 0 rfl dX0_goWhoseTimeIsOver_27 ?_
        refine gC_RX0_21 ho K dX0_goWhoseTimeIsOver_28 ?_
        refine v_iload_n K 3 rfl dX0_goWhoseTimeIsOver_31 ?_
        obtain ⟨b5, h⟩ := ob_e h
        refine lC (v := (s (o + 4) (s (o + 6) x2.toNatClampNeg).toNatClampNeg)) K (aD_4 ho) b5 dX0_goWhoseTimeIsOver_32 rfl ?_
        refine v_iload_n K 1 rfl dX0_goWhoseTimeIsOver_33 ?_
        refine v_icmp_gt K 49 dX0_goWhoseTimeIsOver_34 (by decide) (fun q6 => ?_) (fun q6 => ?_)
        · replace h := if_e h q6
          refine v_drop [(0, .ref (ad o)), (1, .int x1), (2, .int x2)] [0, 1, 2] rfl ?_
          exact wCD_goWhoseTimeIsOver_49 hG ho K RT (fun a0 a1 a2 e => ih a0 a1 a2 e) _ _ _ h
        · replace h := if_n h q6
          refine v_aload_n K 0 rfl dX0_goWhoseTimeIsOver_37 ?_
          refine gC_RX0_9 ho K dX0_goWhoseTimeIsOver_38 ?_
          refine v_iload_n K 3 rfl dX0_goWhoseTimeIsOver_41 ?_
          refine v_iconst (v := (0 : Int32)) K dX0_goWhoseTimeIsOver_42 (by decide) ?_
          obtain ⟨b7, h⟩ := ob_e h
          refine sC K (aD_1 ho) b7 dX0_goWhoseTimeIsOver_43 ?_
          refine v_aload_n K 0 rfl dX0_goWhoseTimeIsOver_44 ?_
          refine v_iload_n K 3 rfl dX0_goWhoseTimeIsOver_45 ?_
          obtain ⟨s9, e8, h⟩ := bnd0_e h
          refine vC_callv K [.int (s (o + 6) x2.toNatClampNeg)] [] cw_RX0_121 (cCD_getUp hG ho e8) (rcD ho) rfl rfl (Nat.le_of_ble_eq_true rfl) (by decide) dX0_goWhoseTimeIsOver_46 ?_
          refine v_drop [(0, .ref (ad o)), (1, .int x1), (2, .int x2)] [0, 1, 2] rfl ?_
          exact wCD_goWhoseTimeIsOver_49 hG ho K RT (fun a0 a1 a2 e => ih a0 a1 a2 e) _ _ _ h
set_option maxHeartbeats 4000000 in
set_option maxRecDepth 100000 in
theorem wCD_goWhoseTimeIsOver {ad : Nat → Nat} {G : GG} {o : Nat} {X : Cx} {c : Nat → ClassId} (hG : gok G) (ho : isD o = true) (K : Ok X cX0_goWhoseTimeIsOver RX0 4 1 c) {r : SS} (RT : ∀ pc ls, decode cX0_goWhoseTimeIsOver pc = .ok (.return_, 1) → V X 4 0 0 pc ls [] (wC ad c G r)) (s : SS) (x1 : Int32) (h : CD_goWhoseTimeIsOver G o s x1 = some r) : V X 4 0 0 0 [(0, .ref (ad o)), (1, .int x1)] [] (wC ad c G s) := by
  rw [CD_goWhoseTimeIsOver] at h
  refine v_iconst (v := (0 : Int32)) K dX0_goWhoseTimeIsOver_0 (by decide) ?_
  refine v_istore_n K [(0, .ref (ad o)), (1, .int x1), (2, .int (0 : Int32))] [1, 2, 0] dX0_goWhoseTimeIsOver_1 rfl (by decide) rfl ?_
  exact wCD_goWhoseTimeIsOver_2 hG ho K RT fuel _ _ _ h
theorem cCD_goWhoseTimeIsOver {l : Launch} {D : va_G} {c : Nat → ClassId} {s s' : SS} {ad : Nat → Nat} {G : GG} {o : Nat} (hG : gok G) (ho : isD o = true)  {x1 : Int32} (h : CD_goWhoseTimeIsOver G o s x1 = some s') : Cv l D c yX0_goWhoseTimeIsOver cX0_goWhoseTimeIsOver 4 none 1 [.ref (ad o), .int x1] (wC ad c G s) (wC ad c G s') := Cv.of (by decide) (Nat.le_of_ble_eq_true rfl) (fun X K RT => wCD_goWhoseTimeIsOver hG ho K RT s x1 h)
set_option maxHeartbeats 4000000 in
set_option maxRecDepth 100000 in
theorem wCD_nextMinute_132 {ad : Nat → Nat} {G : GG} {o : Nat} {X : Cx} {c : Nat → ClassId} (hG : gok G) (ho : isD o = true) (K : Ok X cX0_nextMinute RX0 5 1 c) {r : Int32 × SS} (RT : ∀ pc ls, decode cX0_nextMinute pc = .ok (.ireturn, 1) → V X 5 0 0 pc ls [.int r.1] (wC ad c G r.2)) {k27 : Int32 → Int32 → SS → Option (Int32 × SS)} (hk27 : ∀ (x2 : Int32) (x3 : Int32) (s : SS), k27 x2 x3 s = some r → V X 5 0 0 27 [(0, .ref (ad o)), (2, .int x2), (3, .int x3)] [] (wC ad c G s)) : ∀ (x2 : Int32) (x3 : Int32) (s : SS), CD_nextMinute_132 G o k27 x2 x3 s = some r → V X 5 0 0 132 [(0, .ref (ad o)), (2, .int x2), (3, .int x3)] [] (wC ad c G s) := by
  intro x2 x3 s h
  rw [CD_nextMinute_132] at h
  refine v_iinc (v := (x3 + (1 : Int32))) K 2 [(0, .ref (ad o)), (2, .int x2), (3, .int (x3 + (1 : Int32)))] [1, 2, 0] dX0_nextMinute_132 rfl rfl (by decide) rfl ?_
  refine v_goto K 27 dX0_nextMinute_135 (by decide) ?_
  exact hk27 _ _ _ h
set_option maxHeartbeats 4000000 in
set_option maxRecDepth 100000 in
theorem wCD_nextMinute_27 {ad : Nat → Nat} {G : GG} {o : Nat} {X : Cx} {c : Nat → ClassId} (hG : gok G) (ho : isD o = true) (K : Ok X cX0_nextMinute RX0 5 1 c) {r : Int32 × SS} (RT : ∀ pc ls, decode cX0_nextMinute pc = .ok (.ireturn, 1) → V X 5 0 0 pc ls [.int r.1] (wC ad c G r.2)) : ∀ (n : Nat) (x2 : Int32) (x3 : Int32) (s : SS), CD_nextMinute_27 G o n x2 x3 s = some r → V X 5 0 0 27 [(0, .ref (ad o)), (2, .int x2), (3, .int x3)] [] (wC ad c G s) := by
  intro n
  induction n with
  | zero => intro _ _ _ h; cases h
  | succ n ih =>
    intro x2 x3 s h
    rw [CD_nextMinute_27] at h
    refine v_iload_n K 2 rfl dX0_nextMinute_27 ?_
    refine v_aload_n K 0 rfl dX0_nextMinute_28 ?_
    refine gC_RX0_86 ho (v := (s o 10)) K dX0_nextMinute_29 rfl ?_
    refine v_icmp_ge K 138 dX0_nextMinute_32 (by decide) (fun q2 => ?_) (fun q2 => ?_)
    · replace h := if_e h q2
      refine v_iload_n K 1 rfl dX0_nextMinute_138 ?_
      obtain rfl := Option.some.inj h
      exact RT _ _ dX0_nextMinute_139
    · replace h := if_n h q2
      refine v_aload_n K 0 rfl dX0_nextMinute_35 ?_
      refine gC_RX0_27 ho K dX0_nextMinute_36 ?_
      refine v_iload_n K 2 rfl dX0_nextMinute_39 ?_
      obtain ⟨b3, h⟩ := ob_e h
      refine lC (v := (s (o + 6) x3.toNatClampNeg)) K (aD_6 ho) b3 dX0_nextMinute_40 rfl ?_
      refine v_istore K [(0, .ref (ad o)), (2, .int x2), (3, .int x3), (4, .int (s (o + 6) x3.toNatClampNeg))] [1, 2, 3, 0] dX0_nextMinute_41 (by decide) rfl ?_
      refine v_aload_n K 0 rfl dX0_nextMinute_43 ?_
      refine gC_RX0_9 ho K dX0_nextMinute_44 ?_
      refine v_iload K 3 rfl dX0_nextMinute_47 ?_
      obtain ⟨b4, h⟩ := ob_e h
      refine lC (v := (s (o + 1) (s (o + 6) x3.toNatClampNeg).toNatClampNeg)) K (aD_1 ho) b4 dX0_nextMinute_49 rfl ?_
      refine v_iconst (v := (3 : Int32)) K dX0_nextMinute_50 (by decide) ?_
      refine v_icmp_ne K 72 dX0_nextMinute_51 (by decide) (fun q5 => ?_) (fun q5 => ?_)
      · replace h := if_n h q5
        refine v_aload_n K 0 rfl dX0_nextMinute_72 ?_
        refine gC_RX0_9 ho K dX0_nextMinute_73 ?_
        refine v_iload K 3 rfl dX0_nextMinute_76 ?_
        obtain ⟨b6, h⟩ := ob_e h
        refine lC (v := (s (o + 1) (s (o + 6) x3.toNatClampNeg).toNatClampNeg)) K (aD_1 ho) b6 dX0_nextMinute_78 rfl ?_
        refine v_iconst (v := (4 : Int32)) K dX0_nextMinute_79 (by decide) ?_
        refine v_icmp_ne K 109 dX0_nextMinute_80 (by decide) (fun q7 => ?_) (fun q7 => ?_)
        · replace h := if_n h q7
          refine v_aload_n K 0 rfl dX0_nextMinute_109 ?_
          refine gC_RX0_9 ho K dX0_nextMinute_110 ?_
          refine v_iload K 3 rfl dX0_nextMinute_113 ?_
          obtain ⟨b8, h⟩ := ob_e h
          refine lC (v := (s (o + 1) (s (o + 6) x3.toNatClampNeg).toNatClampNeg)) K (aD_1 ho) b8 dX0_nextMinute_115 rfl ?_
          refine v_iconst (v := (5 : Int32)) K dX0_nextMinute_116 (by decide) ?_
          refine v_icmp_ne K 132 dX0_nextMinute_117 (by decide) (fun q9 => ?_) (fun q9 => ?_)
          · replace h := if_n h q9
            refine v_drop [(0, .ref (ad o)), (2, .int x2), (3, .int x3)] [0, 1, 2] rfl ?_
            exact wCD_nextMinute_132 hG ho K RT (fun a0 a1 a2 e => ih a0 a1 a2 e) _ _ _ h
          · replace h := if_e h q9
            refine v_iload_n K 1 rfl dX0_nextMinute_120 ?_
            refine v_aload_n K 0 rfl dX0_nextMinute_121 ?_
            refine gC_RX0_21 ho K dX0_nextMinute_122 ?_
            refine v_iload K 3 rfl dX0_nextMinute_125 ?_
            obtain ⟨b10, h⟩ := ob_e h
            refine lC (v := (s (o + 4) (s (o + 6) x3.toNatClampNeg).toNatClampNeg)) K (aD_4 ho) b10 dX0_nextMinute_127 rfl ?_
            refine minC_RX0_115 K [] (Nat.le_of_ble_eq_true rfl) (by decide) dX0_nextMinute_128 ?_
            refine v_istore_n K [(0, .ref (ad o)), (2, .int (if (s (o + 4) (s (o + 6) x3.toNatClampNeg).toNatClampNeg) < x2 then (s (o + 4) (s (o + 6) x3.toNatClampNeg).toNatClampNeg) else x2)), (3, .int x3)] [1, 0, 2] dX0_nextMinute_131 rfl (by decide) rfl ?_
            exact wCD_nextMinute_132 hG ho K RT (fun a0 a1 a2 e => ih a0 a1 a2 e) _ _ _ h
        · replace h := if_e h q7
          refine v_iload_n K 1 rfl dX0_nextMinute_83 ?_
          refine v_aload_n K 0 rfl dX0_nextMinute_84 ?_
          refine gC_RX0_47 ho K dX0_nextMinute_85 ?_
          refine v_iload K 3 rfl dX0_nextMinute_88 ?_
          obtain ⟨b11, h⟩ := ob_e h
          obtain ⟨a12, e13, h⟩ := gld_e h
          refine qG K e13 b11 dX0_nextMinute_90 ?_
          refine gC_RX0_112 (hG _ _ e13) K dX0_nextMinute_91 ?_
          refine v_aload_n K 0 rfl dX0_nextMinute_94 ?_
          refine gC_RX0_33 ho (v := (s o 9)) K dX0_nextMinute_95 rfl ?_
          refine gC_RX0_118 (hou_ok (s o 9)) (v := (s (hou (s o 9)) 4)) K dX0_nextMinute_98 rfl ?_
          refine v_iadd K dX0_nextMinute_101 ?_
          refine minC_RX0_115 K [] (Nat.le_of_ble_eq_true rfl) (by decide) dX0_nextMinute_102 ?_
          refine v_istore_n K [(0, .ref (ad o)), (2, .int (if ((gv G a12 2) + (s (hou (s o 9)) 4)) < x2 then ((gv G a12 2) + (s (hou (s o 9)) 4)) else x2)), (3, .int x3)] [1, 0, 2] dX0_nextMinute_105 rfl (by decide) rfl ?_
          refine v_goto K 132 dX0_nextMinute_106 (by decide) ?_
          exact wCD_nextMinute_132 hG ho K RT (fun a0 a1 a2 e => ih a0 a1 a2 e) _ _ _ h
      · replace h := if_e h q5
        refine v_iload_n K 1 rfl dX0_nextMinute_54 ?_
        refine v_aload_n K 0 rfl dX0_nextMinute_55 ?_
        refine gC_RX0_47 ho K dX0_nextMinute_56 ?_
        refine v_iload K 3 rfl dX0_nextMinute_59 ?_
        obtain ⟨b14, h⟩ := ob_e h
        obtain ⟨a15, e16, h⟩ := gld_e h
        refine qG K e16 b14 dX0_nextMinute_61 ?_
        refine gC_RX0_112 (hG _ _ e16) K dX0_nextMinute_62 ?_
        refine minC_RX0_115 K [] (Nat.le_of_ble_eq_true rfl) (by decide) dX0_nextMinute_65 ?_
        refine v_istore_n K [(0, .ref (ad o)), (2, .int (if (gv G a15 2) < x2 then (gv G a15 2) else x2)), (3, .int x3)] [1, 0, 2] dX0_nextMinute_68 rfl (by decide) rfl ?_
        refine v_goto K 132 dX0_nextMinute_69 (by decide) ?_
        exact wCD_nextMinute_132 hG ho K RT (fun a0 a1 a2 e => ih a0 a1 a2 e) _ _ _ h
set_option maxHeartbeats 4000000 in
set_option maxRecDepth 100000 in
theorem wCD_nextMinute_24 {ad : Nat → Nat} {G : GG} {o : Nat} {X : Cx} {c : Nat → ClassId} (hG : gok G) (ho : isD o = true) (K : Ok X cX0_nextMinute RX0 5 1 c) {r : Int32 × SS} (RT : ∀ pc ls, decode cX0_nextMinute pc = .ok (.ireturn, 1) → V X 5 0 0 pc ls [.int r.1] (wC ad c G r.2)) : ∀ (y0 : Int32) (s : SS), CD_nextMinute_24 G o y0 s = some r → V X 5 0 0 24 [(0, .ref (ad o))] [.int y0] (wC ad c G s) := by
  intro y0 s h
  rw [CD_nextMinute_24] at h
  refine v_istore_n K [(0, .ref (ad o)), (2, .int y0)] [1, 0] dX0_nextMinute_24 rfl (by decide) rfl ?_
  refine v_iconst (v := (0 : Int32)) K dX0_nextMinute_25 (by decide) ?_
  refine v_istore_n K [(0, .ref (ad o)), (2, .int y0), (3, .int (0 : Int32))] [1, 2, 0] dX0_nextMinute_26 rfl (by decide) rfl ?_
  exact wCD_nextMinute_27 hG ho K RT fuel _ _ _ h
set_option maxHeartbeats 4000000 in
set_option maxRecDepth 100000 in
theorem wCD_nextMinute {ad : Nat → Nat} {G : GG} {o : Nat} {X : Cx} {c : Nat → ClassId} (hG : gok G) (ho : isD o = true) (K : Ok X cX0_nextMinute RX0 5 1 c) {r : Int32 × SS} (RT : ∀ pc ls, decode cX0_nextMinute pc = .ok (.ireturn, 1) → V X 5 0 0 pc ls [.int r.1] (wC ad c G r.2)) (s : SS) (x1 : Int32) (h : CD_nextMinute G o s x1 = some r) : V X 5 0 0 0 [(0, .ref (ad o)), (1, .int x1)] [] (wC ad c G s) := by
  rw [CD_nextMinute] at h
  refine v_aload_n K 0 rfl dX0_nextMinute_0 ?_
  refine gC_RX0_33 ho (v := (s o 9)) K dX0_nextMinute_1 rfl ?_
  refine gC_RX0_57 (hou_ok (s o 9)) (v := (s (hou (s o 9)) 5)) K dX0_nextMinute_4 rfl ?_
  refine v_iload_n K 1 rfl dX0_nextMinute_7 ?_
  refine v_icmp_le K 21 dX0_nextMinute_8 (by decide) (fun q1 => ?_) (fun q1 => ?_)
  · replace h := if_e h q1
    refine v_sipush (v := (400 : Int32)) K dX0_nextMinute_21 (by decide) ?_
    refine v_drop [(0, .ref (ad o))] [0] rfl ?_
    exact wCD_nextMinute_24 hG ho K RT _ _ h
  · replace h := if_n h q1
    refine v_aload_n K 0 rfl dX0_nextMinute_11 ?_
    refine gC_RX0_33 ho (v := (s o 9)) K dX0_nextMinute_12 rfl ?_
    refine gC_RX0_57 (hou_ok (s o 9)) (v := (s (hou (s o 9)) 5)) K dX0_nextMinute_15 rfl ?_
    refine v_goto K 24 dX0_nextMinute_18 (by decide) ?_
    refine v_drop [(0, .ref (ad o))] [0] rfl ?_
    exact wCD_nextMinute_24 hG ho K RT _ _ h
theorem cCD_nextMinute {l : Launch} {D : va_G} {c : Nat → ClassId} {s s' : SS} {ad : Nat → Nat} {G : GG} {o : Nat} (hG : gok G) (ho : isD o = true)  {x1 : Int32} {r : Int32} (h : CD_nextMinute G o s x1 = some (r, s')) : Ci l D c yX0_nextMinute cX0_nextMinute 5 (some .int) 1 [.ref (ad o), .int x1] (wC ad c G s) r (wC ad c G s') := Ci.of (by decide) (Nat.le_of_ble_eq_true rfl) (fun X K RT => wCD_nextMinute hG ho K (r := (r, s')) RT s x1 h)
set_option maxHeartbeats 4000000 in
set_option maxRecDepth 100000 in
theorem wCG_guestBody {ad : Nat → Nat} {G : GG} {o : Nat} {X : Cx} {c : Nat → ClassId} (hG : gok G) (ho : gm G o = true) (K : Ok X cX2_guestBody RX2 2 1 c) {r : Int32 × SS} (RT : ∀ pc ls, decode cX2_guestBody pc = .ok (.ireturn, 1) → V X 2 0 0 pc ls [.int r.1] (wC ad c G r.2)) (s : SS) (h : CG_guestBody G o s = some r) : V X 2 0 0 0 [(0, .ref o), (1, .ref (ad 18))] [] (wC ad c G s) := by
  rw [CG_guestBody] at h
  refine v_aload_n K 1 rfl dX2_guestBody_0 ?_
  refine v_iconst (v := (1 : Int32)) K dX2_guestBody_1 (by decide) ?_
  obtain ⟨s2, e1, h⟩ := bnd0_e h
  refine vC_callv K [.int (1 : Int32)] [] cw_RX2_28 (cCQ_mark hG e1) rcQ rfl rfl (Nat.le_of_ble_eq_true rfl) (by decide) dX2_guestBody_2 ?_
  refine v_aload_n K 0 rfl dX2_guestBody_5 ?_
  refine gC_RX2_13 ho K dX2_guestBody_6 ?_
  obtain rfl := Option.some.inj h
  exact RT _ _ dX2_guestBody_9
theorem cCG_guestBody {l : Launch} {D : va_G} {c : Nat → ClassId} {s s' : SS} {ad : Nat → Nat} {G : GG} {o : Nat} (hG : gok G) (ho : gm G o = true)  {r : Int32} (h : CG_guestBody G o s = some (r, s')) : Ci l D c yX2_guestBody cX2_guestBody 2 (some .int) 1 [.ref o, .ref (ad 18)] (wC ad c G s) r (wC ad c G s') := Ci.of (by decide) (Nat.le_of_ble_eq_true rfl) (fun X K RT => wCG_guestBody hG ho K (r := (r, s')) RT s  h)
set_option maxHeartbeats 4000000 in
set_option maxRecDepth 100000 in
theorem wCG_served {ad : Nat → Nat} {G : GG} {o : Nat} {X : Cx} {c : Nat → ClassId} (hG : gok G) (ho : gm G o = true) (K : Ok X cX2_served RX2 2 1 c) {r : Int32 × SS} (RT : ∀ pc ls, decode cX2_served pc = .ok (.ireturn, 1) → V X 2 0 0 pc ls [.int r.1] (wC ad c G r.2)) (s : SS) (h : CG_served G o s = some r) : V X 2 0 0 0 [(0, .ref o), (1, .ref (ad 18))] [] (wC ad c G s) := by
  rw [CG_served] at h
  refine v_aload_n K 1 rfl dX2_served_0 ?_
  refine v_iconst (v := (4 : Int32)) K dX2_served_1 (by decide) ?_
  obtain ⟨s2, e1, h⟩ := bnd0_e h
  refine vC_callv K [.int (4 : Int32)] [] cw_RX2_28 (cCQ_mark hG e1) rcQ rfl rfl (Nat.le_of_ble_eq_true rfl) (by decide) dX2_served_2 ?_
  refine v_aload_n K 0 rfl dX2_served_5 ?_
  refine gC_RX2_7 ho K dX2_served_6 ?_
  obtain rfl := Option.some.inj h
  exact RT _ _ dX2_served_9
theorem cCG_served {l : Launch} {D : va_G} {c : Nat → ClassId} {s s' : SS} {ad : Nat → Nat} {G : GG} {o : Nat} (hG : gok G) (ho : gm G o = true)  {r : Int32} (h : CG_served G o s = some (r, s')) : Ci l D c yX2_served cX2_served 2 (some .int) 1 [.ref o, .ref (ad 18)] (wC ad c G s) r (wC ad c G s') := Ci.of (by decide) (Nat.le_of_ble_eq_true rfl) (fun X K RT => wCG_served hG ho K (r := (r, s')) RT s  h)
set_option maxHeartbeats 4000000 in
set_option maxRecDepth 100000 in
theorem wCH_mixTables_64 {ad : Nat → Nat} {G : GG} {o : Nat} {X : Cx} {c : Nat → ClassId} (hG : gok G) (ho : isH o = true) (K : Ok X cX3_mixTables RX3 5 1 c) {r : SS} (RT : ∀ pc ls, decode cX3_mixTables pc = .ok (.return_, 1) → V X 5 0 0 pc ls [] (wC ad c G r)) {k17 : Int32 → Int32 → Int32 → SS → Option SS} (hk17 : ∀ (x1 : Int32) (x2 : Int32) (x4 : Int32) (s : SS), k17 x1 x2 x4 s = some r → V X 5 0 0 17 [(0, .ref (ad o)), (1, .int x1), (2, .int x2), (4, .int x4)] [] (wC ad c G s)) : ∀ (y1 : Int32) (y2 : Int32) (x1 : Int32) (x2 : Int32) (x4 : Int32) (s : SS), CH_mixTables_64 G o k17 y1 y2 x1 x2 x4 s = some r → V X 5 0 0 64 [(0, .ref (ad o)), (1, .int x1), (2, .int x2), (4, .int x4)] [.int y2, .int y1, .ref (ad (o + 2))] (wC ad c G s) := by
  intro y1 y2 x1 x2 x4 s h
  rw [CH_mixTables_64] at h
  obtain ⟨b5, h⟩ := ob_e h
  refine sC K (aH_2 ho) b5 dX3_mixTables_64 ?_
  refine v_iinc (v := (x4 + (1 : Int32))) K 3 [(0, .ref (ad o)), (1, .int x1), (2, .int x2), (4, .int (x4 + (1 : Int32)))] [1, 2, 3, 0] dX3_mixTables_65 rfl rfl (by decide) rfl ?_
  refine v_goto K 17 dX3_mixTables_68 (by decide) ?_
  exact hk17 _ _ _ _ h
set_option maxHeartbeats 4000000 in
set_option maxRecDepth 100000 in
theorem wCH_mixTables_17 {ad : Nat → Nat} {G : GG} {o : Nat} {X : Cx} {c : Nat → ClassId} (hG : gok G) (ho : isH o = true) (K : Ok X cX3_mixTables RX3 5 1 c) {r : SS} (RT : ∀ pc ls, decode cX3_mixTables pc = .ok (.return_, 1) → V X 5 0 0 pc ls [] (wC ad c G r)) : ∀ (n : Nat) (x1 : Int32) (x2 : Int32) (x4 : Int32) (s : SS), CH_mixTables_17 G o n x1 x2 x4 s = some r → V X 5 0 0 17 [(0, .ref (ad o)), (1, .int x1), (2, .int x2), (4, .int x4)] [] (wC ad c G s) := by
  intro n
  induction n with
  | zero => intro _ _ _ _ h; cases h
  | succ n ih =>
    intro x1 x2 x4 s h
    rw [CH_mixTables_17] at h
    refine v_iload K 3 rfl dX3_mixTables_17 ?_
    refine v_aload_n K 0 rfl dX3_mixTables_19 ?_
    refine gC_RX3_28 ho (v := (s o 2)) K dX3_mixTables_20 rfl ?_
    refine v_icmp_ge K 71 dX3_mixTables_23 (by decide) (fun q1 => ?_) (fun q1 => ?_)
    · replace h := if_e h q1
      obtain rfl := Option.some.inj h
      exact RT _ _ dX3_mixTables_71
    · replace h := if_n h q1
      refine v_aload_n K 0 rfl dX3_mixTables_26 ?_
      refine gC_RX3_9 ho K dX3_mixTables_27 ?_
      refine v_iload K 3 rfl dX3_mixTables_30 ?_
      refine v_iconst (v := (2 : Int32)) K dX3_mixTables_32 (by decide) ?_
      obtain ⟨b2, h⟩ := ob_e h
      refine sC K (aH_1 ho) b2 dX3_mixTables_33 ?_
      refine v_aload_n K 0 rfl dX3_mixTables_34 ?_
      refine gC_RX3_15 ho K dX3_mixTables_35 ?_
      refine v_iload K 3 rfl dX3_mixTables_38 ?_
      refine v_iload K 3 rfl dX3_mixTables_40 ?_
      refine v_iload_n K 1 rfl dX3_mixTables_42 ?_
      refine v_icmp_ge K 50 dX3_mixTables_43 (by decide) (fun q3 => ?_) (fun q3 => ?_)
      · replace h := if_e h q3
        refine v_iload K 3 rfl dX3_mixTables_50 ?_
        refine v_iload_n K 1 rfl dX3_mixTables_52 ?_
        refine v_iload_n K 2 rfl dX3_mixTables_53 ?_
        refine v_iadd K dX3_mixTables_54 ?_
        refine v_icmp_ge K 62 dX3_mixTables_55 (by decide) (fun q4 => ?_) (fun q4 => ?_)
        · replace h := if_e h q4
          refine v_bipush (v := (6 : Int32)) K dX3_mixTables_62 (by decide) ?_
          exact wCH_mixTables_64 hG ho K RT (fun a0 a1 a2 a3 e => ih a0 a1 a2 a3 e) _ _ _ _ _ _ h
        · replace h := if_n h q4
          refine v_iconst (v := (4 : Int32)) K dX3_mixTables_58 (by decide) ?_
          refine v_goto K 64 dX3_mixTables_59 (by decide) ?_
          exact wCH_mixTables_64 hG ho K RT (fun a0 a1 a2 a3 e => ih a0 a1 a2 a3 e) _ _ _ _ _ _ h
      · replace h := if_n h q3
        refine v_iconst (v := (2 : Int32)) K dX3_mixTables_46 (by decide) ?_
        refine v_goto K 64 dX3_mixTables_47 (by decide) ?_
        exact wCH_mixTables_64 hG ho K RT (fun a0 a1 a2 a3 e => ih a0 a1 a2 a3 e) _ _ _ _ _ _ h
set_option maxHeartbeats 4000000 in
set_option maxRecDepth 100000 in
theorem wCH_mixTables {ad : Nat → Nat} {G : GG} {o : Nat} {X : Cx} {c : Nat → ClassId} (hG : gok G) (ho : isH o = true) (K : Ok X cX3_mixTables RX3 5 1 c) {r : SS} (RT : ∀ pc ls, decode cX3_mixTables pc = .ok (.return_, 1) → V X 5 0 0 pc ls [] (wC ad c G r)) (s : SS) (x1 : Int32) (x2 : Int32) (x3 : Int32) (h : CH_mixTables G o s x1 x2 x3 = some r) : V X 5 0 0 0 [(0, .ref (ad o)), (1, .int x1), (2, .int x2), (3, .int x3)] [] (wC ad c G s) := by
  rw [CH_mixTables] at h
  refine v_aload_n K 0 rfl dX3_mixTables_0 ?_
  refine v_iload_n K 1 rfl dX3_mixTables_1 ?_
  refine v_iload_n K 2 rfl dX3_mixTables_2 ?_
  refine v_iadd K dX3_mixTables_3 ?_
  refine v_iload_n K 3 rfl dX3_mixTables_4 ?_
  refine v_iadd K dX3_mixTables_5 ?_
  refine v_bipush (v := (6 : Int32)) K dX3_mixTables_6 (by decide) ?_
  refine minC_RX3_22 K [.ref (ad o)] (Nat.le_of_ble_eq_true rfl) (by decide) dX3_mixTables_8 ?_
  refine pC_RX3_28 ho K dX3_mixTables_11 ?_
  refine v_iconst (v := (0 : Int32)) K dX3_mixTables_14 (by decide) ?_
  refine v_istore K [(0, .ref (ad o)), (1, .int x1), (2, .int x2), (4, .int (0 : Int32))] [1, 2, 3, 0] dX3_mixTables_15 (by decide) rfl ?_
  exact wCH_mixTables_17 hG ho K RT fuel _ _ _ _ h
theorem cCH_mixTables {l : Launch} {D : va_G} {c : Nat → ClassId} {s s' : SS} {ad : Nat → Nat} {G : GG} {o : Nat} (hG : gok G) (ho : isH o = true)  {x1 : Int32} {x2 : Int32} {x3 : Int32} (h : CH_mixTables G o s x1 x2 x3 = some s') : Cv l D c yX3_mixTables cX3_mixTables 5 none 1 [.ref (ad o), .int x1, .int x2, .int x3] (wC ad c G s) (wC ad c G s') := Cv.of (by decide) (Nat.le_of_ble_eq_true rfl) (fun X K RT => wCH_mixTables hG ho K RT s x1 x2 x3 h)
set_option maxHeartbeats 4000000 in
set_option maxRecDepth 100000 in
theorem wCH_takeText_17 {ad : Nat → Nat} {G : GG} {o : Nat} {x1 : Nat} {X : Cx} {c : Nat → ClassId} (hG : gok G) (ho : isH o = true) (h1 : isS x1 = true) (K : Ok X cX3_takeText RX3 5 1 c) {r : SS} (RT : ∀ pc ls, decode cX3_takeText pc = .ok (.return_, 1) → V X 5 0 0 pc ls [] (wC ad c G r)) : ∀ (n : Nat) (x2 : Int32) (x4 : Int32) (s : SS), CH_takeText_17 G o x1 n x2 x4 s = some r → V X 5 0 0 17 [(0, .ref (ad o)), (1, .ref (ad x1)), (2, .int x2), (4, .int x4)] [] (wC ad c G s) := by
  intro n
  induction n with
  | zero => intro _ _ _ h; cases h
  | succ n ih =>
    intro x2 x4 s h
    rw [CH_takeText_17] at h
    refine v_iload K 3 rfl dX3_takeText_17 ?_
    refine v_aload_n K 0 rfl dX3_takeText_19 ?_
    refine gC_RX3_28 ho (v := (s o 2)) K dX3_takeText_20 rfl ?_
    refine v_icmp_ge K 76 dX3_takeText_23 (by decide) (fun q2 => ?_) (fun q2 => ?_)
    · replace h := if_e h q2
      refine v_aload_n K 0 rfl dX3_takeText_76 ?_
      refine v_iconst (v := (0 : Int32)) K dX3_takeText_77 (by decide) ?_
      refine pC_RX3_40 ho K dX3_takeText_78 ?_
      refine v_aload_n K 0 rfl dX3_takeText_81 ?_
      refine v_iconst (v := (0 : Int32)) K dX3_takeText_82 (by decide) ?_
      refine pC_RX3_43 ho K dX3_takeText_83 ?_
      refine v_aload_n K 0 rfl dX3_takeText_86 ?_
      refine v_iconst (v := (0 : Int32)) K dX3_takeText_87 (by decide) ?_
      obtain ⟨b3, h⟩ := ob_e h
      refine pC_RX3_46 ho K b3 dX3_takeText_88 ?_
      refine v_aload_n K 0 rfl dX3_takeText_91 ?_
      refine v_bipush (v := (-9 : Int32)) K dX3_takeText_92 (by decide) ?_
      refine pC_RX3_18 ho K dX3_takeText_94 ?_
      obtain rfl := Option.some.inj h
      exact RT _ _ dX3_takeText_97
    · replace h := if_n h q2
      refine v_aload_n K 0 rfl dX3_takeText_26 ?_
      refine gC_RX3_9 ho K dX3_takeText_27 ?_
      refine v_iload K 3 rfl dX3_takeText_30 ?_
      refine v_aload_n K 1 rfl dX3_takeText_32 ?_
      refine gC_RX3_31 h1 K dX3_takeText_33 ?_
      refine v_iload_n K 2 rfl dX3_takeText_36 ?_
      refine v_iconst (v := (3 : Int32)) K dX3_takeText_37 (by decide) ?_
      refine v_iload K 3 rfl dX3_takeText_38 ?_
      refine v_imul K dX3_takeText_40 ?_
      refine v_iadd K dX3_takeText_41 ?_
      obtain ⟨b4, h⟩ := ob_e h
      refine lC (v := (s (x1 + 4) (x2 + ((3 : Int32) * x4)).toNatClampNeg)) K (aE_4 h1) b4 dX3_takeText_42 rfl ?_
      obtain ⟨r6, e5, h⟩ := bnd0_e h
      refine nestC K [.int x4, .ref (ad (o + 1))] (cCT_placeOf e5) (Nat.le_of_ble_eq_true rfl) (by decide) dX3_takeText_43 ?_
      obtain ⟨b7, h⟩ := ob_e h
      refine sC K (aH_1 ho) b7 dX3_takeText_46 ?_
      refine v_aload_n K 0 rfl dX3_takeText_47 ?_
      refine gC_RX3_15 ho K dX3_takeText_48 ?_
      refine v_iload K 3 rfl dX3_takeText_51 ?_
      refine v_aload_n K 1 rfl dX3_takeText_53 ?_
      refine gC_RX3_31 h1 K dX3_takeText_54 ?_
      refine v_iload_n K 2 rfl dX3_takeText_57 ?_
      refine v_iconst (v := (3 : Int32)) K dX3_takeText_58 (by decide) ?_
      refine v_iload K 3 rfl dX3_takeText_59 ?_
      refine v_imul K dX3_takeText_61 ?_
      refine v_iadd K dX3_takeText_62 ?_
      refine v_iconst (v := (1 : Int32)) K dX3_takeText_63 (by decide) ?_
      refine v_iadd K dX3_takeText_64 ?_
      obtain ⟨b8, h⟩ := ob_e h
      refine lC (v := ((up2 s (o + 1) x4.toNatClampNeg r6) (x1 + 4) ((x2 + ((3 : Int32) * x4)) + (1 : Int32)).toNatClampNeg)) K (aE_4 h1) b8 dX3_takeText_65 rfl ?_
      refine v_bipush (v := (48 : Int32)) K dX3_takeText_66 (by decide) ?_
      refine v_isub K dX3_takeText_68 ?_
      obtain ⟨b9, h⟩ := ob_e h
      refine sC K (aH_2 ho) b9 dX3_takeText_69 ?_
      refine v_iinc (v := (x4 + (1 : Int32))) K 3 [(0, .ref (ad o)), (1, .ref (ad x1)), (2, .int x2), (4, .int (x4 + (1 : Int32)))] [1, 2, 3, 0] dX3_takeText_70 rfl rfl (by decide) rfl ?_
      refine v_goto K 17 dX3_takeText_73 (by decide) ?_
      exact ih _ _ _ h
set_option maxHeartbeats 4000000 in
set_option maxRecDepth 100000 in
theorem wCH_takeText {ad : Nat → Nat} {G : GG} {o : Nat} {x1 : Nat} {X : Cx} {c : Nat → ClassId} (hG : gok G) (ho : isH o = true) (h1 : isS x1 = true) (K : Ok X cX3_takeText RX3 5 1 c) {r : SS} (RT : ∀ pc ls, decode cX3_takeText pc = .ok (.return_, 1) → V X 5 0 0 pc ls [] (wC ad c G r)) (s : SS) (x2 : Int32) (x3 : Int32) (h : CH_takeText G o x1 s x2 x3 = some r) : V X 5 0 0 0 [(0, .ref (ad o)), (1, .ref (ad x1)), (2, .int x2), (3, .int x3)] [] (wC ad c G s) := by
  rw [CH_takeText] at h
  refine v_aload_n K 0 rfl dX3_takeText_0 ?_
  refine v_iload_n K 3 rfl dX3_takeText_1 ?_
  refine v_iconst (v := (1 : Int32)) K dX3_takeText_2 (by decide) ?_
  refine v_iadd K dX3_takeText_3 ?_
  refine v_iconst (v := (3 : Int32)) K dX3_takeText_4 (by decide) ?_
  obtain ⟨b1, h⟩ := ob_e h
  refine v_idiv K dX3_takeText_5 b1 ?_
  refine v_bipush (v := (6 : Int32)) K dX3_takeText_6 (by decide) ?_
  refine minC_RX3_22 K [.ref (ad o)] (Nat.le_of_ble_eq_true rfl) (by decide) dX3_takeText_8 ?_
  refine pC_RX3_28 ho K dX3_takeText_11 ?_
  refine v_iconst (v := (0 : Int32)) K dX3_takeText_14 (by decide) ?_
  refine v_istore K [(0, .ref (ad o)), (1, .ref (ad x1)), (2, .int x2), (4, .int (0 : Int32))] [1, 2, 3, 0] dX3_takeText_15 (by decide) rfl ?_
  exact wCH_takeText_17 hG ho h1 K RT fuel _ _ _ h
theorem cCH_takeText {l : Launch} {D : va_G} {c : Nat → ClassId} {s s' : SS} {ad : Nat → Nat} {G : GG} {o : Nat} {x1 : Nat} (hG : gok G) (ho : isH o = true) (h1 : isS x1 = true)  {x2 : Int32} {x3 : Int32} (h : CH_takeText G o x1 s x2 x3 = some s') : Cv l D c yX3_takeText cX3_takeText 5 none 1 [.ref (ad o), .ref (ad x1), .int x2, .int x3] (wC ad c G s) (wC ad c G s') := Cv.of (by decide) (Nat.le_of_ble_eq_true rfl) (fun X K RT => wCH_takeText hG ho h1 K RT s x2 x3 h)
set_option maxHeartbeats 4000000 in
set_option maxRecDepth 100000 in
theorem wCL_served {ad : Nat → Nat} {G : GG} {o : Nat} {X : Cx} {c : Nat → ClassId} (hG : gok G) (ho : gm G o = true) (K : Ok X cX4_served RX4 2 1 c) {r : Int32 × SS} (RT : ∀ pc ls, decode cX4_served pc = .ok (.ireturn, 1) → V X 2 0 0 pc ls [.int r.1] (wC ad c G r.2)) (s : SS) (h : CL_served G o s = some r) : V X 2 0 0 0 [(0, .ref o), (1, .ref (ad 18))] [] (wC ad c G s) := by
  rw [CL_served] at h
  refine v_aload_n K 1 rfl dX4_served_0 ?_
  refine v_iconst (v := (5 : Int32)) K dX4_served_1 (by decide) ?_
  obtain ⟨s2, e1, h⟩ := bnd0_e h
  refine vC_callv K [.int (5 : Int32)] [] cw_RX4_11 (cCQ_mark hG e1) rcQ rfl rfl (Nat.le_of_ble_eq_true rfl) (by decide) dX4_served_2 ?_
  refine v_bipush (v := (50 : Int32)) K dX4_served_5 (by decide) ?_
  obtain rfl := Option.some.inj h
  exact RT _ _ dX4_served_7
theorem cCL_served {l : Launch} {D : va_G} {c : Nat → ClassId} {s s' : SS} {ad : Nat → Nat} {G : GG} {o : Nat} (hG : gok G) (ho : gm G o = true)  {r : Int32} (h : CL_served G o s = some (r, s')) : Ci l D c yX4_served cX4_served 2 (some .int) 1 [.ref o, .ref (ad 18)] (wC ad c G s) r (wC ad c G s') := Ci.of (by decide) (Nat.le_of_ble_eq_true rfl) (fun X K RT => wCL_served hG ho K (r := (r, s')) RT s  h)
