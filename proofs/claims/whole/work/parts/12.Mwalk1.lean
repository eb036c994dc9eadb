set_option maxHeartbeats 4000000 in
set_option maxRecDepth 100000 in
theorem wM_against_75 {ad : Nat → Nat} {X : Cx} {c : Nat → ClassId} (K : Ok X cX10_against RX10 5 0 c) {r : Int32 × SS} (RT : ∀ pc ls, decode cX10_against pc = .ok (.ireturn, 1) → V X 5 0 0 pc ls [.int r.1] (wM ad c r.2)) : ∀ (y0 : Int32) (s : SS), M_against_75 y0 s = some r → V X 5 0 0 75 [] [.int y0] (wM ad c s) := by
  intro y0 s h
  rw [M_against_75] at h
  obtain rfl := Option.some.inj h
  exact RT _ _ dX10_against_75
set_option maxHeartbeats 4000000 in
set_option maxRecDepth 100000 in
theorem wM_against_70 {ad : Nat → Nat} {X : Cx} {c : Nat → ClassId} (K : Ok X cX10_against RX10 5 0 c) {r : Int32 × SS} (RT : ∀ pc ls, decode cX10_against pc = .ok (.ireturn, 1) → V X 5 0 0 pc ls [.int r.1] (wM ad c r.2)) : ∀ (s : SS), M_against_70 s = some r → V X 5 0 0 70 [] [] (wM ad c s) := by
  intro s h
  rw [M_against_70] at h
  refine v_iconst (v := (3 : Int32)) K dX10_against_70 (by decide) ?_
  refine v_goto K 75 dX10_against_71 (by decide) ?_
  exact wM_against_75 K RT _ _ h
set_option maxHeartbeats 4000000 in
set_option maxRecDepth 100000 in
theorem wM_against_23 {ad : Nat → Nat} {X : Cx} {c : Nat → ClassId} (K : Ok X cX10_against RX10 5 0 c) {r : Int32 × SS} (RT : ∀ pc ls, decode cX10_against pc = .ok (.ireturn, 1) → V X 5 0 0 pc ls [.int r.1] (wM ad c r.2)) : ∀ (x1 : Int32) (x3 : Int32) (x4 : Int32) (s : SS), M_against_23 x1 x3 x4 s = some r → V X 5 0 0 23 [(0, .ref (ad 0)), (1, .int x1), (3, .int x3), (4, .int x4)] [] (wM ad c s) := by
  intro x1 x3 x4 s h
  rw [M_against_23] at h
  refine v_aload_n K 0 rfl dX10_against_23 ?_
  refine gM_2 K dX10_against_24 ?_
  refine v_iload_n K 1 rfl dX10_against_27 ?_
  obtain ⟨b5, h⟩ := ob_e h
  refine lM_2 (v := (s 2 x1.toNatClampNeg)) K b5 dX10_against_28 rfl ?_
  refine v_bipush (v := (-9 : Int32)) K dX10_against_29 (by decide) ?_
  refine v_icmp_ne K 36 dX10_against_31 (by decide) (fun q6 => ?_) (fun q6 => ?_)
  · replace h := if_n h q6
    refine v_iload K 3 rfl dX10_against_36 ?_
    refine v_if_ge K 43 dX10_against_38 (by decide) (fun q7 => ?_) (fun q7 => ?_)
    · replace h := if_e h q7
      refine v_iload_n K 2 rfl dX10_against_43 ?_
      refine v_if_lt K 70 dX10_against_44 (by decide) (fun q8 => ?_) (fun q8 => ?_)
      · replace h := if_e h q8
        refine v_drop [] [] rfl ?_
        exact wM_against_70 K RT _ h
      · replace h := if_n h q8
        refine v_iload_n K 2 rfl dX10_against_47 ?_
        refine v_aload_n K 0 rfl dX10_against_48 ?_
        refine gM_3 K dX10_against_49 ?_
        refine v_iload_n K 1 rfl dX10_against_52 ?_
        obtain ⟨b9, h⟩ := ob_e h
        refine lM_3 (v := (s 3 x1.toNatClampNeg)) K b9 dX10_against_53 rfl ?_
        refine v_icmp_gt K 70 dX10_against_54 (by decide) (fun q10 => ?_) (fun q10 => ?_)
        · replace h := if_e h q10
          refine v_drop [] [] rfl ?_
          exact wM_against_70 K RT _ h
        · replace h := if_n h q10
          refine v_iload K 3 rfl dX10_against_57 ?_
          refine v_aload_n K 0 rfl dX10_against_59 ?_
          refine gM_3 K dX10_against_60 ?_
          refine v_iload_n K 1 rfl dX10_against_63 ?_
          obtain ⟨b11, h⟩ := ob_e h
          refine lM_3 (v := (s 3 x1.toNatClampNeg)) K b11 dX10_against_64 rfl ?_
          refine v_iload_n K 2 rfl dX10_against_65 ?_
          refine v_isub K dX10_against_66 ?_
          refine v_icmp_le K 74 dX10_against_67 (by decide) (fun q12 => ?_) (fun q12 => ?_)
          · replace h := if_e h q12
            refine v_iconst (v := (0 : Int32)) K dX10_against_74 (by decide) ?_
            refine v_drop [] [] rfl ?_
            exact wM_against_75 K RT _ _ h
          · replace h := if_n h q12
            refine v_drop [] [] rfl ?_
            exact wM_against_70 K RT _ h
    · replace h := if_n h q7
      refine v_iconst (v := (4 : Int32)) K dX10_against_41 (by decide) ?_
      obtain rfl := Option.some.inj h
      exact RT _ _ dX10_against_42
  · replace h := if_e h q6
    refine v_iconst (v := (1 : Int32)) K dX10_against_34 (by decide) ?_
    obtain rfl := Option.some.inj h
    exact RT _ _ dX10_against_35
set_option maxHeartbeats 4000000 in
set_option maxRecDepth 100000 in
theorem wM_against {ad : Nat → Nat} {X : Cx} {c : Nat → ClassId} (K : Ok X cX10_against RX10 5 0 c) {r : Int32 × SS} (RT : ∀ pc ls, decode cX10_against pc = .ok (.ireturn, 1) → V X 5 0 0 pc ls [.int r.1] (wM ad c r.2)) (s : SS) (x1 : Int32) (x2 : Int32) (x3 : Int32) (x4 : Int32) (h : M_against s x1 x2 x3 x4 = some r) : V X 5 0 0 0 [(0, .ref (ad 0)), (1, .int x1), (2, .int x2), (3, .int x3), (4, .int x4)] [] (wM ad c s) := by
  rw [M_against] at h
  refine v_aload_n K 0 rfl dX10_against_0 ?_
  refine gM_2 K dX10_against_1 ?_
  refine v_iload_n K 1 rfl dX10_against_4 ?_
  obtain ⟨b1, h⟩ := ob_e h
  refine lM_2 (v := (s 2 x1.toNatClampNeg)) K b1 dX10_against_5 rfl ?_
  refine v_bipush (v := (-9 : Int32)) K dX10_against_6 (by decide) ?_
  refine v_icmp_eq K 23 dX10_against_8 (by decide) (fun q2 => ?_) (fun q2 => ?_)
  · replace h := if_e h q2
    refine v_drop [(0, .ref (ad 0)), (1, .int x1), (3, .int x3), (4, .int x4)] [0, 1, 3, 4] rfl ?_
    exact wM_against_23 K RT _ _ _ _ h
  · replace h := if_n h q2
    refine v_aload_n K 0 rfl dX10_against_11 ?_
    refine gM_2 K dX10_against_12 ?_
    refine v_iload_n K 1 rfl dX10_against_15 ?_
    obtain ⟨b3, h⟩ := ob_e h
    refine lM_2 (v := (s 2 x1.toNatClampNeg)) K b3 dX10_against_16 rfl ?_
    refine v_iload_n K 2 rfl dX10_against_17 ?_
    refine v_icmp_eq K 23 dX10_against_18 (by decide) (fun q4 => ?_) (fun q4 => ?_)
    · replace h := if_e h q4
      refine v_drop [(0, .ref (ad 0)), (1, .int x1), (3, .int x3), (4, .int x4)] [0, 1, 3, 4] rfl ?_
      exact wM_against_23 K RT _ _ _ _ h
    · replace h := if_n h q4
      refine v_iconst (v := (2 : Int32)) K dX10_against_21 (by decide) ?_
      obtain rfl := Option.some.inj h
      exact RT _ _ dX10_against_22
theorem cM_against {l : Launch} {D : va_G} {c : Nat → ClassId} {ad : Nat → Nat} {s s' : SS} {x1 : Int32} {x2 : Int32} {x3 : Int32} {x4 : Int32} {r : Int32} (h : M_against s x1 x2 x3 x4 = some (r, s')) : Ci l D c yX10_against cX10_against 5 (some .int) 0 [.ref (ad 0), .int x1, .int x2, .int x3, .int x4] (wM ad c s) r (wM ad c s') := Ci.of (by decide) (Nat.le_of_ble_eq_true rfl) (fun X K RT => wM_against K (r := (r, s')) RT s x1 x2 x3 x4 h)
set_option maxHeartbeats 4000000 in
set_option maxRecDepth 100000 in
theorem wM_allCoin_4 {ad : Nat → Nat} {X : Cx} {c : Nat → ClassId} (K : Ok X cX10_allCoin RX10 3 0 c) {r : Int32 × SS} (RT : ∀ pc ls, decode cX10_allCoin pc = .ok (.ireturn, 1) → V X 3 0 0 pc ls [.int r.1] (wM ad c r.2)) : ∀ (n : Nat) (x1 : Int32) (x2 : Int32) (s : SS), M_allCoin_4 n x1 x2 s = some r → V X 3 0 0 4 [(0, .ref (ad 0)), (1, .int x1), (2, .int x2)] [] (wM ad c s) := by
  intro n
  induction n with
  | zero => intro _ _ _ h; cases h
  | succ n ih =>
    intro x1 x2 s h
    rw [M_allCoin_4] at h
    refine v_iload_n K 2 rfl dX10_allCoin_4 ?_
    refine v_aload_n K 0 rfl dX10_allCoin_5 ?_
    refine gM_16 (v := (s 0 16)) K dX10_allCoin_6 rfl ?_
    refine v_icmp_ge K 27 dX10_allCoin_9 (by decide) (fun q1 => ?_) (fun q1 => ?_)
    · replace h := if_e h q1
      refine v_iload_n K 1 rfl dX10_allCoin_27 ?_
      obtain rfl := Option.some.inj h
      exact RT _ _ dX10_allCoin_28
    · replace h := if_n h q1
      refine v_iload_n K 1 rfl dX10_allCoin_12 ?_
      refine v_aload_n K 0 rfl dX10_allCoin_13 ?_
      refine gM_36 K dX10_allCoin_14 ?_
      refine v_iload_n K 2 rfl dX10_allCoin_17 ?_
      obtain ⟨b2, h⟩ := ob_e h
      refine lM_36 (v := (s 36 x2.toNatClampNeg)) K b2 dX10_allCoin_18 rfl ?_
      refine v_iadd K dX10_allCoin_19 ?_
      refine v_istore_n K [(0, .ref (ad 0)), (1, .int (x1 + (s 36 x2.toNatClampNeg))), (2, .int x2)] [1, 0, 2] dX10_allCoin_20 rfl (by decide) rfl ?_
      refine v_iinc (v := (x2 + (1 : Int32))) K 2 [(0, .ref (ad 0)), (1, .int (x1 + (s 36 x2.toNatClampNeg))), (2, .int (x2 + (1 : Int32)))] [1, 2, 0] dX10_allCoin_21 rfl rfl (by decide) rfl ?_
      refine v_goto K 4 dX10_allCoin_24 (by decide) ?_
      exact ih _ _ _ h
set_option maxHeartbeats 4000000 in
set_option maxRecDepth 100000 in
theorem wM_allCoin {ad : Nat → Nat} {X : Cx} {c : Nat → ClassId} (K : Ok X cX10_allCoin RX10 3 0 c) {r : Int32 × SS} (RT : ∀ pc ls, decode cX10_allCoin pc = .ok (.ireturn, 1) → V X 3 0 0 pc ls [.int r.1] (wM ad c r.2)) (s : SS) (h : M_allCoin s = some r) : V X 3 0 0 0 [(0, .ref (ad 0))] [] (wM ad c s) := by
  rw [M_allCoin] at h
  refine v_iconst (v := (0 : Int32)) K dX10_allCoin_0 (by decide) ?_
  refine v_istore_n K [(0, .ref (ad 0)), (1, .int (0 : Int32))] [1, 0] dX10_allCoin_1 rfl (by decide) rfl ?_
  refine v_iconst (v := (0 : Int32)) K dX10_allCoin_2 (by decide) ?_
  refine v_istore_n K [(0, .ref (ad 0)), (1, .int (0 : Int32)), (2, .int (0 : Int32))] [1, 2, 0] dX10_allCoin_3 rfl (by decide) rfl ?_
  exact wM_allCoin_4 K RT fuel _ _ _ h
theorem cM_allCoin {l : Launch} {D : va_G} {c : Nat → ClassId} {ad : Nat → Nat} {s s' : SS} {r : Int32} (h : M_allCoin s = some (r, s')) : Ci l D c yX10_allCoin cX10_allCoin 3 (some .int) 0 [.ref (ad 0)] (wM ad c s) r (wM ad c s') := Ci.of (by decide) (Nat.le_of_ble_eq_true rfl) (fun X K RT => wM_allCoin K (r := (r, s')) RT s  h)
set_option maxHeartbeats 4000000 in
set_option maxRecDepth 100000 in
theorem wM_awaited_116 {X : Cx} {c : Nat → ClassId} (K : Ok X cX10_awaited RX10 13 0 c) {r : Int64} (RT : ∀ pc ls, decode cX10_awaited pc = .ok (.lreturn, 1) → V X 13 0 0 pc ls [.long r] []) {k6 : Int32 → Int32 → Int32 → Int32 → Int32 → Int64 → Int32 → Option Int64} (hk6 : ∀ (x0 : Int32) (x1 : Int32) (x2 : Int32) (x3 : Int32) (x4 : Int32) (x5 : Int64) (x7 : Int32), k6 x0 x1 x2 x3 x4 x5 x7 = some r → V X 13 0 0 6 [(0, .int x0), (1, .int x1), (2, .int x2), (3, .int x3), (4, .int x4), (5, .long x5), (7, .int x7)] [] []) : ∀ (y0 : Int64) (y1 : Int64) (y2 : Int32) (x0 : Int32) (x1 : Int32) (x2 : Int32) (x3 : Int32) (x4 : Int32) (x7 : Int32), M_awaited_116 k6 y0 y1 y2 x0 x1 x2 x3 x4 x7 = some r → V X 13 0 0 116 [(0, .int x0), (1, .int x1), (2, .int x2), (3, .int x3), (4, .int x4), (7, .int x7)] [.int y2, .long y1, .long y0] [] := by
  intro y0 y1 y2 x0 x1 x2 x3 x4 x7 h
  rw [M_awaited_116] at h
  refine v_i2l K dX10_awaited_116 ?_
  refine v_lmul K dX10_awaited_117 ?_
  refine v_ladd K dX10_awaited_118 ?_
  refine v_lstore K [(0, .int x0), (1, .int x1), (2, .int x2), (3, .int x3), (4, .int x4), (5, .long (y0 + (y1 * (y2).toInt64))), (7, .int x7)] [1, 2, 3, 4, 5, 0, 6] dX10_awaited_119 (by decide) rfl ?_
  refine v_iinc (v := (x7 + (1 : Int32))) K 6 [(0, .int x0), (1, .int x1), (2, .int x2), (3, .int x3), (4, .int x4), (5, .long (y0 + (y1 * (y2).toInt64))), (7, .int (x7 + (1 : Int32)))] [1, 2, 3, 4, 5, 6, 0] dX10_awaited_121 rfl rfl (by decide) rfl ?_
  refine v_goto K 6 dX10_awaited_124 (by decide) ?_
  exact hk6 _ _ _ _ _ _ _ h
set_option maxHeartbeats 4000000 in
set_option maxRecDepth 100000 in
theorem wM_awaited_79 {X : Cx} {c : Nat → ClassId} (K : Ok X cX10_awaited RX10 13 0 c) {r : Int64} (RT : ∀ pc ls, decode cX10_awaited pc = .ok (.lreturn, 1) → V X 13 0 0 pc ls [.long r] []) {k6 : Int32 → Int32 → Int32 → Int32 → Int32 → Int64 → Int32 → Option Int64} {k23 : Int32 → Int32 → Int32 → Int32 → Int32 → Int64 → Int32 → Int64 → Int32 → Int32 → Option Int64} (hk6 : ∀ (x0 : Int32) (x1 : Int32) (x2 : Int32) (x3 : Int32) (x4 : Int32) (x5 : Int64) (x7 : Int32), k6 x0 x1 x2 x3 x4 x5 x7 = some r → V X 13 0 0 6 [(0, .int x0), (1, .int x1), (2, .int x2), (3, .int x3), (4, .int x4), (5, .long x5), (7, .int x7)] [] []) (hk23 : ∀ (x0 : Int32) (x1 : Int32) (x2 : Int32) (x3 : Int32) (x4 : Int32) (x5 : Int64) (x7 : Int32) (x8 : Int64) (x10 : Int32) (x11 : Int32), k23 x0 x1 x2 x3 x4 x5 x7 x8 x10 x11 = some r → V X 13 0 0 23 [(0, .int x0), (1, .int x1), (2, .int x2), (3, .int x3), (4, .int x4), (5, .long x5), (7, .int x7), (8, .long x8), (10, .int x10), (11, .int x11)] [] []) : ∀ (y0 : Int64) (y1 : Int64) (x0 : Int32) (x1 : Int32) (x2 : Int32) (x3 : Int32) (x4 : Int32) (x5 : Int64) (x7 : Int32) (x10 : Int32) (x11 : Int32), M_awaited_79 k6 k23 y0 y1 x0 x1 x2 x3 x4 x5 x7 x10 x11 = some r → V X 13 0 0 79 [(0, .int x0), (1, .int x1), (2, .int x2), (3, .int x3), (4, .int x4), (5, .long x5), (7, .int x7), (10, .int x10), (11, .int x11)] [.long y1, .long y0] [] := by
  intro y0 y1 x0 x1 x2 x3 x4 x5 x7 x10 x11 h
  rw [M_awaited_79] at h
  refine v_lmul K dX10_awaited_79 ?_
  refine v_lstore K [(0, .int x0), (1, .int x1), (2, .int x2), (3, .int x3), (4, .int x4), (5, .long x5), (7, .int x7), (8, .long (y0 * y1)), (10, .int x10), (11, .int x11)] [1, 2, 3, 4, 5, 6, 7, 0, 8, 9] dX10_awaited_80 (by decide) rfl ?_
  refine v_iinc (v := (x11 + (1 : Int32))) K 9 [(0, .int x0), (1, .int x1), (2, .int x2), (3, .int x3), (4, .int x4), (5, .long x5), (7, .int x7), (8, .long (y0 * y1)), (10, .int x10), (11, .int (x11 + (1 : Int32)))] [1, 2, 3, 4, 5, 6, 7, 8, 9, 0] dX10_awaited_82 rfl rfl (by decide) rfl ?_
  refine v_goto K 23 dX10_awaited_85 (by decide) ?_
  exact hk23 _ _ _ _ _ _ _ _ _ _ h
set_option maxHeartbeats 4000000 in
set_option maxRecDepth 100000 in
theorem wM_awaited_59 {X : Cx} {c : Nat → ClassId} (K : Ok X cX10_awaited RX10 13 0 c) {r : Int64} (RT : ∀ pc ls, decode cX10_awaited pc = .ok (.lreturn, 1) → V X 13 0 0 pc ls [.long r] []) {k6 : Int32 → Int32 → Int32 → Int32 → Int32 → Int64 → Int32 → Option Int64} {k23 : Int32 → Int32 → Int32 → Int32 → Int32 → Int64 → Int32 → Int64 → Int32 → Int32 → Option Int64} (hk6 : ∀ (x0 : Int32) (x1 : Int32) (x2 : Int32) (x3 : Int32) (x4 : Int32) (x5 : Int64) (x7 : Int32), k6 x0 x1 x2 x3 x4 x5 x7 = some r → V X 13 0 0 6 [(0, .int x0), (1, .int x1), (2, .int x2), (3, .int x3), (4, .int x4), (5, .long x5), (7, .int x7)] [] []) (hk23 : ∀ (x0 : Int32) (x1 : Int32) (x2 : Int32) (x3 : Int32) (x4 : Int32) (x5 : Int64) (x7 : Int32) (x8 : Int64) (x10 : Int32) (x11 : Int32), k23 x0 x1 x2 x3 x4 x5 x7 x8 x10 x11 = some r → V X 13 0 0 23 [(0, .int x0), (1, .int x1), (2, .int x2), (3, .int x3), (4, .int x4), (5, .long x5), (7, .int x7), (8, .long x8), (10, .int x10), (11, .int x11)] [] []) : ∀ (y0 : Int32) (y1 : Int32) (x0 : Int32) (x1 : Int32) (x2 : Int32) (x3 : Int32) (x4 : Int32) (x5 : Int64) (x7 : Int32) (x8 : Int64) (x11 : Int32) (x12 : Int32), M_awaited_59 k6 k23 y0 y1 x0 x1 x2 x3 x4 x5 x7 x8 x11 x12 = some r → V X 13 0 0 59 [(0, .int x0), (1, .int x1), (2, .int x2), (3, .int x3), (4, .int x4), (5, .long x5), (7, .int x7), (8, .long x8), (11, .int x11), (12, .int x12)] [.int y1, .int y0] [] := by
  intro y0 y1 x0 x1 x2 x3 x4 x5 x7 x8 x11 x12 h
  rw [M_awaited_59] at h
  refine v_iadd K dX10_awaited_59 ?_
  refine v_istore K [(0, .int x0), (1, .int x1), (2, .int x2), (3, .int x3), (4, .int x4), (5, .long x5), (7, .int x7), (8, .long x8), (10, .int (y0 + y1)), (11, .int x11), (12, .int x12)] [1, 2, 3, 4, 5, 6, 7, 8, 0, 9, 10] dX10_awaited_60 (by decide) rfl ?_
  refine v_lload K 7 rfl dX10_awaited_62 ?_
  refine v_iload K 10 rfl dX10_awaited_64 ?_
  refine v_if_eq K 74 dX10_awaited_66 (by decide) (fun q6 => ?_) (fun q6 => ?_)
  · replace h := if_e h q6
    refine v_bipush (v := (100 : Int32)) K dX10_awaited_74 (by decide) ?_
    refine v_iload_n K 1 rfl dX10_awaited_76 ?_
    refine v_isub K dX10_awaited_77 ?_
    refine v_i2l K dX10_awaited_78 ?_
    refine v_drop [(0, .int x0), (1, .int x1), (2, .int x2), (3, .int x3), (4, .int x4), (5, .long x5), (7, .int x7), (10, .int (y0 + y1)), (11, .int x11)] [0, 1, 2, 3, 4, 5, 6, 8, 9] rfl ?_
    exact wM_awaited_79 K RT hk6 hk23 _ _ _ _ _ _ _ _ _ _ _ h
  · replace h := if_n h q6
    refine v_iload_n K 1 rfl dX10_awaited_69 ?_
    refine v_i2l K dX10_awaited_70 ?_
    refine v_goto K 79 dX10_awaited_71 (by decide) ?_
    refine v_drop [(0, .int x0), (1, .int x1), (2, .int x2), (3, .int x3), (4, .int x4), (5, .long x5), (7, .int x7), (10, .int (y0 + y1)), (11, .int x11)] [0, 1, 2, 3, 4, 5, 6, 8, 9] rfl ?_
    exact wM_awaited_79 K RT hk6 hk23 _ _ _ _ _ _ _ _ _ _ _ h
set_option maxHeartbeats 4000000 in
set_option maxRecDepth 100000 in
theorem wM_awaited_45 {X : Cx} {c : Nat → ClassId} (K : Ok X cX10_awaited RX10 13 0 c) {r : Int64} (RT : ∀ pc ls, decode cX10_awaited pc = .ok (.lreturn, 1) → V X 13 0 0 pc ls [.long r] []) {k6 : Int32 → Int32 → Int32 → Int32 → Int32 → Int64 → Int32 → Option Int64} {k23 : Int32 → Int32 → Int32 → Int32 → Int32 → Int64 → Int32 → Int64 → Int32 → Int32 → Option Int64} (hk6 : ∀ (x0 : Int32) (x1 : Int32) (x2 : Int32) (x3 : Int32) (x4 : Int32) (x5 : Int64) (x7 : Int32), k6 x0 x1 x2 x3 x4 x5 x7 = some r → V X 13 0 0 6 [(0, .int x0), (1, .int x1), (2, .int x2), (3, .int x3), (4, .int x4), (5, .long x5), (7, .int x7)] [] []) (hk23 : ∀ (x0 : Int32) (x1 : Int32) (x2 : Int32) (x3 : Int32) (x4 : Int32) (x5 : Int64) (x7 : Int32) (x8 : Int64) (x10 : Int32) (x11 : Int32), k23 x0 x1 x2 x3 x4 x5 x7 x8 x10 x11 = some r → V X 13 0 0 23 [(0, .int x0), (1, .int x1), (2, .int x2), (3, .int x3), (4, .int x4), (5, .long x5), (7, .int x7), (8, .long x8), (10, .int x10), (11, .int x11)] [] []) : ∀ (y0 : Int32) (x0 : Int32) (x1 : Int32) (x2 : Int32) (x3 : Int32) (x4 : Int32) (x5 : Int64) (x7 : Int32) (x8 : Int64) (x10 : Int32) (x11 : Int32), M_awaited_45 k6 k23 y0 x0 x1 x2 x3 x4 x5 x7 x8 x10 x11 = some r → V X 13 0 0 45 [(0, .int x0), (1, .int x1), (2, .int x2), (3, .int x3), (4, .int x4), (5, .long x5), (7, .int x7), (8, .long x8), (10, .int x10), (11, .int x11)] [.int y0] [] := by
  intro y0 x0 x1 x2 x3 x4 x5 x7 x8 x10 x11 h
  rw [M_awaited_45] at h
  refine v_istore K [(0, .int x0), (1, .int x1), (2, .int x2), (3, .int x3), (4, .int x4), (5, .long x5), (7, .int x7), (8, .long x8), (10, .int x10), (11, .int x11), (12, .int y0)] [1, 2, 3, 4, 5, 6, 7, 8, 9, 10, 0] dX10_awaited_45 (by decide) rfl ?_
  refine v_iload K 8 rfl dX10_awaited_47 ?_
  refine v_iload K 10 rfl dX10_awaited_49 ?_
  refine v_if_eq K 58 dX10_awaited_51 (by decide) (fun q5 => ?_) (fun q5 => ?_)
  · replace h := if_e h q5
    refine v_iconst (v := (0 : Int32)) K dX10_awaited_58 (by decide) ?_
    refine v_drop [(0, .int x0), (1, .int x1), (2, .int x2), (3, .int x3), (4, .int x4), (5, .long x5), (7, .int x7), (8, .long x8), (11, .int x11), (12, .int y0)] [0, 1, 2, 3, 4, 5, 6, 7, 9, 10] rfl ?_
    exact wM_awaited_59 K RT hk6 hk23 _ _ _ _ _ _ _ _ _ _ _ _ h
  · replace h := if_n h q5
    refine v_iconst (v := (1 : Int32)) K dX10_awaited_54 (by decide) ?_
    refine v_goto K 59 dX10_awaited_55 (by decide) ?_
    refine v_drop [(0, .int x0), (1, .int x1), (2, .int x2), (3, .int x3), (4, .int x4), (5, .long x5), (7, .int x7), (8, .long x8), (11, .int x11), (12, .int y0)] [0, 1, 2, 3, 4, 5, 6, 7, 9, 10] rfl ?_
    exact wM_awaited_59 K RT hk6 hk23 _ _ _ _ _ _ _ _ _ _ _ _ h
set_option maxHeartbeats 4000000 in
set_option maxRecDepth 100000 in
theorem wM_awaited_23 {X : Cx} {c : Nat → ClassId} (K : Ok X cX10_awaited RX10 13 0 c) {r : Int64} (RT : ∀ pc ls, decode cX10_awaited pc = .ok (.lreturn, 1) → V X 13 0 0 pc ls [.long r] []) {k6 : Int32 → Int32 → Int32 → Int32 → Int32 → Int64 → Int32 → Option Int64} (hk6 : ∀ (x0 : Int32) (x1 : Int32) (x2 : Int32) (x3 : Int32) (x4 : Int32) (x5 : Int64) (x7 : Int32), k6 x0 x1 x2 x3 x4 x5 x7 = some r → V X 13 0 0 6 [(0, .int x0), (1, .int x1), (2, .int x2), (3, .int x3), (4, .int x4), (5, .long x5), (7, .int x7)] [] []) : ∀ (n : Nat) (x0 : Int32) (x1 : Int32) (x2 : Int32) (x3 : Int32) (x4 : Int32) (x5 : Int64) (x7 : Int32) (x8 : Int64) (x10 : Int32) (x11 : Int32), M_awaited_23 k6 n x0 x1 x2 x3 x4 x5 x7 x8 x10 x11 = some r → V X 13 0 0 23 [(0, .int x0), (1, .int x1), (2, .int x2), (3, .int x3), (4, .int x4), (5, .long x5), (7, .int x7), (8, .long x8), (10, .int x10), (11, .int x11)] [] [] := by
  intro n
  induction n with
  | zero => intro _ _ _ _ _ _ _ _ _ _ h; cases h
  | succ n ih =>
    intro x0 x1 x2 x3 x4 x5 x7 x8 x10 x11 h
    rw [M_awaited_23] at h
    refine v_iload K 9 rfl dX10_awaited_23 ?_
    refine v_iload_n K 0 rfl dX10_awaited_25 ?_
    refine v_icmp_ge K 88 dX10_awaited_26 (by decide) (fun q2 => ?_) (fun q2 => ?_)
    · replace h := if_e h q2
      refine v_lload K 5 rfl dX10_awaited_88 ?_
      refine v_lload K 7 rfl dX10_awaited_90 ?_
      refine v_iload K 8 rfl dX10_awaited_92 ?_
      refine v_iload_n K 2 rfl dX10_awaited_94 ?_
      refine v_icmp_le K 112 dX10_awaited_95 (by decide) (fun q3 => ?_) (fun q3 => ?_)
      · replace h := if_e h q3
        refine v_iload_n K 3 rfl dX10_awaited_112 ?_
        refine v_iload K 8 rfl dX10_awaited_113 ?_
        refine v_imul K dX10_awaited_115 ?_
        refine v_drop [(0, .int x0), (1, .int x1), (2, .int x2), (3, .int x3), (4, .int x4), (7, .int x7)] [0, 1, 2, 3, 4, 6] rfl ?_
        exact wM_awaited_116 K RT hk6 _ _ _ _ _ _ _ _ _ h
      · replace h := if_n h q3
        refine v_iload_n K 3 rfl dX10_awaited_98 ?_
        refine v_iload_n K 2 rfl dX10_awaited_99 ?_
        refine v_imul K dX10_awaited_100 ?_
        refine v_iload K 4 rfl dX10_awaited_101 ?_
        refine v_iload K 8 rfl dX10_awaited_103 ?_
        refine v_iload_n K 2 rfl dX10_awaited_105 ?_
        refine v_isub K dX10_awaited_106 ?_
        refine v_imul K dX10_awaited_107 ?_
        refine v_isub K dX10_awaited_108 ?_
        refine v_goto K 116 dX10_awaited_109 (by decide) ?_
        refine v_drop [(0, .int x0), (1, .int x1), (2, .int x2), (3, .int x3), (4, .int x4), (7, .int x7)] [0, 1, 2, 3, 4, 6] rfl ?_
        exact wM_awaited_116 K RT hk6 _ _ _ _ _ _ _ _ _ h
    · replace h := if_n h q2
      refine v_iload K 6 rfl dX10_awaited_29 ?_
      refine v_iload K 9 rfl dX10_awaited_31 ?_
      refine v_ishr K dX10_awaited_33 ?_
      refine v_iconst (v := (1 : Int32)) K dX10_awaited_34 (by decide) ?_
      refine v_iand K dX10_awaited_35 ?_
      refine v_iconst (v := (1 : Int32)) K dX10_awaited_36 (by decide) ?_
      refine v_icmp_ne K 44 dX10_awaited_37 (by decide) (fun q4 => ?_) (fun q4 => ?_)
      · replace h := if_n h q4
        refine v_iconst (v := (0 : Int32)) K dX10_awaited_44 (by decide) ?_
        exact wM_awaited_45 K RT hk6 (fun a0 a1 a2 a3 a4 a5 a6 a7 a8 a9 e => ih a0 a1 a2 a3 a4 a5 a6 a7 a8 a9 e) _ _ _ _ _ _ _ _ _ _ _ h
      · replace h := if_e h q4
        refine v_iconst (v := (1 : Int32)) K dX10_awaited_40 (by decide) ?_
        refine v_goto K 45 dX10_awaited_41 (by decide) ?_
        exact wM_awaited_45 K RT hk6 (fun a0 a1 a2 a3 a4 a5 a6 a7 a8 a9 e => ih a0 a1 a2 a3 a4 a5 a6 a7 a8 a9 e) _ _ _ _ _ _ _ _ _ _ _ h
set_option maxHeartbeats 4000000 in
set_option maxRecDepth 100000 in
theorem wM_awaited_6 {X : Cx} {c : Nat → ClassId} (K : Ok X cX10_awaited RX10 13 0 c) {r : Int64} (RT : ∀ pc ls, decode cX10_awaited pc = .ok (.lreturn, 1) → V X 13 0 0 pc ls [.long r] []) : ∀ (n : Nat) (x0 : Int32) (x1 : Int32) (x2 : Int32) (x3 : Int32) (x4 : Int32) (x5 : Int64) (x7 : Int32), M_awaited_6 n x0 x1 x2 x3 x4 x5 x7 = some r → V X 13 0 0 6 [(0, .int x0), (1, .int x1), (2, .int x2), (3, .int x3), (4, .int x4), (5, .long x5), (7, .int x7)] [] [] := by
  intro n
  induction n with
  | zero => intro _ _ _ _ _ _ _ h; cases h
  | succ n ih =>
    intro x0 x1 x2 x3 x4 x5 x7 h
    rw [M_awaited_6] at h
    refine v_iload K 6 rfl dX10_awaited_6 ?_
    refine v_iconst (v := (1 : Int32)) K dX10_awaited_8 (by decide) ?_
    refine v_iload_n K 0 rfl dX10_awaited_9 ?_
    refine v_ishl K dX10_awaited_10 ?_
    refine v_icmp_ge K 127 dX10_awaited_11 (by decide) (fun q1 => ?_) (fun q1 => ?_)
    · replace h := if_e h q1
      refine v_lload K 5 rfl dX10_awaited_127 ?_
      obtain rfl := Option.some.inj h
      exact RT _ _ dX10_awaited_129
    · replace h := if_n h q1
      refine v_lconst (v := (1 : Int64)) K dX10_awaited_14 (by decide) ?_
      refine v_lstore K [(0, .int x0), (1, .int x1), (2, .int x2), (3, .int x3), (4, .int x4), (5, .long x5), (7, .int x7), (8, .long (1 : Int64))] [1, 2, 3, 4, 5, 6, 7, 0] dX10_awaited_15 (by decide) rfl ?_
      refine v_iconst (v := (0 : Int32)) K dX10_awaited_17 (by decide) ?_
      refine v_istore K [(0, .int x0), (1, .int x1), (2, .int x2), (3, .int x3), (4, .int x4), (5, .long x5), (7, .int x7), (8, .long (1 : Int64)), (10, .int (0 : Int32))] [1, 2, 3, 4, 5, 6, 7, 8, 0] dX10_awaited_18 (by decide) rfl ?_
      refine v_iconst (v := (0 : Int32)) K dX10_awaited_20 (by decide) ?_
      refine v_istore K [(0, .int x0), (1, .int x1), (2, .int x2), (3, .int x3), (4, .int x4), (5, .long x5), (7, .int x7), (8, .long (1 : Int64)), (10, .int (0 : Int32)), (11, .int (0 : Int32))] [1, 2, 3, 4, 5, 6, 7, 8, 9, 0] dX10_awaited_21 (by decide) rfl ?_
      exact wM_awaited_23 K RT (fun a0 a1 a2 a3 a4 a5 a6 e => ih a0 a1 a2 a3 a4 a5 a6 e) fuel _ _ _ _ _ _ _ _ _ _ h
set_option maxHeartbeats 4000000 in
set_option maxRecDepth 100000 in
theorem wM_awaited {X : Cx} {c : Nat → ClassId} (K : Ok X cX10_awaited RX10 13 0 c) {r : Int64} (RT : ∀ pc ls, decode cX10_awaited pc = .ok (.lreturn, 1) → V X 13 0 0 pc ls [.long r] []) (x0 : Int32) (x1 : Int32) (x2 : Int32) (x3 : Int32) (x4 : Int32) (h : M_awaited x0 x1 x2 x3 x4 = some r) : V X 13 0 0 0 [(0, .int x0), (1, .int x1), (2, .int x2), (3, .int x3), (4, .int x4)] [] [] := by
  rw [M_awaited] at h
  refine v_lconst (v := (0 : Int64)) K dX10_awaited_0 (by decide) ?_
  refine v_lstore K [(0, .int x0), (1, .int x1), (2, .int x2), (3, .int x3), (4, .int x4), (5, .long (0 : Int64))] [1, 2, 3, 4, 5, 0] dX10_awaited_1 (by decide) rfl ?_
  refine v_iconst (v := (0 : Int32)) K dX10_awaited_3 (by decide) ?_
  refine v_istore K [(0, .int x0), (1, .int x1), (2, .int x2), (3, .int x3), (4, .int x4), (5, .long (0 : Int64)), (7, .int (0 : Int32))] [1, 2, 3, 4, 5, 6, 0] dX10_awaited_4 (by decide) rfl ?_
  exact wM_awaited_6 K RT fuel _ _ _ _ _ _ _ h
theorem cM_awaited {l : Launch} {D : va_G} {c : Nat → ClassId} {x0 : Int32} {x1 : Int32} {x2 : Int32} {x3 : Int32} {x4 : Int32} {r : Int64} (h : M_awaited x0 x1 x2 x3 x4 = some r) : Cl l D c yX10_awaited cX10_awaited 13 (some .long) 0 [.int x0, .int x1, .int x2, .int x3, .int x4] [] r [] := Cl.of (by decide) (Nat.le_of_ble_eq_true rfl) (fun X K RT => wM_awaited K RT x0 x1 x2 x3 x4 h)
set_option maxHeartbeats 4000000 in
set_option maxRecDepth 100000 in
theorem wM_begins {ad : Nat → Nat} {X : Cx} {c : Nat → ClassId} (K : Ok X cX10_begins RX10 2 0 c) {r : SS} (RT : ∀ pc ls, decode cX10_begins pc = .ok (.return_, 1) → V X 2 0 0 pc ls [] (wM ad c r)) (s : SS) (x1 : Int32) (h : M_begins s x1 = some r) : V X 2 0 0 0 [(0, .ref (ad 0)), (1, .int x1)] [] (wM ad c s) := by
  rw [M_begins] at h
  refine v_aload_n K 0 rfl dX10_begins_0 ?_
  refine v_bipush (v := (31 : Int32)) K dX10_begins_1 (by decide) ?_
  refine v_aload_n K 0 rfl dX10_begins_3 ?_
  refine gM_1 (v := (s 0 1)) K dX10_begins_4 rfl ?_
  refine v_imul K dX10_begins_7 ?_
  refine v_iload_n K 1 rfl dX10_begins_8 ?_
  refine v_iadd K dX10_begins_9 ?_
  refine pM_1 K dX10_begins_10 ?_
  obtain rfl := Option.some.inj h
  exact RT _ _ dX10_begins_13
theorem cM_begins {l : Launch} {D : va_G} {c : Nat → ClassId} {ad : Nat → Nat} {s s' : SS} {x1 : Int32} (h : M_begins s x1 = some s') : Cv l D c yX10_begins cX10_begins 2 none 0 [.ref (ad 0), .int x1] (wM ad c s) (wM ad c s') := Cv.of (by decide) (Nat.le_of_ble_eq_true rfl) (fun X K RT => wM_begins K RT s x1 h)
set_option maxHeartbeats 4000000 in
set_option maxRecDepth 100000 in
theorem wM_coinOf_24 {ad : Nat → Nat} {X : Cx} {c : Nat → ClassId} (K : Ok X cX10_coinOf RX10 3 0 c) {r : Int32 × SS} (RT : ∀ pc ls, decode cX10_coinOf pc = .ok (.ireturn, 1) → V X 3 0 0 pc ls [.int r.1] (wM ad c r.2)) : ∀ (y0 : Int32) (y1 : Int32) (y2 : Int32) (y3 : Int32) (s : SS), M_coinOf_24 y0 y1 y2 y3 s = some r → V X 3 0 0 24 [] [.int y3, .int y2, .int y1, .int y0] (wM ad c s) := by
  intro y0 y1 y2 y3 s h
  rw [M_coinOf_24] at h
  obtain ⟨b4, h⟩ := ob_e h
  refine v_idiv K dX10_coinOf_24 b4 ?_
  refine v_iadd K dX10_coinOf_25 ?_
  refine v_imul K dX10_coinOf_26 ?_
  obtain rfl := Option.some.inj h
  exact RT _ _ dX10_coinOf_27
set_option maxHeartbeats 4000000 in
set_option maxRecDepth 100000 in
theorem wM_coinOf {ad : Nat → Nat} {X : Cx} {c : Nat → ClassId} (K : Ok X cX10_coinOf RX10 3 0 c) {r : Int32 × SS} (RT : ∀ pc ls, decode cX10_coinOf pc = .ok (.ireturn, 1) → V X 3 0 0 pc ls [.int r.1] (wM ad c r.2)) (s : SS) (x1 : Int32) (x2 : Int32) (h : M_coinOf s x1 x2 = some r) : V X 3 0 0 0 [(0, .ref (ad 0)), (1, .int x1), (2, .int x2)] [] (wM ad c s) := by
  rw [M_coinOf] at h
  refine v_aload_n K 0 rfl dX10_coinOf_0 ?_
  refine gM_18 K dX10_coinOf_1 ?_
  refine v_iload_n K 1 rfl dX10_coinOf_4 ?_
  obtain ⟨b1, h⟩ := ob_e h
  refine lM_18 (v := (s 18 x1.toNatClampNeg)) K b1 dX10_coinOf_5 rfl ?_
  refine v_iconst (v := (5 : Int32)) K dX10_coinOf_6 (by decide) ?_
  refine v_iload_n K 2 rfl dX10_coinOf_7 ?_
  refine v_aload_n K 0 rfl dX10_coinOf_8 ?_
  refine gM_17 K dX10_coinOf_9 ?_
  refine v_iload_n K 1 rfl dX10_coinOf_12 ?_
  obtain ⟨b2, h⟩ := ob_e h
  refine lM_17 (v := (s 17 x1.toNatClampNeg)) K b2 dX10_coinOf_13 rfl ?_
  refine v_if_le K 22 dX10_coinOf_14 (by decide) (fun q3 => ?_) (fun q3 => ?_)
  · replace h := if_e h q3
    refine v_bipush (v := (10 : Int32)) K dX10_coinOf_22 (by decide) ?_
    refine v_drop [] [] rfl ?_
    exact wM_coinOf_24 K RT _ _ _ _ _ h
  · replace h := if_n h q3
    refine v_bipush (v := (20 : Int32)) K dX10_coinOf_17 (by decide) ?_
    refine v_goto K 24 dX10_coinOf_19 (by decide) ?_
    refine v_drop [] [] rfl ?_
    exact wM_coinOf_24 K RT _ _ _ _ _ h
theorem cM_coinOf {l : Launch} {D : va_G} {c : Nat → ClassId} {ad : Nat → Nat} {s s' : SS} {x1 : Int32} {x2 : Int32} {r : Int32} (h : M_coinOf s x1 x2 = some (r, s')) : Ci l D c yX10_coinOf cX10_coinOf 3 (some .int) 0 [.ref (ad 0), .int x1, .int x2] (wM ad c s) r (wM ad c s') := Ci.of (by decide) (Nat.le_of_ble_eq_true rfl) (fun X K RT => wM_coinOf K (r := (r, s')) RT s x1 x2 h)
set_option maxHeartbeats 4000000 in
set_option maxRecDepth 100000 in
theorem wM_fails {ad : Nat → Nat} {X : Cx} {c : Nat → ClassId} (K : Ok X cX10_fails RX10 2 0 c) {r : Int32 × SS} (RT : ∀ pc ls, decode cX10_fails pc = .ok (.ireturn, 1) → V X 2 0 0 pc ls [.int r.1] (wM ad c r.2)) (s : SS) (x1 : Int32) (h : M_fails s x1 = some r) : V X 2 0 0 0 [(0, .ref (ad 0)), (1, .int x1)] [] (wM ad c s) := by
  rw [M_fails] at h
  refine v_aload_n K 0 rfl dX10_fails_0 ?_
  refine v_iload_n K 1 rfl dX10_fails_1 ?_
  refine pM_0 K dX10_fails_2 ?_
  refine v_bipush (v := (-10 : Int32)) K dX10_fails_5 (by decide) ?_
  refine v_iload_n K 1 rfl dX10_fails_7 ?_
  refine v_isub K dX10_fails_8 ?_
  obtain rfl := Option.some.inj h
  exact RT _ _ dX10_fails_9
theorem cM_fails {l : Launch} {D : va_G} {c : Nat → ClassId} {ad : Nat → Nat} {s s' : SS} {x1 : Int32} {r : Int32} (h : M_fails s x1 = some (r, s')) : Ci l D c yX10_fails cX10_fails 2 (some .int) 0 [.ref (ad 0), .int x1] (wM ad c s) r (wM ad c s') := Ci.of (by decide) (Nat.le_of_ble_eq_true rfl) (fun X K RT => wM_fails K (r := (r, s')) RT s x1 h)
set_option maxHeartbeats 4000000 in
set_option maxRecDepth 100000 in
theorem wM_fault {ad : Nat → Nat} {X : Cx} {c : Nat → ClassId} (K : Ok X cX10_fault RX10 1 0 c) {r : Int32 × SS} (RT : ∀ pc ls, decode cX10_fault pc = .ok (.ireturn, 1) → V X 1 0 0 pc ls [.int r.1] (wM ad c r.2)) (s : SS) (h : M_fault s = some r) : V X 1 0 0 0 [(0, .ref (ad 0))] [] (wM ad c s) := by
  rw [M_fault] at h
  refine v_aload_n K 0 rfl dX10_fault_0 ?_
  refine gM_0 (v := (s 0 0)) K dX10_fault_1 rfl ?_
  obtain rfl := Option.some.inj h
  exact RT _ _ dX10_fault_4
theorem cM_fault {l : Launch} {D : va_G} {c : Nat → ClassId} {ad : Nat → Nat} {s s' : SS} {r : Int32} (h : M_fault s = some (r, s')) : Ci l D c yX10_fault cX10_fault 1 (some .int) 0 [.ref (ad 0)] (wM ad c s) r (wM ad c s') := Ci.of (by decide) (Nat.le_of_ble_eq_true rfl) (fun X K RT => wM_fault K (r := (r, s')) RT s  h)
set_option maxHeartbeats 4000000 in
set_option maxRecDepth 100000 in
theorem wM_getsUp_28 {ad : Nat → Nat} {X : Cx} {c : Nat → ClassId} (K : Ok X cX10_getsUp RX10 3 0 c) {r : SS} (RT : ∀ pc ls, decode cX10_getsUp pc = .ok (.return_, 1) → V X 3 0 0 pc ls [] (wM ad c r)) {k2 : Int32 → Int32 → SS → Option SS} (hk2 : ∀ (x1 : Int32) (x2 : Int32) (s : SS), k2 x1 x2 s = some r → V X 3 0 0 2 [(0, .ref (ad 0)), (1, .int x1), (2, .int x2)] [] (wM ad c s)) : ∀ (x1 : Int32) (x2 : Int32) (s : SS), M_getsUp_28 k2 x1 x2 s = some r → V X 3 0 0 28 [(0, .ref (ad 0)), (1, .int x1), (2, .int x2)] [] (wM ad c s) := by
  intro x1 x2 s h
  rw [M_getsUp_28] at h
  refine v_iinc (v := (x2 + (1 : Int32))) K 2 [(0, .ref (ad 0)), (1, .int x1), (2, .int (x2 + (1 : Int32)))] [1, 2, 0] dX10_getsUp_28 rfl rfl (by decide) rfl ?_
  refine v_goto K 2 dX10_getsUp_31 (by decide) ?_
  exact hk2 _ _ _ h
set_option maxHeartbeats 4000000 in
set_option maxRecDepth 100000 in
theorem wM_getsUp_2 {ad : Nat → Nat} {X : Cx} {c : Nat → ClassId} (K : Ok X cX10_getsUp RX10 3 0 c) {r : SS} (RT : ∀ pc ls, decode cX10_getsUp pc = .ok (.return_, 1) → V X 3 0 0 pc ls [] (wM ad c r)) : ∀ (n : Nat) (x1 : Int32) (x2 : Int32) (s : SS), M_getsUp_2 n x1 x2 s = some r → V X 3 0 0 2 [(0, .ref (ad 0)), (1, .int x1), (2, .int x2)] [] (wM ad c s) := by
  intro n
  induction n with
  | zero => intro _ _ _ h; cases h
  | succ n ih =>
    intro x1 x2 s h
    rw [M_getsUp_2] at h
    refine v_iload_n K 2 rfl dX10_getsUp_2 ?_
    refine v_aload_n K 0 rfl dX10_getsUp_3 ?_
    refine gM_23 (v := (s 0 23)) K dX10_getsUp_4 rfl ?_
    refine v_icmp_ge K 34 dX10_getsUp_7 (by decide) (fun q1 => ?_) (fun q1 => ?_)
    · replace h := if_e h q1
      obtain rfl := Option.some.inj h
      exact RT _ _ dX10_getsUp_34
    · replace h := if_n h q1
      refine v_aload_n K 0 rfl dX10_getsUp_10 ?_
      refine gM_30 K dX10_getsUp_11 ?_
      refine v_iload_n K 2 rfl dX10_getsUp_14 ?_
      obtain ⟨b2, h⟩ := ob_e h
      refine lM_30 (v := (s 30 x2.toNatClampNeg)) K b2 dX10_getsUp_15 rfl ?_
      refine v_iload_n K 1 rfl dX10_getsUp_16 ?_
      refine v_icmp_ne K 28 dX10_getsUp_17 (by decide) (fun q3 => ?_) (fun q3 => ?_)
      · replace h := if_n h q3
        exact wM_getsUp_28 K RT (fun a0 a1 a2 e => ih a0 a1 a2 e) _ _ _ h
      · replace h := if_e h q3
        refine v_aload_n K 0 rfl dX10_getsUp_20 ?_
        refine gM_30 K dX10_getsUp_21 ?_
        refine v_iload_n K 2 rfl dX10_getsUp_24 ?_
        refine v_bipush (v := (-9 : Int32)) K dX10_getsUp_25 (by decide) ?_
        obtain ⟨b4, h⟩ := ob_e h
        refine sM_30 K b4 dX10_getsUp_27 ?_
        exact wM_getsUp_28 K RT (fun a0 a1 a2 e => ih a0 a1 a2 e) _ _ _ h
set_option maxHeartbeats 4000000 in
set_option maxRecDepth 100000 in
theorem wM_getsUp {ad : Nat → Nat} {X : Cx} {c : Nat → ClassId} (K : Ok X cX10_getsUp RX10 3 0 c) {r : SS} (RT : ∀ pc ls, decode cX10_getsUp pc = .ok (.return_, 1) → V X 3 0 0 pc ls [] (wM ad c r)) (s : SS) (x1 : Int32) (h : M_getsUp s x1 = some r) : V X 3 0 0 0 [(0, .ref (ad 0)), (1, .int x1)] [] (wM ad c s) := by
  rw [M_getsUp] at h
  refine v_iconst (v := (0 : Int32)) K dX10_getsUp_0 (by decide) ?_
  refine v_istore_n K [(0, .ref (ad 0)), (1, .int x1), (2, .int (0 : Int32))] [1, 2, 0] dX10_getsUp_1 rfl (by decide) rfl ?_
  exact wM_getsUp_2 K RT fuel _ _ _ h
theorem cM_getsUp {l : Launch} {D : va_G} {c : Nat → ClassId} {ad : Nat → Nat} {s s' : SS} {x1 : Int32} (h : M_getsUp s x1 = some s') : Cv l D c yX10_getsUp cX10_getsUp 3 none 0 [.ref (ad 0), .int x1] (wM ad c s) (wM ad c s') := Cv.of (by decide) (Nat.le_of_ble_eq_true rfl) (fun X K RT => wM_getsUp K RT s x1 h)
set_option maxHeartbeats 4000000 in
set_option maxRecDepth 100000 in
theorem wM_hundreds_4 {X : Cx} {c : Nat → ClassId} (K : Ok X cX10_hundreds RX10 4 0 c) {r : Int64} (RT : ∀ pc ls, decode cX10_hundreds pc = .ok (.lreturn, 1) → V X 4 0 0 pc ls [.long r] []) : ∀ (n : Nat) (x0 : Int32) (x1 : Int64) (x3 : Int32), M_hundreds_4 n x0 x1 x3 = some r → V X 4 0 0 4 [(0, .int x0), (1, .long x1), (3, .int x3)] [] [] := by
  intro n
  induction n with
  | zero => intro _ _ _ h; cases h
  | succ n ih =>
    intro x0 x1 x3 h
    rw [M_hundreds_4] at h
    refine v_iload_n K 2 rfl dX10_hundreds_4 ?_
    refine v_iload_n K 0 rfl dX10_hundreds_5 ?_
    refine v_icmp_ge K 21 dX10_hundreds_6 (by decide) (fun q1 => ?_) (fun q1 => ?_)
    · replace h := if_e h q1
      refine v_lload_n K 1 rfl dX10_hundreds_21 ?_
      obtain rfl := Option.some.inj h
      exact RT _ _ dX10_hundreds_22
    · replace h := if_n h q1
      refine v_lload_n K 1 rfl dX10_hundreds_9 ?_
      refine v_ldc2 (v := (100 : Int64)) K kM_267 dX10_hundreds_10 ?_
      refine v_lmul K dX10_hundreds_13 ?_
      refine v_lstore_n K [(0, .int x0), (1, .long (x1 * (100 : Int64))), (3, .int x3)] [1, 0, 2] dX10_hundreds_14 rfl (by decide) rfl ?_
      refine v_iinc (v := (x3 + (1 : Int32))) K 2 [(0, .int x0), (1, .long (x1 * (100 : Int64))), (3, .int (x3 + (1 : Int32)))] [1, 2, 0] dX10_hundreds_15 rfl rfl (by decide) rfl ?_
      refine v_goto K 4 dX10_hundreds_18 (by decide) ?_
      exact ih _ _ _ h
set_option maxHeartbeats 4000000 in
set_option maxRecDepth 100000 in
theorem wM_hundreds {X : Cx} {c : Nat → ClassId} (K : Ok X cX10_hundreds RX10 4 0 c) {r : Int64} (RT : ∀ pc ls, decode cX10_hundreds pc = .ok (.lreturn, 1) → V X 4 0 0 pc ls [.long r] []) (x0 : Int32) (h : M_hundreds x0 = some r) : V X 4 0 0 0 [(0, .int x0)] [] [] := by
  rw [M_hundreds] at h
  refine v_lconst (v := (1 : Int64)) K dX10_hundreds_0 (by decide) ?_
  refine v_lstore_n K [(0, .int x0), (1, .long (1 : Int64))] [1, 0] dX10_hundreds_1 rfl (by decide) rfl ?_
  refine v_iconst (v := (0 : Int32)) K dX10_hundreds_2 (by decide) ?_
  refine v_istore_n K [(0, .int x0), (1, .long (1 : Int64)), (3, .int (0 : Int32))] [1, 2, 0] dX10_hundreds_3 rfl (by decide) rfl ?_
  exact wM_hundreds_4 K RT fuel _ _ _ h
theorem cM_hundreds {l : Launch} {D : va_G} {c : Nat → ClassId} {x0 : Int32} {r : Int64} (h : M_hundreds x0 = some r) : Cl l D c yX10_hundreds cX10_hundreds 4 (some .long) 0 [.int x0] [] r [] := Cl.of (by decide) (Nat.le_of_ble_eq_true rfl) (fun X K RT => wM_hundreds K RT x0 h)
set_option maxHeartbeats 4000000 in
set_option maxRecDepth 100000 in
theorem wM_isCafe_12 {ad : Nat → Nat} {X : Cx} {c : Nat → ClassId} (K : Ok X cX10_isCafe RX10 1 0 c) {r : Int32 × SS} (RT : nb r.1 = true → ∀ pc ls, decode cX10_isCafe pc = .ok (.ireturn, 1) → V X 1 0 0 pc ls [.int r.1] (wM ad c r.2)) : ∀ (y0 : Int32) (s : SS), M_isCafe_12 y0 s = some r → V X 1 0 0 12 [] [.int y0] (wM ad c s) := by
  intro y0 s h
  rw [M_isCafe_12] at h
  obtain ⟨b2, h⟩ := ob_e h
  obtain rfl := Option.some.inj h
  exact RT b2 _ _ dX10_isCafe_12
set_option maxHeartbeats 4000000 in
set_option maxRecDepth 100000 in
theorem wM_isCafe {ad : Nat → Nat} {X : Cx} {c : Nat → ClassId} (K : Ok X cX10_isCafe RX10 1 0 c) {r : Int32 × SS} (RT : nb r.1 = true → ∀ pc ls, decode cX10_isCafe pc = .ok (.ireturn, 1) → V X 1 0 0 pc ls [.int r.1] (wM ad c r.2)) (s : SS) (h : M_isCafe s = some r) : V X 1 0 0 0 [(0, .ref (ad 0))] [] (wM ad c s) := by
  rw [M_isCafe] at h
  refine v_aload_n K 0 rfl dX10_isCafe_0 ?_
  refine gM_5 (v := (s 0 5)) K dX10_isCafe_1 rfl ?_
  refine v_if_le K 11 dX10_isCafe_4 (by decide) (fun q1 => ?_) (fun q1 => ?_)
  · replace h := if_e h q1
    refine v_iconst (v := (0 : Int32)) K dX10_isCafe_11 (by decide) ?_
    refine v_drop [] [] rfl ?_
    exact wM_isCafe_12 K RT _ _ h
  · replace h := if_n h q1
    refine v_iconst (v := (1 : Int32)) K dX10_isCafe_7 (by decide) ?_
    refine v_goto K 12 dX10_isCafe_8 (by decide) ?_
    refine v_drop [] [] rfl ?_
    exact wM_isCafe_12 K RT _ _ h
theorem cM_isCafe {l : Launch} {D : va_G} {c : Nat → ClassId} {ad : Nat → Nat} {s s' : SS} {r : Int32} (h : M_isCafe s = some (r, s')) : Ci l D c yX10_isCafe cX10_isCafe 1 (some .boolean) 0 [.ref (ad 0)] (wM ad c s) r (wM ad c s') := Ci.ofZ (by decide) (Nat.le_of_ble_eq_true rfl) (fun X K RT => wM_isCafe K (r := (r, s')) RT s  h)
set_option maxHeartbeats 4000000 in
set_option maxRecDepth 100000 in
theorem wM_isCode_26 {ad : Nat → Nat} {X : Cx} {c : Nat → ClassId} (K : Ok X cX10_isCode RX10 3 0 c) {r : Int32 × SS} (RT : nb r.1 = true → ∀ pc ls, decode cX10_isCode pc = .ok (.ireturn, 1) → V X 3 0 0 pc ls [.int r.1] (wM ad c r.2)) : ∀ (y0 : Int32) (s : SS), M_isCode_26 y0 s = some r → V X 3 0 0 26 [] [.int y0] (wM ad c s) := by
  intro y0 s h
  rw [M_isCode_26] at h
  obtain ⟨b4, h⟩ := ob_e h
  obtain rfl := Option.some.inj h
  exact RT b4 _ _ dX10_isCode_26
set_option maxHeartbeats 4000000 in
set_option maxRecDepth 100000 in
theorem wM_isCode_25 {ad : Nat → Nat} {X : Cx} {c : Nat → ClassId} (K : Ok X cX10_isCode RX10 3 0 c) {r : Int32 × SS} (RT : nb r.1 = true → ∀ pc ls, decode cX10_isCode pc = .ok (.ireturn, 1) → V X 3 0 0 pc ls [.int r.1] (wM ad c r.2)) : ∀ (s : SS), M_isCode_25 s = some r → V X 3 0 0 25 [] [] (wM ad c s) := by
  intro s h
  rw [M_isCode_25] at h
  refine v_iconst (v := (0 : Int32)) K dX10_isCode_25 (by decide) ?_
  exact wM_isCode_26 K RT _ _ h
set_option maxHeartbeats 4000000 in
set_option maxRecDepth 100000 in
theorem wM_isCode {ad : Nat → Nat} {X : Cx} {c : Nat → ClassId} (K : Ok X cX10_isCode RX10 3 0 c) {r : Int32 × SS} (RT : nb r.1 = true → ∀ pc ls, decode cX10_isCode pc = .ok (.ireturn, 1) → V X 3 0 0 pc ls [.int r.1] (wM ad c r.2)) (s : SS) (x1 : Int32) (x2 : Int32) (h : M_isCode s x1 x2 = some r) : V X 3 0 0 0 [(0, .ref (ad 0)), (1, .int x1), (2, .int x2)] [] (wM ad c s) := by
  rw [M_isCode] at h
  refine v_aload_n K 0 rfl dX10_isCode_0 ?_
  refine gM_12 (v := (s 0 12)) K dX10_isCode_1 rfl ?_
  refine v_iload_n K 2 rfl dX10_isCode_4 ?_
  refine v_icmp_ge K 25 dX10_isCode_5 (by decide) (fun q1 => ?_) (fun q1 => ?_)
  · replace h := if_e h q1
    refine v_drop [] [] rfl ?_
    exact wM_isCode_25 K RT _ h
  · replace h := if_n h q1
    refine v_aload_n K 0 rfl dX10_isCode_8 ?_
    refine gM_4 K dX10_isCode_9 ?_
    refine v_aload_n K 0 rfl dX10_isCode_12 ?_
    refine gM_12 (v := (s 0 12)) K dX10_isCode_13 rfl ?_
    obtain ⟨b2, h⟩ := ob_e h
    refine lM_4 (v := (s 4 (s 0 12).toNatClampNeg)) K b2 dX10_isCode_16 rfl ?_
    refine v_iload_n K 1 rfl dX10_isCode_17 ?_
    refine v_icmp_ne K 25 dX10_isCode_18 (by decide) (fun q3 => ?_) (fun q3 => ?_)
    · replace h := if_n h q3
      refine v_drop [] [] rfl ?_
      exact wM_isCode_25 K RT _ h
    · replace h := if_e h q3
      refine v_iconst (v := (1 : Int32)) K dX10_isCode_21 (by decide) ?_
      refine v_goto K 26 dX10_isCode_22 (by decide) ?_
      refine v_drop [] [] rfl ?_
      exact wM_isCode_26 K RT _ _ h
theorem cM_isCode {l : Launch} {D : va_G} {c : Nat → ClassId} {ad : Nat → Nat} {s s' : SS} {x1 : Int32} {x2 : Int32} {r : Int32} (h : M_isCode s x1 x2 = some (r, s')) : Ci l D c yX10_isCode cX10_isCode 3 (some .boolean) 0 [.ref (ad 0), .int x1, .int x2] (wM ad c s) r (wM ad c s') := Ci.ofZ (by decide) (Nat.le_of_ble_eq_true rfl) (fun X K RT => wM_isCode K (r := (r, s')) RT s x1 x2 h)
set_option maxHeartbeats 4000000 in
set_option maxRecDepth 100000 in
theorem wM_isFree_25 {ad : Nat → Nat} {X : Cx} {c : Nat → ClassId} (K : Ok X cX10_isFree RX10 2 0 c) {r : Int32 × SS} (RT : nb r.1 = true → ∀ pc ls, decode cX10_isFree pc = .ok (.ireturn, 1) → V X 2 0 0 pc ls [.int r.1] (wM ad c r.2)) : ∀ (y0 : Int32) (s : SS), M_isFree_25 y0 s = some r → V X 2 0 0 25 [] [.int y0] (wM ad c s) := by
  intro y0 s h
  rw [M_isFree_25] at h
  obtain ⟨b5, h⟩ := ob_e h
  obtain rfl := Option.some.inj h
  exact RT b5 _ _ dX10_isFree_25
set_option maxHeartbeats 4000000 in
set_option maxRecDepth 100000 in
theorem wM_isFree_24 {ad : Nat → Nat} {X : Cx} {c : Nat → ClassId} (K : Ok X cX10_isFree RX10 2 0 c) {r : Int32 × SS} (RT : nb r.1 = true → ∀ pc ls, decode cX10_isFree pc = .ok (.ireturn, 1) → V X 2 0 0 pc ls [.int r.1] (wM ad c r.2)) : ∀ (s : SS), M_isFree_24 s = some r → V X 2 0 0 24 [] [] (wM ad c s) := by
  intro s h
  rw [M_isFree_24] at h
  refine v_iconst (v := (0 : Int32)) K dX10_isFree_24 (by decide) ?_
  exact wM_isFree_25 K RT _ _ h
set_option maxHeartbeats 4000000 in
set_option maxRecDepth 100000 in
theorem wM_isFree {ad : Nat → Nat} {X : Cx} {c : Nat → ClassId} (K : Ok X cX10_isFree RX10 2 0 c) {r : Int32 × SS} (RT : nb r.1 = true → ∀ pc ls, decode cX10_isFree pc = .ok (.ireturn, 1) → V X 2 0 0 pc ls [.int r.1] (wM ad c r.2)) (s : SS) (x1 : Int32) (h : M_isFree s x1 = some r) : V X 2 0 0 0 [(0, .ref (ad 0)), (1, .int x1)] [] (wM ad c s) := by
  rw [M_isFree] at h
  refine v_aload_n K 0 rfl dX10_isFree_0 ?_
  refine gM_30 K dX10_isFree_1 ?_
  refine v_iload_n K 1 rfl dX10_isFree_4 ?_
  obtain ⟨b1, h⟩ := ob_e h
  refine lM_30 (v := (s 30 x1.toNatClampNeg)) K b1 dX10_isFree_5 rfl ?_
  refine v_bipush (v := (-9 : Int32)) K dX10_isFree_6 (by decide) ?_
  refine v_icmp_ne K 24 dX10_isFree_8 (by decide) (fun q2 => ?_) (fun q2 => ?_)
  · replace h := if_n h q2
    refine v_drop [] [] rfl ?_
    exact wM_isFree_24 K RT _ h
  · replace h := if_e h q2
    refine v_aload_n K 0 rfl dX10_isFree_11 ?_
    refine gM_31 K dX10_isFree_12 ?_
    refine v_iload_n K 1 rfl dX10_isFree_15 ?_
    obtain ⟨b3, h⟩ := ob_e h
    refine lM_31 (v := (s 31 x1.toNatClampNeg)) K b3 dX10_isFree_16 rfl ?_
    refine v_if_ne K 24 dX10_isFree_17 (by decide) (fun q4 => ?_) (fun q4 => ?_)
    · replace h := if_n h q4
      refine v_drop [] [] rfl ?_
      exact wM_isFree_24 K RT _ h
    · replace h := if_e h q4
      refine v_iconst (v := (1 : Int32)) K dX10_isFree_20 (by decide) ?_
      refine v_goto K 25 dX10_isFree_21 (by decide) ?_
      refine v_drop [] [] rfl ?_
      exact wM_isFree_25 K RT _ _ h
theorem cM_isFree {l : Launch} {D : va_G} {c : Nat → ClassId} {ad : Nat → Nat} {s s' : SS} {x1 : Int32} {r : Int32} (h : M_isFree s x1 = some (r, s')) : Ci l D c yX10_isFree cX10_isFree 2 (some .boolean) 0 [.ref (ad 0), .int x1] (wM ad c s) r (wM ad c s') := Ci.ofZ (by decide) (Nat.le_of_ble_eq_true rfl) (fun X K RT => wM_isFree K (r := (r, s')) RT s x1 h)
set_option maxHeartbeats 4000000 in
set_option maxRecDepth 100000 in
theorem wM_isGroup_17 {ad : Nat → Nat} {X : Cx} {c : Nat → ClassId} (K : Ok X cX10_isGroup RX10 2 0 c) {r : Int32 × SS} (RT : nb r.1 = true → ∀ pc ls, decode cX10_isGroup pc = .ok (.ireturn, 1) → V X 2 0 0 pc ls [.int r.1] (wM ad c r.2)) : ∀ (y0 : Int32) (s : SS), M_isGroup_17 y0 s = some r → V X 2 0 0 17 [] [.int y0] (wM ad c s) := by
  intro y0 s h
  rw [M_isGroup_17] at h
  obtain ⟨b3, h⟩ := ob_e h
  obtain rfl := Option.some.inj h
  exact RT b3 _ _ dX10_isGroup_17
set_option maxHeartbeats 4000000 in
set_option maxRecDepth 100000 in
theorem wM_isGroup_16 {ad : Nat → Nat} {X : Cx} {c : Nat → ClassId} (K : Ok X cX10_isGroup RX10 2 0 c) {r : Int32 × SS} (RT : nb r.1 = true → ∀ pc ls, decode cX10_isGroup pc = .ok (.ireturn, 1) → V X 2 0 0 pc ls [.int r.1] (wM ad c r.2)) : ∀ (s : SS), M_isGroup_16 s = some r → V X 2 0 0 16 [] [] (wM ad c s) := by
  intro s h
  rw [M_isGroup_16] at h
  refine v_iconst (v := (0 : Int32)) K dX10_isGroup_16 (by decide) ?_
  exact wM_isGroup_17 K RT _ _ h
set_option maxHeartbeats 4000000 in
set_option maxRecDepth 100000 in
theorem wM_isGroup {ad : Nat → Nat} {X : Cx} {c : Nat → ClassId} (K : Ok X cX10_isGroup RX10 2 0 c) {r : Int32 × SS} (RT : nb r.1 = true → ∀ pc ls, decode cX10_isGroup pc = .ok (.ireturn, 1) → V X 2 0 0 pc ls [.int r.1] (wM ad c r.2)) (s : SS) (x1 : Int32) (h : M_isGroup s x1 = some r) : V X 2 0 0 0 [(0, .ref (ad 0)), (1, .int x1)] [] (wM ad c s) := by
  rw [M_isGroup] at h
  refine v_iload_n K 1 rfl dX10_isGroup_0 ?_
  refine v_if_lt K 16 dX10_isGroup_1 (by decide) (fun q1 => ?_) (fun q1 => ?_)
  · replace h := if_e h q1
    refine v_drop [] [] rfl ?_
    exact wM_isGroup_16 K RT _ h
  · replace h := if_n h q1
    refine v_iload_n K 1 rfl dX10_isGroup_4 ?_
    refine v_aload_n K 0 rfl dX10_isGroup_5 ?_
    refine gM_16 (v := (s 0 16)) K dX10_isGroup_6 rfl ?_
    refine v_icmp_ge K 16 dX10_isGroup_9 (by decide) (fun q2 => ?_) (fun q2 => ?_)
    · replace h := if_e h q2
      refine v_drop [] [] rfl ?_
      exact wM_isGroup_16 K RT _ h
    · replace h := if_n h q2
      refine v_iconst (v := (1 : Int32)) K dX10_isGroup_12 (by decide) ?_
      refine v_goto K 17 dX10_isGroup_13 (by decide) ?_
      refine v_drop [] [] rfl ?_
      exact wM_isGroup_17 K RT _ _ h
theorem cM_isGroup {l : Launch} {D : va_G} {c : Nat → ClassId} {ad : Nat → Nat} {s s' : SS} {x1 : Int32} {r : Int32} (h : M_isGroup s x1 = some (r, s')) : Ci l D c yX10_isGroup cX10_isGroup 2 (some .boolean) 0 [.ref (ad 0), .int x1] (wM ad c s) r (wM ad c s') := Ci.ofZ (by decide) (Nat.le_of_ble_eq_true rfl) (fun X K RT => wM_isGroup K (r := (r, s')) RT s x1 h)
set_option maxHeartbeats 4000000 in
set_option maxRecDepth 100000 in
theorem wM_isInSun_40 {ad : Nat → Nat} {X : Cx} {c : Nat → ClassId} (K : Ok X cX10_isInSun RX10 4 0 c) {r : Int32 × SS} (RT : nb r.1 = true → ∀ pc ls, decode cX10_isInSun pc = .ok (.ireturn, 1) → V X 4 0 0 pc ls [.int r.1] (wM ad c r.2)) {k4 : Int32 → Int32 → Int32 → SS → Option (Int32 × SS)} (hk4 : ∀ (x1 : Int32) (x2 : Int32) (x3 : Int32) (s : SS), k4 x1 x2 x3 s = some r → V X 4 0 0 4 [(0, .ref (ad 0)), (1, .int x1), (2, .int x2), (3, .int x3)] [] (wM ad c s)) : ∀ (y0 : Int32) (x1 : Int32) (x3 : Int32) (s : SS), M_isInSun_40 k4 y0 x1 x3 s = some r → V X 4 0 0 40 [(0, .ref (ad 0)), (1, .int x1), (3, .int x3)] [.int y0] (wM ad c s) := by
  intro y0 x1 x3 s h
  rw [M_isInSun_40] at h
  refine v_istore_n K [(0, .ref (ad 0)), (1, .int x1), (2, .int y0), (3, .int x3)] [1, 2, 0, 3] dX10_isInSun_40 rfl (by decide) rfl ?_
  refine v_iinc (v := (x3 + (1 : Int32))) K 3 [(0, .ref (ad 0)), (1, .int x1), (2, .int y0), (3, .int (x3 + (1 : Int32)))] [1, 2, 3, 0] dX10_isInSun_41 rfl rfl (by decide) rfl ?_
  refine v_goto K 4 dX10_isInSun_44 (by decide) ?_
  exact hk4 _ _ _ _ h
set_option maxHeartbeats 4000000 in
set_option maxRecDepth 100000 in
theorem wM_isInSun_39 {ad : Nat → Nat} {X : Cx} {c : Nat → ClassId} (K : Ok X cX10_isInSun RX10 4 0 c) {r : Int32 × SS} (RT : nb r.1 = true → ∀ pc ls, decode cX10_isInSun pc = .ok (.ireturn, 1) → V X 4 0 0 pc ls [.int r.1] (wM ad c r.2)) {k4 : Int32 → Int32 → Int32 → SS → Option (Int32 × SS)} (hk4 : ∀ (x1 : Int32) (x2 : Int32) (x3 : Int32) (s : SS), k4 x1 x2 x3 s = some r → V X 4 0 0 4 [(0, .ref (ad 0)), (1, .int x1), (2, .int x2), (3, .int x3)] [] (wM ad c s)) : ∀ (x1 : Int32) (x3 : Int32) (s : SS), M_isInSun_39 k4 x1 x3 s = some r → V X 4 0 0 39 [(0, .ref (ad 0)), (1, .int x1), (3, .int x3)] [] (wM ad c s) := by
  intro x1 x3 s h
  rw [M_isInSun_39] at h
  refine v_iconst (v := (0 : Int32)) K dX10_isInSun_39 (by decide) ?_
  exact wM_isInSun_40 K RT hk4 _ _ _ _ h
set_option maxHeartbeats 4000000 in
set_option maxRecDepth 100000 in
theorem wM_isInSun_35 {ad : Nat → Nat} {X : Cx} {c : Nat → ClassId} (K : Ok X cX10_isInSun RX10 4 0 c) {r : Int32 × SS} (RT : nb r.1 = true → ∀ pc ls, decode cX10_isInSun pc = .ok (.ireturn, 1) → V X 4 0 0 pc ls [.int r.1] (wM ad c r.2)) {k4 : Int32 → Int32 → Int32 → SS → Option (Int32 × SS)} (hk4 : ∀ (x1 : Int32) (x2 : Int32) (x3 : Int32) (s : SS), k4 x1 x2 x3 s = some r → V X 4 0 0 4 [(0, .ref (ad 0)), (1, .int x1), (2, .int x2), (3, .int x3)] [] (wM ad c s)) : ∀ (x1 : Int32) (x3 : Int32) (s : SS), M_isInSun_35 k4 x1 x3 s = some r → V X 4 0 0 35 [(0, .ref (ad 0)), (1, .int x1), (3, .int x3)] [] (wM ad c s) := by
  intro x1 x3 s h
  rw [M_isInSun_35] at h
  refine v_iconst (v := (1 : Int32)) K dX10_isInSun_35 (by decide) ?_
  refine v_goto K 40 dX10_isInSun_36 (by decide) ?_
  exact wM_isInSun_40 K RT hk4 _ _ _ _ h
set_option maxHeartbeats 4000000 in
set_option maxRecDepth 100000 in
theorem wM_isInSun_4 {ad : Nat → Nat} {X : Cx} {c : Nat → ClassId} (K : Ok X cX10_isInSun RX10 4 0 c) {r : Int32 × SS} (RT : nb r.1 = true → ∀ pc ls, decode cX10_isInSun pc = .ok (.ireturn, 1) → V X 4 0 0 pc ls [.int r.1] (wM ad c r.2)) : ∀ (n : Nat) (x1 : Int32) (x2 : Int32) (x3 : Int32) (s : SS), M_isInSun_4 n x1 x2 x3 s = some r → V X 4 0 0 4 [(0, .ref (ad 0)), (1, .int x1), (2, .int x2), (3, .int x3)] [] (wM ad c s) := by
  intro n
  induction n with
  | zero => intro _ _ _ _ h; cases h
  | succ n ih =>
    intro x1 x2 x3 s h
    rw [M_isInSun_4] at h
    refine v_iload_n K 3 rfl dX10_isInSun_4 ?_
    refine v_aload_n K 0 rfl dX10_isInSun_5 ?_
    refine gM_23 (v := (s 0 23)) K dX10_isInSun_6 rfl ?_
    refine v_icmp_ge K 47 dX10_isInSun_9 (by decide) (fun q1 => ?_) (fun q1 => ?_)
    · replace h := if_e h q1
      refine v_iload_n K 2 rfl dX10_isInSun_47 ?_
      obtain ⟨b2, h⟩ := ob_e h
      obtain rfl := Option.some.inj h
      exact RT b2 _ _ dX10_isInSun_48
    · replace h := if_n h q1
      refine v_iload_n K 2 rfl dX10_isInSun_12 ?_
      refine v_if_ne K 35 dX10_isInSun_13 (by decide) (fun q3 => ?_) (fun q3 => ?_)
      · replace h := if_n h q3
        refine v_drop [(0, .ref (ad 0)), (1, .int x1), (3, .int x3)] [0, 1, 3] rfl ?_
        exact wM_isInSun_35 K RT (fun a0 a1 a2 a3 e => ih a0 a1 a2 a3 e) _ _ _ h
      · replace h := if_e h q3
        refine v_aload_n K 0 rfl dX10_isInSun_16 ?_
        refine gM_30 K dX10_isInSun_17 ?_
        refine v_iload_n K 3 rfl dX10_isInSun_20 ?_
        obtain ⟨b4, h⟩ := ob_e h
        refine lM_30 (v := (s 30 x3.toNatClampNeg)) K b4 dX10_isInSun_21 rfl ?_
        refine v_iload_n K 1 rfl dX10_isInSun_22 ?_
        refine v_icmp_ne K 39 dX10_isInSun_23 (by decide) (fun q5 => ?_) (fun q5 => ?_)
        · replace h := if_n h q5
          refine v_drop [(0, .ref (ad 0)), (1, .int x1), (3, .int x3)] [0, 1, 3] rfl ?_
          exact wM_isInSun_39 K RT (fun a0 a1 a2 a3 e => ih a0 a1 a2 a3 e) _ _ _ h
        · replace h := if_e h q5
          refine v_aload_n K 0 rfl dX10_isInSun_26 ?_
          refine gM_24 K dX10_isInSun_27 ?_
          refine v_iload_n K 3 rfl dX10_isInSun_30 ?_
          obtain ⟨b6, h⟩ := ob_e h
          refine lM_24 (v := (s 24 x3.toNatClampNeg)) K b6 dX10_isInSun_31 rfl ?_
          refine v_if_ne K 39 dX10_isInSun_32 (by decide) (fun q7 => ?_) (fun q7 => ?_)
          · replace h := if_n h q7
            refine v_drop [(0, .ref (ad 0)), (1, .int x1), (3, .int x3)] [0, 1, 3] rfl ?_
            exact wM_isInSun_39 K RT (fun a0 a1 a2 a3 e => ih a0 a1 a2 a3 e) _ _ _ h
          · replace h := if_e h q7
            refine v_drop [(0, .ref (ad 0)), (1, .int x1), (3, .int x3)] [0, 1, 3] rfl ?_
            exact wM_isInSun_35 K RT (fun a0 a1 a2 a3 e => ih a0 a1 a2 a3 e) _ _ _ h
set_option maxHeartbeats 4000000 in
set_option maxRecDepth 100000 in
theorem wM_isInSun {ad : Nat → Nat} {X : Cx} {c : Nat → ClassId} (K : Ok X cX10_isInSun RX10 4 0 c) {r : Int32 × SS} (RT : nb r.1 = true → ∀ pc ls, decode cX10_isInSun pc = .ok (.ireturn, 1) → V X 4 0 0 pc ls [.int r.1] (wM ad c r.2)) (s : SS) (x1 : Int32) (h : M_isInSun s x1 = some r) : V X 4 0 0 0 [(0, .ref (ad 0)), (1, .int x1)] [] (wM ad c s) := by
  rw [M_isInSun] at h
  refine v_iconst (v := (0 : Int32)) K dX10_isInSun_0 (by decide) ?_
  refine v_istore_n K [(0, .ref (ad 0)), (1, .int x1), (2, .int (0 : Int32))] [1, 2, 0] dX10_isInSun_1 rfl (by decide) rfl ?_
  refine v_iconst (v := (0 : Int32)) K dX10_isInSun_2 (by decide) ?_
  refine v_istore_n K [(0, .ref (ad 0)), (1, .int x1), (2, .int (0 : Int32)), (3, .int (0 : Int32))] [1, 2, 3, 0] dX10_isInSun_3 rfl (by decide) rfl ?_
  exact wM_isInSun_4 K RT fuel _ _ _ _ h
theorem cM_isInSun {l : Launch} {D : va_G} {c : Nat → ClassId} {ad : Nat → Nat} {s s' : SS} {x1 : Int32} {r : Int32} (h : M_isInSun s x1 = some (r, s')) : Ci l D c yX10_isInSun cX10_isInSun 4 (some .boolean) 0 [.ref (ad 0), .int x1] (wM ad c s) r (wM ad c s') := Ci.ofZ (by decide) (Nat.le_of_ble_eq_true rfl) (fun X K RT => wM_isInSun K (r := (r, s')) RT s x1 h)
set_option maxHeartbeats 4000000 in
set_option maxRecDepth 100000 in
theorem wM_layMix_65 {ad : Nat → Nat} {X : Cx} {c : Nat → ClassId} (K : Ok X cX10_layMix RX10 5 0 c) {r : SS} (RT : ∀ pc ls, decode cX10_layMix pc = .ok (.return_, 1) → V X 5 0 0 pc ls [] (wM ad c r)) {k18 : Int32 → Int32 → Int32 → SS → Option SS} (hk18 : ∀ (x1 : Int32) (x2 : Int32) (x4 : Int32) (s : SS), k18 x1 x2 x4 s = some r → V X 5 0 0 18 [(0, .ref (ad 0)), (1, .int x1), (2, .int x2), (4, .int x4)] [] (wM ad c s)) : ∀ (y1 : Int32) (y2 : Int32) (x1 : Int32) (x2 : Int32) (x4 : Int32) (s : SS), M_layMix_65 k18 y1 y2 x1 x2 x4 s = some r → V X 5 0 0 65 [(0, .ref (ad 0)), (1, .int x1), (2, .int x2), (4, .int x4)] [.int y2, .int y1, .ref (ad 25)] (wM ad c s) := by
  intro y1 y2 x1 x2 x4 s h
  rw [M_layMix_65] at h
  obtain ⟨b5, h⟩ := ob_e h
  refine sM_25 K b5 dX10_layMix_65 ?_
  refine v_iinc (v := (x4 + (1 : Int32))) K 3 [(0, .ref (ad 0)), (1, .int x1), (2, .int x2), (4, .int (x4 + (1 : Int32)))] [1, 2, 3, 0] dX10_layMix_66 rfl rfl (by decide) rfl ?_
  refine v_goto K 18 dX10_layMix_69 (by decide) ?_
  exact hk18 _ _ _ _ h
set_option maxHeartbeats 4000000 in
set_option maxRecDepth 100000 in
theorem wM_layMix_18 {ad : Nat → Nat} {X : Cx} {c : Nat → ClassId} (K : Ok X cX10_layMix RX10 5 0 c) {r : SS} (RT : ∀ pc ls, decode cX10_layMix pc = .ok (.return_, 1) → V X 5 0 0 pc ls [] (wM ad c r)) : ∀ (n : Nat) (x1 : Int32) (x2 : Int32) (x4 : Int32) (s : SS), M_layMix_18 n x1 x2 x4 s = some r → V X 5 0 0 18 [(0, .ref (ad 0)), (1, .int x1), (2, .int x2), (4, .int x4)] [] (wM ad c s) := by
  intro n
  induction n with
  | zero => intro _ _ _ _ h; cases h
  | succ n ih =>
    intro x1 x2 x4 s h
    rw [M_layMix_18] at h
    refine v_iload K 3 rfl dX10_layMix_18 ?_
    refine v_aload_n K 0 rfl dX10_layMix_20 ?_
    refine gM_23 (v := (s 0 23)) K dX10_layMix_21 rfl ?_
    refine v_icmp_ge K 72 dX10_layMix_24 (by decide) (fun q1 => ?_) (fun q1 => ?_)
    · replace h := if_e h q1
      obtain rfl := Option.some.inj h
      exact RT _ _ dX10_layMix_72
    · replace h := if_n h q1
      refine v_aload_n K 0 rfl dX10_layMix_27 ?_
      refine gM_24 K dX10_layMix_28 ?_
      refine v_iload K 3 rfl dX10_layMix_31 ?_
      refine v_iconst (v := (2 : Int32)) K dX10_layMix_33 (by decide) ?_
      obtain ⟨b2, h⟩ := ob_e h
      refine sM_24 K b2 dX10_layMix_34 ?_
      refine v_aload_n K 0 rfl dX10_layMix_35 ?_
      refine gM_25 K dX10_layMix_36 ?_
      refine v_iload K 3 rfl dX10_layMix_39 ?_
      refine v_iload K 3 rfl dX10_layMix_41 ?_
      refine v_iload_n K 1 rfl dX10_layMix_43 ?_
      refine v_icmp_ge K 51 dX10_layMix_44 (by decide) (fun q3 => ?_) (fun q3 => ?_)
      · replace h := if_e h q3
        refine v_iload K 3 rfl dX10_layMix_51 ?_
        refine v_iload_n K 1 rfl dX10_layMix_53 ?_
        refine v_iload_n K 2 rfl dX10_layMix_54 ?_
        refine v_iadd K dX10_layMix_55 ?_
        refine v_icmp_ge K 63 dX10_layMix_56 (by decide) (fun q4 => ?_) (fun q4 => ?_)
        · replace h := if_e h q4
          refine v_bipush (v := (6 : Int32)) K dX10_layMix_63 (by decide) ?_
          exact wM_layMix_65 K RT (fun a0 a1 a2 a3 e => ih a0 a1 a2 a3 e) _ _ _ _ _ _ h
        · replace h := if_n h q4
          refine v_iconst (v := (4 : Int32)) K dX10_layMix_59 (by decide) ?_
          refine v_goto K 65 dX10_layMix_60 (by decide) ?_
          exact wM_layMix_65 K RT (fun a0 a1 a2 a3 e => ih a0 a1 a2 a3 e) _ _ _ _ _ _ h
      · replace h := if_n h q3
        refine v_iconst (v := (2 : Int32)) K dX10_layMix_47 (by decide) ?_
        refine v_goto K 65 dX10_layMix_48 (by decide) ?_
        exact wM_layMix_65 K RT (fun a0 a1 a2 a3 e => ih a0 a1 a2 a3 e) _ _ _ _ _ _ h
set_option maxHeartbeats 4000000 in
set_option maxRecDepth 100000 in
theorem wM_layMix {ad : Nat → Nat} {X : Cx} {c : Nat → ClassId} (K : Ok X cX10_layMix RX10 5 0 c) {r : SS} (RT : ∀ pc ls, decode cX10_layMix pc = .ok (.return_, 1) → V X 5 0 0 pc ls [] (wM ad c r)) (s : SS) (x1 : Int32) (x2 : Int32) (x3 : Int32) (h : M_layMix s x1 x2 x3 = some r) : V X 5 0 0 0 [(0, .ref (ad 0)), (1, .int x1), (2, .int x2), (3, .int x3)] [] (wM ad c s) := by
  rw [M_layMix] at h
  refine v_aload_n K 0 rfl dX10_layMix_0 ?_
  refine v_bipush (v := (-9 : Int32)) K dX10_layMix_1 (by decide) ?_
  refine pM_28 K dX10_layMix_3 ?_
  refine v_aload_n K 0 rfl dX10_layMix_6 ?_
  refine v_iload_n K 1 rfl dX10_layMix_7 ?_
  refine v_iload_n K 2 rfl dX10_layMix_8 ?_
  refine v_iadd K dX10_layMix_9 ?_
  refine v_iload_n K 3 rfl dX10_layMix_10 ?_
  refine v_iadd K dX10_layMix_11 ?_
  refine pM_23 K dX10_layMix_12 ?_
  refine v_iconst (v := (0 : Int32)) K dX10_layMix_15 (by decide) ?_
  refine v_istore K [(0, .ref (ad 0)), (1, .int x1), (2, .int x2), (4, .int (0 : Int32))] [1, 2, 3, 0] dX10_layMix_16 (by decide) rfl ?_
  exact wM_layMix_18 K RT fuel _ _ _ _ h
theorem cM_layMix {l : Launch} {D : va_G} {c : Nat → ClassId} {ad : Nat → Nat} {s s' : SS} {x1 : Int32} {x2 : Int32} {x3 : Int32} (h : M_layMix s x1 x2 x3 = some s') : Cv l D c yX10_layMix cX10_layMix 5 none 0 [.ref (ad 0), .int x1, .int x2, .int x3] (wM ad c s) (wM ad c s') := Cv.of (by decide) (Nat.le_of_ble_eq_true rfl) (fun X K RT => wM_layMix K RT s x1 x2 x3 h)
set_option maxHeartbeats 4000000 in
set_option maxRecDepth 100000 in
theorem wM_layNow_10 {ad : Nat → Nat} {X : Cx} {c : Nat → ClassId} (K : Ok X cX10_layNow RX10 2 0 c) {r : SS} (RT : ∀ pc ls, decode cX10_layNow pc = .ok (.return_, 1) → V X 2 0 0 pc ls [] (wM ad c r)) : ∀ (n : Nat) (x1 : Int32) (s : SS), M_layNow_10 n x1 s = some r → V X 2 0 0 10 [(0, .ref (ad 0)), (1, .int x1)] [] (wM ad c s) := by
  intro n
  induction n with
  | zero => intro _ _ h; cases h
  | succ n ih =>
    intro x1 s h
    rw [M_layNow_10] at h
    refine v_iload_n K 1 rfl dX10_layNow_10 ?_
    refine v_aload_n K 0 rfl dX10_layNow_11 ?_
    refine gM_5 (v := (s 0 5)) K dX10_layNow_12 rfl ?_
    refine v_icmp_ge K 48 dX10_layNow_15 (by decide) (fun q1 => ?_) (fun q1 => ?_)
    · replace h := if_e h q1
      refine v_aload_n K 0 rfl dX10_layNow_48 ?_
      refine v_aload_n K 0 rfl dX10_layNow_49 ?_
      refine gM_8 (v := (s 0 8)) K dX10_layNow_50 rfl ?_
      refine pM_26 K dX10_layNow_53 ?_
      refine v_aload_n K 0 rfl dX10_layNow_56 ?_
      refine v_aload_n K 0 rfl dX10_layNow_57 ?_
      refine gM_9 (v := (s 0 9)) K dX10_layNow_58 rfl ?_
      refine pM_27 K dX10_layNow_61 ?_
      refine v_aload_n K 0 rfl dX10_layNow_64 ?_
      refine v_aload_n K 0 rfl dX10_layNow_65 ?_
      refine gM_11 (v := (s 0 11)) K dX10_layNow_66 rfl ?_
      refine pM_28 K dX10_layNow_69 ?_
      refine v_aload_n K 0 rfl dX10_layNow_72 ?_
      refine v_bipush (v := (-9 : Int32)) K dX10_layNow_73 (by decide) ?_
      refine pM_29 K dX10_layNow_75 ?_
      obtain rfl := Option.some.inj h
      exact RT _ _ dX10_layNow_78
    · replace h := if_n h q1
      refine v_aload_n K 0 rfl dX10_layNow_18 ?_
      refine gM_24 K dX10_layNow_19 ?_
      refine v_iload_n K 1 rfl dX10_layNow_22 ?_
      refine v_aload_n K 0 rfl dX10_layNow_23 ?_
      refine gM_6 K dX10_layNow_24 ?_
      refine v_iload_n K 1 rfl dX10_layNow_27 ?_
      obtain ⟨b2, h⟩ := ob_e h
      refine lM_6 (v := (s 6 x1.toNatClampNeg)) K b2 dX10_layNow_28 rfl ?_
      obtain ⟨b3, h⟩ := ob_e h
      refine sM_24 K b3 dX10_layNow_29 ?_
      refine v_aload_n K 0 rfl dX10_layNow_30 ?_
      refine gM_25 K dX10_layNow_31 ?_
      refine v_iload_n K 1 rfl dX10_layNow_34 ?_
      refine v_aload_n K 0 rfl dX10_layNow_35 ?_
      refine gM_7 K dX10_layNow_36 ?_
      refine v_iload_n K 1 rfl dX10_layNow_39 ?_
      obtain ⟨b4, h⟩ := ob_e h
      refine lM_7 (v := (s 7 x1.toNatClampNeg)) K b4 dX10_layNow_40 rfl ?_
      obtain ⟨b5, h⟩ := ob_e h
      refine sM_25 K b5 dX10_layNow_41 ?_
      refine v_iinc (v := (x1 + (1 : Int32))) K 1 [(0, .ref (ad 0)), (1, .int (x1 + (1 : Int32)))] [1, 0] dX10_layNow_42 rfl rfl (by decide) rfl ?_
      refine v_goto K 10 dX10_layNow_45 (by decide) ?_
      exact ih _ _ h
set_option maxHeartbeats 4000000 in
set_option maxRecDepth 100000 in
theorem wM_layNow {ad : Nat → Nat} {X : Cx} {c : Nat → ClassId} (K : Ok X cX10_layNow RX10 2 0 c) {r : SS} (RT : ∀ pc ls, decode cX10_layNow pc = .ok (.return_, 1) → V X 2 0 0 pc ls [] (wM ad c r)) (s : SS) (h : M_layNow s = some r) : V X 2 0 0 0 [(0, .ref (ad 0))] [] (wM ad c s) := by
  rw [M_layNow] at h
  refine v_aload_n K 0 rfl dX10_layNow_0 ?_
  refine v_aload_n K 0 rfl dX10_layNow_1 ?_
  refine gM_5 (v := (s 0 5)) K dX10_layNow_2 rfl ?_
  refine pM_23 K dX10_layNow_5 ?_
  refine v_iconst (v := (0 : Int32)) K dX10_layNow_8 (by decide) ?_
  refine v_istore_n K [(0, .ref (ad 0)), (1, .int (0 : Int32))] [1, 0] dX10_layNow_9 rfl (by decide) rfl ?_
  exact wM_layNow_10 K RT fuel _ _ h
theorem cM_layNow {l : Launch} {D : va_G} {c : Nat → ClassId} {ad : Nat → Nat} {s s' : SS} (h : M_layNow s = some s') : Cv l D c yX10_layNow cX10_layNow 2 none 0 [.ref (ad 0)] (wM ad c s) (wM ad c s') := Cv.of (by decide) (Nat.le_of_ble_eq_true rfl) (fun X K RT => wM_layNow K RT s  h)
set_option maxHeartbeats 4000000 in
set_option maxRecDepth 100000 in
theorem wM_lost {ad : Nat → Nat} {X : Cx} {c : Nat → ClassId} (K : Ok X cX10_lost RX10 2 0 c) {r : Int64 × SS} (RT : ∀ pc ls, decode cX10_lost pc = .ok (.lreturn, 1) → V X 2 0 0 pc ls [.long r.1] (wM ad c r.2)) (s : SS) (x1 : Int32) (h : M_lost s x1 = some r) : V X 2 0 0 0 [(0, .ref (ad 0)), (1, .int x1)] [] (wM ad c s) := by
  rw [M_lost] at h
  refine v_aload_n K 0 rfl dX10_lost_0 ?_
  refine v_iload_n K 1 rfl dX10_lost_1 ?_
  refine pM_0 K dX10_lost_2 ?_
  refine v_ldc2 (v := (-9223372036854775808 : Int64)) K kM_102 dX10_lost_5 ?_
  obtain rfl := Option.some.inj h
  exact RT _ _ dX10_lost_8
theorem cM_lost {l : Launch} {D : va_G} {c : Nat → ClassId} {ad : Nat → Nat} {s s' : SS} {x1 : Int32} {r : Int64} (h : M_lost s x1 = some (r, s')) : Cl l D c yX10_lost cX10_lost 2 (some .long) 0 [.ref (ad 0), .int x1] (wM ad c s) r (wM ad c s') := Cl.of (by decide) (Nat.le_of_ble_eq_true rfl) (fun X K RT => wM_lost K (r := (r, s')) RT s x1 h)
set_option maxHeartbeats 4000000 in
set_option maxRecDepth 100000 in
theorem wM_many_104 {ad : Nat → Nat} {X : Cx} {c : Nat → ClassId} (K : Ok X cX10_many RX10 4 0 c) {r : Int32 × SS} (RT : ∀ pc ls, decode cX10_many pc = .ok (.ireturn, 1) → V X 4 0 0 pc ls [.int r.1] (wM ad c r.2)) : ∀ (y0 : Int32) (s : SS), M_many_104 y0 s = some r → V X 4 0 0 104 [] [.int y0] (wM ad c s) := by
  intro y0 s h
  rw [M_many_104] at h
  obtain rfl := Option.some.inj h
  exact RT _ _ dX10_many_104
set_option maxHeartbeats 4000000 in
set_option maxRecDepth 100000 in
theorem wM_many_4 {ad : Nat → Nat} {X : Cx} {c : Nat → ClassId} (K : Ok X cX10_many RX10 4 0 c) {r : Int32 × SS} (RT : ∀ pc ls, decode cX10_many pc = .ok (.ireturn, 1) → V X 4 0 0 pc ls [.int r.1] (wM ad c r.2)) : ∀ (n : Nat) (x1 : Int32) (x2 : Int32) (x3 : Int32) (s : SS), M_many_4 n x1 x2 x3 s = some r → V X 4 0 0 4 [(0, .ref (ad 0)), (1, .int x1), (2, .int x2), (3, .int x3)] [] (wM ad c s) := by
  intro n
  induction n with
  | zero => intro _ _ _ _ h; cases h
  | succ n ih =>
    intro x1 x2 x3 s h
    rw [M_many_4] at h
    refine v_iload_n K 3 rfl dX10_many_4 ?_
    refine v_aload_n K 0 rfl dX10_many_5 ?_
    refine gM_5 (v := (s 0 5)) K dX10_many_6 rfl ?_
    refine v_icmp_ge K 27 dX10_many_9 (by decide) (fun q1 => ?_) (fun q1 => ?_)
    · replace h := if_e h q1
      refine v_iload_n K 1 rfl dX10_many_27 ?_
      by_cases q2 : x1 = (0 : Int32)
      · replace h := if_e h q2
        refine v_tableIn (off := 44) K 72 dX10_many_28 (by rw [q2]; decide) (by rw [q2]; decide) (by rw [q2]; rfl) (by decide) ?_
        refine v_aload_n K 0 rfl dX10_many_72 ?_
        refine gM_5 (v := (s 0 5)) K dX10_many_73 rfl ?_
        obtain rfl := Option.some.inj h
        exact RT _ _ dX10_many_76
      · replace h := if_n h q2
        by_cases q3 : x1 = (1 : Int32)
        · replace h := if_e h q3
          refine v_tableIn (off := 49) K 77 dX10_many_28 (by rw [q3]; decide) (by rw [q3]; decide) (by rw [q3]; rfl) (by decide) ?_
          refine v_aload_n K 0 rfl dX10_many_77 ?_
          refine gM_16 (v := (s 0 16)) K dX10_many_78 rfl ?_
          obtain rfl := Option.some.inj h
          exact RT _ _ dX10_many_81
        · replace h := if_n h q3
          by_cases q4 : x1 = (2 : Int32)
          · replace h := if_e h q4
            refine v_tableIn (off := 54) K 82 dX10_many_28 (by rw [q4]; decide) (by rw [q4]; decide) (by rw [q4]; rfl) (by decide) ?_
            refine v_aload_n K 0 rfl dX10_many_82 ?_
            refine gM_8 (v := (s 0 8)) K dX10_many_83 rfl ?_
            obtain rfl := Option.some.inj h
            exact RT _ _ dX10_many_86
          · replace h := if_n h q4
            by_cases q5 : x1 = (3 : Int32)
            · replace h := if_e h q5
              refine v_tableIn (off := 59) K 87 dX10_many_28 (by rw [q5]; decide) (by rw [q5]; decide) (by rw [q5]; rfl) (by decide) ?_
              refine v_aload_n K 0 rfl dX10_many_87 ?_
              refine gM_9 (v := (s 0 9)) K dX10_many_88 rfl ?_
              obtain rfl := Option.some.inj h
              exact RT _ _ dX10_many_91
            · replace h := if_n h q5
              by_cases q6 : x1 = (4 : Int32)
              · replace h := if_e h q6
                refine v_tableIn (off := 64) K 92 dX10_many_28 (by rw [q6]; decide) (by rw [q6]; decide) (by rw [q6]; rfl) (by decide) ?_
                refine v_aload_n K 0 rfl dX10_many_92 ?_
                refine gM_10 (v := (s 0 10)) K dX10_many_93 rfl ?_
                refine v_if_eq K 103 dX10_many_96 (by decide) (fun q7 => ?_) (fun q7 => ?_)
                · replace h := if_e h q7
                  refine v_iconst (v := (0 : Int32)) K dX10_many_103 (by decide) ?_
                  refine v_drop [] [] rfl ?_
                  exact wM_many_104 K RT _ _ h
                · replace h := if_n h q7
                  refine v_iconst (v := (1 : Int32)) K dX10_many_99 (by decide) ?_
                  refine v_goto K 104 dX10_many_100 (by decide) ?_
                  refine v_drop [] [] rfl ?_
                  exact wM_many_104 K RT _ _ h
              · replace h := if_n h q6
                by_cases q8 : x1 = (5 : Int32)
                · replace h := if_e h q8
                  refine v_tableIn (off := 77) K 105 dX10_many_28 (by rw [q8]; decide) (by rw [q8]; decide) (by rw [q8]; rfl) (by decide) ?_
                  refine v_aload_n K 0 rfl dX10_many_105 ?_
                  refine gM_11 (v := (s 0 11)) K dX10_many_106 rfl ?_
                  obtain rfl := Option.some.inj h
                  exact RT _ _ dX10_many_109
                · replace h := if_n h q8
                  by_cases q9 : x1 = (6 : Int32)
                  · replace h := if_e h q9
                    refine v_tableIn (off := 82) K 110 dX10_many_28 (by rw [q9]; decide) (by rw [q9]; decide) (by rw [q9]; rfl) (by decide) ?_
                    refine v_iload_n K 2 rfl dX10_many_110 ?_
                    obtain rfl := Option.some.inj h
                    exact RT _ _ dX10_many_111
                  · replace h := if_n h q9
                    refine v_tableOut K 112 dX10_many_28 (by have eq2 := lv_neT q2 (show ((0 : Int32)).toInt = 0 from by decide); have eq3 := lv_neT q3 (show ((1 : Int32)).toInt = 1 from by decide); have eq4 := lv_neT q4 (show ((2 : Int32)).toInt = 2 from by decide); have eq5 := lv_neT q5 (show ((3 : Int32)).toInt = 3 from by decide); have eq6 := lv_neT q6 (show ((4 : Int32)).toInt = 4 from by decide); have eq8 := lv_neT q8 (show ((5 : Int32)).toInt = 5 from by decide); have eq9 := lv_neT q9 (show ((6 : Int32)).toInt = 6 from by decide); omega) (by decide) ?_
                    refine v_bipush (v := (-2 : Int32)) K dX10_many_112 (by decide) ?_
                    obtain rfl := Option.some.inj h
                    exact RT _ _ dX10_many_114
    · replace h := if_n h q1
      refine v_iload_n K 2 rfl dX10_many_12 ?_
      refine v_aload_n K 0 rfl dX10_many_13 ?_
      refine gM_7 K dX10_many_14 ?_
      refine v_iload_n K 3 rfl dX10_many_17 ?_
      obtain ⟨b10, h⟩ := ob_e h
      refine lM_7 (v := (s 7 x3.toNatClampNeg)) K b10 dX10_many_18 rfl ?_
      refine v_iadd K dX10_many_19 ?_
      refine v_istore_n K [(0, .ref (ad 0)), (1, .int x1), (2, .int (x2 + (s 7 x3.toNatClampNeg))), (3, .int x3)] [1, 2, 0, 3] dX10_many_20 rfl (by decide) rfl ?_
      refine v_iinc (v := (x3 + (1 : Int32))) K 3 [(0, .ref (ad 0)), (1, .int x1), (2, .int (x2 + (s 7 x3.toNatClampNeg))), (3, .int (x3 + (1 : Int32)))] [1, 2, 3, 0] dX10_many_21 rfl rfl (by decide) rfl ?_
      refine v_goto K 4 dX10_many_24 (by decide) ?_
      exact ih _ _ _ _ h
set_option maxHeartbeats 4000000 in
set_option maxRecDepth 100000 in
theorem wM_many {ad : Nat → Nat} {X : Cx} {c : Nat → ClassId} (K : Ok X cX10_many RX10 4 0 c) {r : Int32 × SS} (RT : ∀ pc ls, decode cX10_many pc = .ok (.ireturn, 1) → V X 4 0 0 pc ls [.int r.1] (wM ad c r.2)) (s : SS) (x1 : Int32) (h : M_many s x1 = some r) : V X 4 0 0 0 [(0, .ref (ad 0)), (1, .int x1)] [] (wM ad c s) := by
  rw [M_many] at h
  refine v_iconst (v := (0 : Int32)) K dX10_many_0 (by decide) ?_
  refine v_istore_n K [(0, .ref (ad 0)), (1, .int x1), (2, .int (0 : Int32))] [1, 2, 0] dX10_many_1 rfl (by decide) rfl ?_
  refine v_iconst (v := (0 : Int32)) K dX10_many_2 (by decide) ?_
  refine v_istore_n K [(0, .ref (ad 0)), (1, .int x1), (2, .int (0 : Int32)), (3, .int (0 : Int32))] [1, 2, 3, 0] dX10_many_3 rfl (by decide) rfl ?_
  exact wM_many_4 K RT fuel _ _ _ _ h
theorem cM_many {l : Launch} {D : va_G} {c : Nat → ClassId} {ad : Nat → Nat} {s s' : SS} {x1 : Int32} {r : Int32} (h : M_many s x1 = some (r, s')) : Ci l D c yX10_many cX10_many 4 (some .int) 0 [.ref (ad 0), .int x1] (wM ad c s) r (wM ad c s') := Ci.of (by decide) (Nat.le_of_ble_eq_true rfl) (fun X K RT => wM_many K (r := (r, s')) RT s x1 h)
set_option maxHeartbeats 4000000 in
set_option maxRecDepth 100000 in
theorem wM_manyTaken_29 {ad : Nat → Nat} {X : Cx} {c : Nat → ClassId} (K : Ok X cX10_manyTaken RX10 3 0 c) {r : Int32 × SS} (RT : ∀ pc ls, decode cX10_manyTaken pc = .ok (.ireturn, 1) → V X 3 0 0 pc ls [.int r.1] (wM ad c r.2)) {k4 : Int32 → Int32 → SS → Option (Int32 × SS)} (hk4 : ∀ (x1 : Int32) (x2 : Int32) (s : SS), k4 x1 x2 s = some r → V X 3 0 0 4 [(0, .ref (ad 0)), (1, .int x1), (2, .int x2)] [] (wM ad c s)) : ∀ (y0 : Int32) (y1 : Int32) (x2 : Int32) (s : SS), M_manyTaken_29 k4 y0 y1 x2 s = some r → V X 3 0 0 29 [(0, .ref (ad 0)), (2, .int x2)] [.int y1, .int y0] (wM ad c s) := by
  intro y0 y1 x2 s h
  rw [M_manyTaken_29] at h
  refine v_iadd K dX10_manyTaken_29 ?_
  refine v_istore_n K [(0, .ref (ad 0)), (1, .int (y0 + y1)), (2, .int x2)] [1, 0, 2] dX10_manyTaken_30 rfl (by decide) rfl ?_
  refine v_iinc (v := (x2 + (1 : Int32))) K 2 [(0, .ref (ad 0)), (1, .int (y0 + y1)), (2, .int (x2 + (1 : Int32)))] [1, 2, 0] dX10_manyTaken_31 rfl rfl (by decide) rfl ?_
  refine v_goto K 4 dX10_manyTaken_34 (by decide) ?_
  exact hk4 _ _ _ h
set_option maxHeartbeats 4000000 in
set_option maxRecDepth 100000 in
theorem wM_manyTaken_4 {ad : Nat → Nat} {X : Cx} {c : Nat → ClassId} (K : Ok X cX10_manyTaken RX10 3 0 c) {r : Int32 × SS} (RT : ∀ pc ls, decode cX10_manyTaken pc = .ok (.ireturn, 1) → V X 3 0 0 pc ls [.int r.1] (wM ad c r.2)) : ∀ (n : Nat) (x1 : Int32) (x2 : Int32) (s : SS), M_manyTaken_4 n x1 x2 s = some r → V X 3 0 0 4 [(0, .ref (ad 0)), (1, .int x1), (2, .int x2)] [] (wM ad c s) := by
  intro n
  induction n with
  | zero => intro _ _ _ h; cases h
  | succ n ih =>
    intro x1 x2 s h
    rw [M_manyTaken_4] at h
    refine v_iload_n K 2 rfl dX10_manyTaken_4 ?_
    refine v_aload_n K 0 rfl dX10_manyTaken_5 ?_
    refine gM_23 (v := (s 0 23)) K dX10_manyTaken_6 rfl ?_
    refine v_icmp_ge K 37 dX10_manyTaken_9 (by decide) (fun q1 => ?_) (fun q1 => ?_)
    · replace h := if_e h q1
      refine v_iload_n K 1 rfl dX10_manyTaken_37 ?_
      obtain rfl := Option.some.inj h
      exact RT _ _ dX10_manyTaken_38
    · replace h := if_n h q1
      refine v_iload_n K 1 rfl dX10_manyTaken_12 ?_
      refine v_aload_n K 0 rfl dX10_manyTaken_13 ?_
      refine gM_30 K dX10_manyTaken_14 ?_
      refine v_iload_n K 2 rfl dX10_manyTaken_17 ?_
      obtain ⟨b2, h⟩ := ob_e h
      refine lM_30 (v := (s 30 x2.toNatClampNeg)) K b2 dX10_manyTaken_18 rfl ?_
      refine v_bipush (v := (-9 : Int32)) K dX10_manyTaken_19 (by decide) ?_
      refine v_icmp_ne K 28 dX10_manyTaken_21 (by decide) (fun q3 => ?_) (fun q3 => ?_)
      · replace h := if_n h q3
        refine v_iconst (v := (1 : Int32)) K dX10_manyTaken_28 (by decide) ?_
        refine v_drop [(0, .ref (ad 0)), (2, .int x2)] [0, 2] rfl ?_
        exact wM_manyTaken_29 K RT (fun a0 a1 a2 e => ih a0 a1 a2 e) _ _ _ _ h
      · replace h := if_e h q3
        refine v_iconst (v := (0 : Int32)) K dX10_manyTaken_24 (by decide) ?_
        refine v_goto K 29 dX10_manyTaken_25 (by decide) ?_
        refine v_drop [(0, .ref (ad 0)), (2, .int x2)] [0, 2] rfl ?_
        exact wM_manyTaken_29 K RT (fun a0 a1 a2 e => ih a0 a1 a2 e) _ _ _ _ h
set_option maxHeartbeats 4000000 in
set_option maxRecDepth 100000 in
theorem wM_manyTaken {ad : Nat → Nat} {X : Cx} {c : Nat → ClassId} (K : Ok X cX10_manyTaken RX10 3 0 c) {r : Int32 × SS} (RT : ∀ pc ls, decode cX10_manyTaken pc = .ok (.ireturn, 1) → V X 3 0 0 pc ls [.int r.1] (wM ad c r.2)) (s : SS) (h : M_manyTaken s = some r) : V X 3 0 0 0 [(0, .ref (ad 0))] [] (wM ad c s) := by
  rw [M_manyTaken] at h
  refine v_iconst (v := (0 : Int32)) K dX10_manyTaken_0 (by decide) ?_
  refine v_istore_n K [(0, .ref (ad 0)), (1, .int (0 : Int32))] [1, 0] dX10_manyTaken_1 rfl (by decide) rfl ?_
  refine v_iconst (v := (0 : Int32)) K dX10_manyTaken_2 (by decide) ?_
  refine v_istore_n K [(0, .ref (ad 0)), (1, .int (0 : Int32)), (2, .int (0 : Int32))] [1, 2, 0] dX10_manyTaken_3 rfl (by decide) rfl ?_
  exact wM_manyTaken_4 K RT fuel _ _ _ h
theorem cM_manyTaken {l : Launch} {D : va_G} {c : Nat → ClassId} {ad : Nat → Nat} {s s' : SS} {r : Int32} (h : M_manyTaken s = some (r, s')) : Ci l D c yX10_manyTaken cX10_manyTaken 3 (some .int) 0 [.ref (ad 0)] (wM ad c s) r (wM ad c s') := Ci.of (by decide) (Nat.le_of_ble_eq_true rfl) (fun X K RT => wM_manyTaken K (r := (r, s')) RT s  h)
set_option maxHeartbeats 4000000 in
set_option maxRecDepth 100000 in
theorem wM_manyWait_33 {ad : Nat → Nat} {X : Cx} {c : Nat → ClassId} (K : Ok X cX10_manyWait RX10 4 0 c) {r : Int32 × SS} (RT : ∀ pc ls, decode cX10_manyWait pc = .ok (.ireturn, 1) → V X 4 0 0 pc ls [.int r.1] (wM ad c r.2)) {k4 : Int32 → Int32 → Int32 → SS → Option (Int32 × SS)} (hk4 : ∀ (x1 : Int32) (x2 : Int32) (x3 : Int32) (s : SS), k4 x1 x2 x3 s = some r → V X 4 0 0 4 [(0, .ref (ad 0)), (1, .int x1), (2, .int x2), (3, .int x3)] [] (wM ad c s)) : ∀ (y0 : Int32) (y1 : Int32) (x1 : Int32) (x3 : Int32) (s : SS), M_manyWait_33 k4 y0 y1 x1 x3 s = some r → V X 4 0 0 33 [(0, .ref (ad 0)), (1, .int x1), (3, .int x3)] [.int y1, .int y0] (wM ad c s) := by
  intro y0 y1 x1 x3 s h
  rw [M_manyWait_33] at h
  refine v_iadd K dX10_manyWait_33 ?_
  refine v_istore_n K [(0, .ref (ad 0)), (1, .int x1), (2, .int (y0 + y1)), (3, .int x3)] [1, 2, 0, 3] dX10_manyWait_34 rfl (by decide) rfl ?_
  refine v_iinc (v := (x3 + (1 : Int32))) K 3 [(0, .ref (ad 0)), (1, .int x1), (2, .int (y0 + y1)), (3, .int (x3 + (1 : Int32)))] [1, 2, 3, 0] dX10_manyWait_35 rfl rfl (by decide) rfl ?_
  refine v_goto K 4 dX10_manyWait_38 (by decide) ?_
  exact hk4 _ _ _ _ h
set_option maxHeartbeats 4000000 in
set_option maxRecDepth 100000 in
theorem wM_manyWait_32 {ad : Nat → Nat} {X : Cx} {c : Nat → ClassId} (K : Ok X cX10_manyWait RX10 4 0 c) {r : Int32 × SS} (RT : ∀ pc ls, decode cX10_manyWait pc = .ok (.ireturn, 1) → V X 4 0 0 pc ls [.int r.1] (wM ad c r.2)) {k4 : Int32 → Int32 → Int32 → SS → Option (Int32 × SS)} (hk4 : ∀ (x1 : Int32) (x2 : Int32) (x3 : Int32) (s : SS), k4 x1 x2 x3 s = some r → V X 4 0 0 4 [(0, .ref (ad 0)), (1, .int x1), (2, .int x2), (3, .int x3)] [] (wM ad c s)) : ∀ (y0 : Int32) (x1 : Int32) (x3 : Int32) (s : SS), M_manyWait_32 k4 y0 x1 x3 s = some r → V X 4 0 0 32 [(0, .ref (ad 0)), (1, .int x1), (3, .int x3)] [.int y0] (wM ad c s) := by
  intro y0 x1 x3 s h
  rw [M_manyWait_32] at h
  refine v_iconst (v := (0 : Int32)) K dX10_manyWait_32 (by decide) ?_
  exact wM_manyWait_33 K RT hk4 _ _ _ _ _ h
set_option maxHeartbeats 4000000 in
set_option maxRecDepth 100000 in
theorem wM_manyWait_4 {ad : Nat → Nat} {X : Cx} {c : Nat → ClassId} (K : Ok X cX10_manyWait RX10 4 0 c) {r : Int32 × SS} (RT : ∀ pc ls, decode cX10_manyWait pc = .ok (.ireturn, 1) → V X 4 0 0 pc ls [.int r.1] (wM ad c r.2)) : ∀ (n : Nat) (x1 : Int32) (x2 : Int32) (x3 : Int32) (s : SS), M_manyWait_4 n x1 x2 x3 s = some r → V X 4 0 0 4 [(0, .ref (ad 0)), (1, .int x1), (2, .int x2), (3, .int x3)] [] (wM ad c s) := by
  intro n
  induction n with
  | zero => intro _ _ _ _ h; cases h
  | succ n ih =>
    intro x1 x2 x3 s h
    rw [M_manyWait_4] at h
    refine v_iload_n K 3 rfl dX10_manyWait_4 ?_
    refine v_aload_n K 0 rfl dX10_manyWait_5 ?_
    refine gM_16 (v := (s 0 16)) K dX10_manyWait_6 rfl ?_
    refine v_icmp_ge K 41 dX10_manyWait_9 (by decide) (fun q1 => ?_) (fun q1 => ?_)
    · replace h := if_e h q1
      refine v_iload_n K 2 rfl dX10_manyWait_41 ?_
      obtain rfl := Option.some.inj h
      exact RT _ _ dX10_manyWait_42
    · replace h := if_n h q1
      refine v_iload_n K 2 rfl dX10_manyWait_12 ?_
      refine v_iload_n K 3 rfl dX10_manyWait_13 ?_
      refine v_iload_n K 1 rfl dX10_manyWait_14 ?_
      refine v_icmp_eq K 32 dX10_manyWait_15 (by decide) (fun q2 => ?_) (fun q2 => ?_)
      · replace h := if_e h q2
        refine v_drop [(0, .ref (ad 0)), (1, .int x1), (3, .int x3)] [0, 1, 3] rfl ?_
        exact wM_manyWait_32 K RT (fun a0 a1 a2 a3 e => ih a0 a1 a2 a3 e) _ _ _ _ h
      · replace h := if_n h q2
        refine v_aload_n K 0 rfl dX10_manyWait_18 ?_
        refine gM_32 K dX10_manyWait_19 ?_
        refine v_iload_n K 3 rfl dX10_manyWait_22 ?_
        obtain ⟨b3, h⟩ := ob_e h
        refine lM_32 (v := (s 32 x3.toNatClampNeg)) K b3 dX10_manyWait_23 rfl ?_
        refine v_iconst (v := (2 : Int32)) K dX10_manyWait_24 (by decide) ?_
        refine v_icmp_ne K 32 dX10_manyWait_25 (by decide) (fun q4 => ?_) (fun q4 => ?_)
        · replace h := if_n h q4
          refine v_drop [(0, .ref (ad 0)), (1, .int x1), (3, .int x3)] [0, 1, 3] rfl ?_
          exact wM_manyWait_32 K RT (fun a0 a1 a2 a3 e => ih a0 a1 a2 a3 e) _ _ _ _ h
        · replace h := if_e h q4
          refine v_iconst (v := (1 : Int32)) K dX10_manyWait_28 (by decide) ?_
          refine v_goto K 33 dX10_manyWait_29 (by decide) ?_
          refine v_drop [(0, .ref (ad 0)), (1, .int x1), (3, .int x3)] [0, 1, 3] rfl ?_
          exact wM_manyWait_33 K RT (fun a0 a1 a2 a3 e => ih a0 a1 a2 a3 e) _ _ _ _ _ h
set_option maxHeartbeats 4000000 in
set_option maxRecDepth 100000 in
theorem wM_manyWait {ad : Nat → Nat} {X : Cx} {c : Nat → ClassId} (K : Ok X cX10_manyWait RX10 4 0 c) {r : Int32 × SS} (RT : ∀ pc ls, decode cX10_manyWait pc = .ok (.ireturn, 1) → V X 4 0 0 pc ls [.int r.1] (wM ad c r.2)) (s : SS) (x1 : Int32) (h : M_manyWait s x1 = some r) : V X 4 0 0 0 [(0, .ref (ad 0)), (1, .int x1)] [] (wM ad c s) := by
  rw [M_manyWait] at h
  refine v_iconst (v := (0 : Int32)) K dX10_manyWait_0 (by decide) ?_
  refine v_istore_n K [(0, .ref (ad 0)), (1, .int x1), (2, .int (0 : Int32))] [1, 2, 0] dX10_manyWait_1 rfl (by decide) rfl ?_
  refine v_iconst (v := (0 : Int32)) K dX10_manyWait_2 (by decide) ?_
  refine v_istore_n K [(0, .ref (ad 0)), (1, .int x1), (2, .int (0 : Int32)), (3, .int (0 : Int32))] [1, 2, 3, 0] dX10_manyWait_3 rfl (by decide) rfl ?_
  exact wM_manyWait_4 K RT fuel _ _ _ _ h
theorem cM_manyWait {l : Launch} {D : va_G} {c : Nat → ClassId} {ad : Nat → Nat} {s s' : SS} {x1 : Int32} {r : Int32} (h : M_manyWait s x1 = some (r, s')) : Ci l D c yX10_manyWait cX10_manyWait 4 (some .int) 0 [.ref (ad 0), .int x1] (wM ad c s) r (wM ad c s') := Ci.of (by decide) (Nat.le_of_ble_eq_true rfl) (fun X K RT => wM_manyWait K (r := (r, s')) RT s x1 h)
set_option maxHeartbeats 4000000 in
set_option maxRecDepth 100000 in
theorem wM_ofTable_43 {ad : Nat → Nat} {X : Cx} {c : Nat → ClassId} (K : Ok X cX10_ofTable RX10 3 0 c) {r : Int32 × SS} (RT : ∀ pc ls, decode cX10_ofTable pc = .ok (.ireturn, 1) → V X 3 0 0 pc ls [.int r.1] (wM ad c r.2)) : ∀ (y0 : Int32) (s : SS), M_ofTable_43 y0 s = some r → V X 3 0 0 43 [] [.int y0] (wM ad c s) := by
  intro y0 s h
  rw [M_ofTable_43] at h
  obtain rfl := Option.some.inj h
  exact RT _ _ dX10_ofTable_43
set_option maxHeartbeats 4000000 in
set_option maxRecDepth 100000 in
theorem wM_ofTable_12 {ad : Nat → Nat} {X : Cx} {c : Nat → ClassId} (K : Ok X cX10_ofTable RX10 3 0 c) {r : Int32 × SS} (RT : ∀ pc ls, decode cX10_ofTable pc = .ok (.ireturn, 1) → V X 3 0 0 pc ls [.int r.1] (wM ad c r.2)) : ∀ (s : SS), M_ofTable_12 s = some r → V X 3 0 0 12 [] [] (wM ad c s) := by
  intro s h
  rw [M_ofTable_12] at h
  refine v_iconst (v := (-1 : Int32)) K dX10_ofTable_12 (by decide) ?_
  obtain rfl := Option.some.inj h
  exact RT _ _ dX10_ofTable_13
set_option maxHeartbeats 4000000 in
set_option maxRecDepth 100000 in
theorem wM_ofTable {ad : Nat → Nat} {X : Cx} {c : Nat → ClassId} (K : Ok X cX10_ofTable RX10 3 0 c) {r : Int32 × SS} (RT : ∀ pc ls, decode cX10_ofTable pc = .ok (.ireturn, 1) → V X 3 0 0 pc ls [.int r.1] (wM ad c r.2)) (s : SS) (x1 : Int32) (x2 : Int32) (h : M_ofTable s x1 x2 = some r) : V X 3 0 0 0 [(0, .ref (ad 0)), (1, .int x1), (2, .int x2)] [] (wM ad c s) := by
  rw [M_ofTable] at h
  refine v_iload_n K 1 rfl dX10_ofTable_0 ?_
  refine v_if_lt K 12 dX10_ofTable_1 (by decide) (fun q1 => ?_) (fun q1 => ?_)
  · replace h := if_e h q1
    refine v_drop [] [] rfl ?_
    exact wM_ofTable_12 K RT _ h
  · replace h := if_n h q1
    refine v_iload_n K 1 rfl dX10_ofTable_4 ?_
    refine v_aload_n K 0 rfl dX10_ofTable_5 ?_
    refine gM_5 (v := (s 0 5)) K dX10_ofTable_6 rfl ?_
    refine v_icmp_lt K 14 dX10_ofTable_9 (by decide) (fun q2 => ?_) (fun q2 => ?_)
    · replace h := if_e h q2
      refine v_iload_n K 2 rfl dX10_ofTable_14 ?_
      refine v_if_ne K 27 dX10_ofTable_15 (by decide) (fun q3 => ?_) (fun q3 => ?_)
      · replace h := if_n h q3
        refine v_iload_n K 2 rfl dX10_ofTable_27 ?_
        refine v_iconst (v := (1 : Int32)) K dX10_ofTable_28 (by decide) ?_
        refine v_icmp_ne K 41 dX10_ofTable_29 (by decide) (fun q4 => ?_) (fun q4 => ?_)
        · replace h := if_n h q4
          refine v_bipush (v := (-2 : Int32)) K dX10_ofTable_41 (by decide) ?_
          refine v_drop [] [] rfl ?_
          exact wM_ofTable_43 K RT _ _ h
        · replace h := if_e h q4
          refine v_aload_n K 0 rfl dX10_ofTable_32 ?_
          refine gM_7 K dX10_ofTable_33 ?_
          refine v_iload_n K 1 rfl dX10_ofTable_36 ?_
          obtain ⟨b5, h⟩ := ob_e h
          refine lM_7 (v := (s 7 x1.toNatClampNeg)) K b5 dX10_ofTable_37 rfl ?_
          refine v_goto K 43 dX10_ofTable_38 (by decide) ?_
          refine v_drop [] [] rfl ?_
          exact wM_ofTable_43 K RT _ _ h
      · replace h := if_e h q3
        refine v_aload_n K 0 rfl dX10_ofTable_18 ?_
        refine gM_6 K dX10_ofTable_19 ?_
        refine v_iload_n K 1 rfl dX10_ofTable_22 ?_
        obtain ⟨b6, h⟩ := ob_e h
        refine lM_6 (v := (s 6 x1.toNatClampNeg)) K b6 dX10_ofTable_23 rfl ?_
        refine v_goto K 43 dX10_ofTable_24 (by decide) ?_
        refine v_drop [] [] rfl ?_
        exact wM_ofTable_43 K RT _ _ h
    · replace h := if_n h q2
      refine v_drop [] [] rfl ?_
      exact wM_ofTable_12 K RT _ h
theorem cM_ofTable {l : Launch} {D : va_G} {c : Nat → ClassId} {ad : Nat → Nat} {s s' : SS} {x1 : Int32} {x2 : Int32} {r : Int32} (h : M_ofTable s x1 x2 = some (r, s')) : Ci l D c yX10_ofTable cX10_ofTable 3 (some .int) 0 [.ref (ad 0), .int x1, .int x2] (wM ad c s) r (wM ad c s') := Ci.of (by decide) (Nat.le_of_ble_eq_true rfl) (fun X K RT => wM_ofTable K (r := (r, s')) RT s x1 x2 h)
set_option maxHeartbeats 4000000 in
set_option maxRecDepth 100000 in
theorem wM_planned_18 {ad : Nat → Nat} {X : Cx} {c : Nat → ClassId} (K : Ok X cX10_planned RX10 1 0 c) {r : Int32 × SS} (RT : ∀ pc ls, decode cX10_planned pc = .ok (.ireturn, 1) → V X 1 0 0 pc ls [.int r.1] (wM ad c r.2)) : ∀ (y0 : Int32) (s : SS), M_planned_18 y0 s = some r → V X 1 0 0 18 [] [.int y0] (wM ad c s) := by
  intro y0 s h
  rw [M_planned_18] at h
  obtain rfl := Option.some.inj h
  exact RT _ _ dX10_planned_18
set_option maxHeartbeats 4000000 in
set_option maxRecDepth 100000 in
theorem wM_planned {ad : Nat → Nat} {X : Cx} {c : Nat → ClassId} (K : Ok X cX10_planned RX10 1 0 c) {r : Int32 × SS} (RT : ∀ pc ls, decode cX10_planned pc = .ok (.ireturn, 1) → V X 1 0 0 pc ls [.int r.1] (wM ad c r.2)) (s : SS) (h : M_planned s = some r) : V X 1 0 0 0 [(0, .ref (ad 0))] [] (wM ad c s) := by
  rw [M_planned] at h
  refine v_aload_n K 0 rfl dX10_planned_0 ?_
  refine gM_16 (v := (s 0 16)) K dX10_planned_1 rfl ?_
  refine v_bipush (v := (6 : Int32)) K dX10_planned_4 (by decide) ?_
  refine v_icmp_ge K 16 dX10_planned_6 (by decide) (fun q1 => ?_) (fun q1 => ?_)
  · replace h := if_e h q1
    refine v_bipush (v := (6 : Int32)) K dX10_planned_16 (by decide) ?_
    refine v_drop [] [] rfl ?_
    exact wM_planned_18 K RT _ _ h
  · replace h := if_n h q1
    refine v_aload_n K 0 rfl dX10_planned_9 ?_
    refine gM_16 (v := (s 0 16)) K dX10_planned_10 rfl ?_
    refine v_goto K 18 dX10_planned_13 (by decide) ?_
    refine v_drop [] [] rfl ?_
    exact wM_planned_18 K RT _ _ h
theorem cM_planned {l : Launch} {D : va_G} {c : Nat → ClassId} {ad : Nat → Nat} {s s' : SS} {r : Int32} (h : M_planned s = some (r, s')) : Ci l D c yX10_planned cX10_planned 1 (some .int) 0 [.ref (ad 0)] (wM ad c s) r (wM ad c s') := Ci.of (by decide) (Nat.le_of_ble_eq_true rfl) (fun X K RT => wM_planned K (r := (r, s')) RT s  h)
set_option maxHeartbeats 4000000 in
set_option maxRecDepth 100000 in
theorem wM_share_58 {X : Cx} {c : Nat → ClassId} (K : Ok X cX10_share RX10 11 0 c) {r : Int64} (RT : ∀ pc ls, decode cX10_share pc = .ok (.lreturn, 1) → V X 11 0 0 pc ls [.long r] []) : ∀ (y0 : Int64), M_share_58 y0 = some r → V X 11 0 0 58 [] [.long y0] [] := by
  intro y0 h
  rw [M_share_58] at h
  obtain rfl := Option.some.inj h
  exact RT _ _ dX10_share_58
set_option maxHeartbeats 4000000 in
set_option maxRecDepth 100000 in
theorem wM_share_17 {X : Cx} {c : Nat → ClassId} (K : Ok X cX10_share RX10 11 0 c) {r : Int64} (RT : ∀ pc ls, decode cX10_share pc = .ok (.lreturn, 1) → V X 11 0 0 pc ls [.long r] []) : ∀ (n : Nat) (x0 : Int64) (x2 : Int64) (x4 : Int32) (x5 : Int64) (x7 : Int64), M_share_17 n x0 x2 x4 x5 x7 = some r → V X 11 0 0 17 [(0, .long x0), (2, .long x2), (4, .int x4), (5, .long x5), (7, .long x7)] [] [] := by
  intro n
  induction n with
  | zero => intro _ _ _ _ _ h; cases h
  | succ n ih =>
    intro x0 x2 x4 x5 x7 h
    rw [M_share_17] at h
    refine v_lload K 4 rfl dX10_share_17 ?_
    refine v_lconst (v := (0 : Int64)) K dX10_share_19 (by decide) ?_
    refine v_lcmp K dX10_share_20 ?_
    refine v_if_eq K 42 dX10_share_21 (by decide) (fun q2 => ?_) (fun q2 => ?_)
    · replace h := if_e h q2
      refine v_iload K 2 rfl dX10_share_42 ?_
      refine v_if_ne K 54 dX10_share_44 (by decide) (fun q3 => ?_) (fun q3 => ?_)
      · replace h := if_n h q3
        refine v_lload_n K 1 rfl dX10_share_54 ?_
        refine v_lload K 3 rfl dX10_share_55 ?_
        obtain ⟨b4, h⟩ := ob_e h
        refine v_ldiv K dX10_share_57 b4 ?_
        refine v_drop [] [] rfl ?_
        exact wM_share_58 K RT _ h
      · replace h := if_e h q3
        refine v_lload_n K 0 rfl dX10_share_47 ?_
        refine v_lload K 3 rfl dX10_share_48 ?_
        obtain ⟨b5, h⟩ := ob_e h
        refine v_ldiv K dX10_share_50 b5 ?_
        refine v_goto K 58 dX10_share_51 (by decide) ?_
        refine v_drop [] [] rfl ?_
        exact wM_share_58 K RT _ h
    · replace h := if_n h q2
      refine v_lload K 3 rfl dX10_share_24 ?_
      refine v_lload K 4 rfl dX10_share_26 ?_
      obtain ⟨b6, h⟩ := ob_e h
      refine v_lrem K dX10_share_28 b6 ?_
      refine v_lstore K [(0, .long x0), (2, .long x2), (4, .int x4), (7, .long x7), (9, .long (x5 - x5 / x7 * x7))] [1, 2, 3, 5, 0] dX10_share_29 (by decide) rfl ?_
      refine v_lload K 3 rfl dX10_share_31 ?_
      refine v_lstore K [(0, .long x0), (2, .long x2), (4, .int x4), (5, .long x7), (9, .long (x5 - x5 / x7 * x7))] [1, 2, 3, 0, 5] dX10_share_33 (by decide) rfl ?_
      refine v_lload K 4 rfl dX10_share_35 ?_
      refine v_lstore K [(0, .long x0), (2, .long x2), (4, .int x4), (5, .long x7), (7, .long (x5 - x5 / x7 * x7))] [1, 2, 3, 4, 0] dX10_share_37 (by decide) rfl ?_
      refine v_goto K 17 dX10_share_39 (by decide) ?_
      exact ih _ _ _ _ _ h
set_option maxHeartbeats 4000000 in
set_option maxRecDepth 100000 in
theorem wM_share_12 {X : Cx} {c : Nat → ClassId} (K : Ok X cX10_share RX10 11 0 c) {r : Int64} (RT : ∀ pc ls, decode cX10_share pc = .ok (.lreturn, 1) → V X 11 0 0 pc ls [.long r] []) : ∀ (y0 : Int64) (x0 : Int64) (x2 : Int64) (x4 : Int32), M_share_12 y0 x0 x2 x4 = some r → V X 11 0 0 12 [(0, .long x0), (2, .long x2), (4, .int x4)] [.long y0] [] := by
  intro y0 x0 x2 x4 h
  rw [M_share_12] at h
  refine v_lstore K [(0, .long x0), (2, .long x2), (4, .int x4), (5, .long y0)] [1, 2, 3, 0] dX10_share_12 (by decide) rfl ?_
  refine v_lload_n K 1 rfl dX10_share_14 ?_
  refine v_lstore K [(0, .long x0), (2, .long x2), (4, .int x4), (5, .long y0), (7, .long x2)] [1, 2, 3, 4, 0] dX10_share_15 (by decide) rfl ?_
  exact wM_share_17 K RT fuel _ _ _ _ _ h
set_option maxHeartbeats 4000000 in
set_option maxRecDepth 100000 in
theorem wM_share {X : Cx} {c : Nat → ClassId} (K : Ok X cX10_share RX10 11 0 c) {r : Int64} (RT : ∀ pc ls, decode cX10_share pc = .ok (.lreturn, 1) → V X 11 0 0 pc ls [.long r] []) (x0 : Int64) (x2 : Int64) (x4 : Int32) (h : M_share x0 x2 x4 = some r) : V X 11 0 0 0 [(0, .long x0), (2, .long x2), (4, .int x4)] [] [] := by
  rw [M_share] at h
  refine v_lload_n K 0 rfl dX10_share_0 ?_
  refine v_lconst (v := (0 : Int64)) K dX10_share_1 (by decide) ?_
  refine v_lcmp K dX10_share_2 ?_
  refine v_if_ge K 11 dX10_share_3 (by decide) (fun q1 => ?_) (fun q1 => ?_)
  · replace h := if_e h q1
    refine v_lload_n K 0 rfl dX10_share_11 ?_
    exact wM_share_12 K RT _ _ _ _ h
  · replace h := if_n h q1
    refine v_lload_n K 0 rfl dX10_share_6 ?_
    refine v_lneg K dX10_share_7 ?_
    refine v_goto K 12 dX10_share_8 (by decide) ?_
    exact wM_share_12 K RT _ _ _ _ h
theorem cM_share {l : Launch} {D : va_G} {c : Nat → ClassId} {x0 : Int64} {x2 : Int64} {x4 : Int32} {r : Int64} (h : M_share x0 x2 x4 = some r) : Cl l D c yX10_share cX10_share 11 (some .long) 0 [.long x0, .long x2, .int x4] [] r [] := Cl.of (by decide) (Nat.le_of_ble_eq_true rfl) (fun X K RT => wM_share K RT x0 x2 x4 h)
set_option maxHeartbeats 4000000 in
set_option maxRecDepth 100000 in
theorem wM_stays_26 {ad : Nat → Nat} {X : Cx} {c : Nat → ClassId} (K : Ok X cX10_stays RX10 2 0 c) {r : Int32 × SS} (RT : ∀ pc ls, decode cX10_stays pc = .ok (.ireturn, 1) → V X 2 0 0 pc ls [.int r.1] (wM ad c r.2)) : ∀ (y0 : Int32) (s : SS), M_stays_26 y0 s = some r → V X 2 0 0 26 [] [.int y0] (wM ad c s) := by
  intro y0 s h
  rw [M_stays_26] at h
  obtain rfl := Option.some.inj h
  exact RT _ _ dX10_stays_26
set_option maxHeartbeats 4000000 in
set_option maxRecDepth 100000 in
theorem wM_stays {ad : Nat → Nat} {X : Cx} {c : Nat → ClassId} (K : Ok X cX10_stays RX10 2 0 c) {r : Int32 × SS} (RT : ∀ pc ls, decode cX10_stays pc = .ok (.ireturn, 1) → V X 2 0 0 pc ls [.int r.1] (wM ad c r.2)) (s : SS) (x1 : Int32) (h : M_stays s x1 = some r) : V X 2 0 0 0 [(0, .ref (ad 0)), (1, .int x1)] [] (wM ad c s) := by
  rw [M_stays] at h
  refine v_aload_n K 0 rfl dX10_stays_0 ?_
  refine gM_17 K dX10_stays_1 ?_
  refine v_iload_n K 1 rfl dX10_stays_4 ?_
  obtain ⟨b1, h⟩ := ob_e h
  refine lM_17 (v := (s 17 x1.toNatClampNeg)) K b1 dX10_stays_5 rfl ?_
  refine v_if_le K 20 dX10_stays_6 (by decide) (fun q2 => ?_) (fun q2 => ?_)
  · replace h := if_e h q2
    refine v_aload_n K 0 rfl dX10_stays_20 ?_
    refine gM_20 K dX10_stays_21 ?_
    refine v_iload_n K 1 rfl dX10_stays_24 ?_
    obtain ⟨b3, h⟩ := ob_e h
    refine lM_20 (v := (s 20 x1.toNatClampNeg)) K b3 dX10_stays_25 rfl ?_
    refine v_drop [] [] rfl ?_
    exact wM_stays_26 K RT _ _ h
  · replace h := if_n h q2
    refine v_iconst (v := (2 : Int32)) K dX10_stays_9 (by decide) ?_
    refine v_aload_n K 0 rfl dX10_stays_10 ?_
    refine gM_20 K dX10_stays_11 ?_
    refine v_iload_n K 1 rfl dX10_stays_14 ?_
    obtain ⟨b4, h⟩ := ob_e h
    refine lM_20 (v := (s 20 x1.toNatClampNeg)) K b4 dX10_stays_15 rfl ?_
    refine v_imul K dX10_stays_16 ?_
    refine v_goto K 26 dX10_stays_17 (by decide) ?_
    refine v_drop [] [] rfl ?_
    exact wM_stays_26 K RT _ _ h
theorem cM_stays {l : Launch} {D : va_G} {c : Nat → ClassId} {ad : Nat → Nat} {s s' : SS} {x1 : Int32} {r : Int32} (h : M_stays s x1 = some (r, s')) : Ci l D c yX10_stays cX10_stays 2 (some .int) 0 [.ref (ad 0), .int x1] (wM ad c s) r (wM ad c s') := Ci.of (by decide) (Nat.le_of_ble_eq_true rfl) (fun X K RT => wM_stays K (r := (r, s')) RT s x1 h)
set_option maxHeartbeats 4000000 in
set_option maxRecDepth 100000 in
theorem wM_trace {ad : Nat → Nat} {X : Cx} {c : Nat → ClassId} (K : Ok X cX10_trace RX10 1 0 c) {r : Int32 × SS} (RT : ∀ pc ls, decode cX10_trace pc = .ok (.ireturn, 1) → V X 1 0 0 pc ls [.int r.1] (wM ad c r.2)) (s : SS) (h : M_trace s = some r) : V X 1 0 0 0 [(0, .ref (ad 0))] [] (wM ad c s) := by
  rw [M_trace] at h
  refine v_aload_n K 0 rfl dX10_trace_0 ?_
  refine gM_1 (v := (s 0 1)) K dX10_trace_1 rfl ?_
  obtain rfl := Option.some.inj h
  exact RT _ _ dX10_trace_4
theorem cM_trace {l : Launch} {D : va_G} {c : Nat → ClassId} {ad : Nat → Nat} {s s' : SS} {r : Int32} (h : M_trace s = some (r, s')) : Ci l D c yX10_trace cX10_trace 1 (some .int) 0 [.ref (ad 0)] (wM ad c s) r (wM ad c s') := Ci.of (by decide) (Nat.le_of_ble_eq_true rfl) (fun X K RT => wM_trace K (r := (r, s')) RT s  h)
set_option maxHeartbeats 4000000 in
set_option maxRecDepth 100000 in
theorem wM_within_15 {X : Cx} {c : Nat → ClassId} (K : Ok X cX10_within RX10 3 0 c) {r : Int32} (RT : nb r = true → ∀ pc ls, decode cX10_within pc = .ok (.ireturn, 1) → V X 3 0 0 pc ls [.int r] []) : ∀ (y0 : Int32), M_within_15 y0 = some r → V X 3 0 0 15 [] [.int y0] [] := by
  intro y0 h
  rw [M_within_15] at h
  obtain ⟨b3, h⟩ := ob_e h
  obtain rfl := Option.some.inj h
  exact RT b3 _ _ dX10_within_15
set_option maxHeartbeats 4000000 in
set_option maxRecDepth 100000 in
theorem wM_within_14 {X : Cx} {c : Nat → ClassId} (K : Ok X cX10_within RX10 3 0 c) {r : Int32} (RT : nb r = true → ∀ pc ls, decode cX10_within pc = .ok (.ireturn, 1) → V X 3 0 0 pc ls [.int r] []) : M_within_14 = some r → V X 3 0 0 14 [] [] [] := by
  intro  h
  rw [M_within_14] at h
  refine v_iconst (v := (0 : Int32)) K dX10_within_14 (by decide) ?_
  exact wM_within_15 K RT _ h
set_option maxHeartbeats 4000000 in
set_option maxRecDepth 100000 in
theorem wM_within {X : Cx} {c : Nat → ClassId} (K : Ok X cX10_within RX10 3 0 c) {r : Int32} (RT : nb r = true → ∀ pc ls, decode cX10_within pc = .ok (.ireturn, 1) → V X 3 0 0 pc ls [.int r] []) (x0 : Int32) (x1 : Int32) (x2 : Int32) (h : M_within x0 x1 x2 = some r) : V X 3 0 0 0 [(0, .int x0), (1, .int x1), (2, .int x2)] [] [] := by
  rw [M_within] at h
  refine v_iload_n K 0 rfl dX10_within_0 ?_
  refine v_iload_n K 1 rfl dX10_within_1 ?_
  refine v_icmp_lt K 14 dX10_within_2 (by decide) (fun q1 => ?_) (fun q1 => ?_)
  · replace h := if_e h q1
    refine v_drop [] [] rfl ?_
    exact wM_within_14 K RT  h
  · replace h := if_n h q1
    refine v_iload_n K 0 rfl dX10_within_5 ?_
    refine v_iload_n K 2 rfl dX10_within_6 ?_
    refine v_icmp_gt K 14 dX10_within_7 (by decide) (fun q2 => ?_) (fun q2 => ?_)
    · replace h := if_e h q2
      refine v_drop [] [] rfl ?_
      exact wM_within_14 K RT  h
    · replace h := if_n h q2
      refine v_iconst (v := (1 : Int32)) K dX10_within_10 (by decide) ?_
      refine v_goto K 15 dX10_within_11 (by decide) ?_
      refine v_drop [] [] rfl ?_
      exact wM_within_15 K RT _ h
theorem cM_within {l : Launch} {D : va_G} {c : Nat → ClassId} {x0 : Int32} {x1 : Int32} {x2 : Int32} {r : Int32} (h : M_within x0 x1 x2 = some r) : Ci l D c yX10_within cX10_within 3 (some .boolean) 0 [.int x0, .int x1, .int x2] [] r [] := Ci.ofZ (by decide) (Nat.le_of_ble_eq_true rfl) (fun X K RT => wM_within K RT x0 x1 x2 h)
