set_option maxHeartbeats 4000000 in
set_option maxRecDepth 100000 in
theorem wM_comesIn_50 {ad : Nat → Nat} {X : Cx} {c : Nat → ClassId} (K : Ok X cX10_comesIn RX10 3 4 c) {r : SS} (RT : ∀ pc ls, decode cX10_comesIn pc = .ok (.return_, 1) → V X 3 0 0 pc ls [] (wM ad c r)) : ∀ (s : SS), M_comesIn_50 s = some r → V X 3 0 0 50 [] [] (wM ad c s) := by
  intro s h
  rw [M_comesIn_50] at h
  obtain rfl := Option.some.inj h
  exact RT _ _ dX10_comesIn_50
set_option maxHeartbeats 4000000 in
set_option maxRecDepth 100000 in
theorem wM_comesIn_49 {ad : Nat → Nat} {X : Cx} {c : Nat → ClassId} (K : Ok X cX10_comesIn RX10 3 4 c) {r : SS} (RT : ∀ pc ls, decode cX10_comesIn pc = .ok (.return_, 1) → V X 3 0 0 pc ls [] (wM ad c r)) : ∀ (y1 : Int32) (y2 : Int32) (s : SS), M_comesIn_49 y1 y2 s = some r → V X 3 0 0 49 [] [.int y2, .int y1, .ref (ad 32)] (wM ad c s) := by
  intro y1 y2 s h
  rw [M_comesIn_49] at h
  obtain ⟨b12, h⟩ := ob_e h
  refine sM_32 K b12 dX10_comesIn_49 ?_
  exact wM_comesIn_50 K RT _ h
set_option maxHeartbeats 4000000 in
set_option maxRecDepth 100000 in
theorem wM_comesIn {ad : Nat → Nat} {X : Cx} {c : Nat → ClassId} (K : Ok X cX10_comesIn RX10 3 4 c) {r : SS} (RT : ∀ pc ls, decode cX10_comesIn pc = .ok (.return_, 1) → V X 3 0 0 pc ls [] (wM ad c r)) (s : SS) (x1 : Int32) (x2 : Int32) (h : M_comesIn s x1 x2 = some r) : V X 3 0 0 0 [(0, .ref (ad 0)), (1, .int x1), (2, .int x2)] [] (wM ad c s) := by
  rw [M_comesIn] at h
  refine v_aload_n K 0 rfl dX10_comesIn_0 ?_
  obtain ⟨r3, s2, e1, h⟩ := bnd_e h
  refine vM_calli K [] [] cw_RX10_181 (cM_manyTaken e1) rfl rfl (Nat.le_of_ble_eq_true rfl) (by decide) dX10_comesIn_1 ?_
  refine v_aload_n K 0 rfl dX10_comesIn_4 ?_
  refine gM_22 K dX10_comesIn_5 ?_
  refine v_iload_n K 1 rfl dX10_comesIn_8 ?_
  obtain ⟨b4, h⟩ := ob_e h
  refine lM_22 (v := (s2 22 x1.toNatClampNeg)) K b4 dX10_comesIn_9 rfl ?_
  refine v_icmp_ge K 23 dX10_comesIn_10 (by decide) (fun q5 => ?_) (fun q5 => ?_)
  · replace h := if_e h q5
    refine v_aload_n K 0 rfl dX10_comesIn_23 ?_
    refine v_iload_n K 1 rfl dX10_comesIn_24 ?_
    refine v_iload_n K 2 rfl dX10_comesIn_25 ?_
    obtain ⟨r8, s7, e6, h⟩ := bnd_e h
    refine vM_calli K [.int x1, .int x2] [] cw_RX10_217 (cM_sitsDown e6) rfl rfl (Nat.le_of_ble_eq_true rfl) (by decide) dX10_comesIn_26 ?_
    refine v_if_ne K 50 dX10_comesIn_29 (by decide) (fun q9 => ?_) (fun q9 => ?_)
    · replace h := if_n h q9
      refine v_drop [] [] rfl ?_
      exact wM_comesIn_50 K RT _ h
    · replace h := if_e h q9
      refine v_aload_n K 0 rfl dX10_comesIn_32 ?_
      refine gM_32 K dX10_comesIn_33 ?_
      refine v_iload_n K 1 rfl dX10_comesIn_36 ?_
      refine v_aload_n K 0 rfl dX10_comesIn_37 ?_
      refine gM_27 (v := (s7 0 27)) K dX10_comesIn_38 rfl ?_
      refine v_if_le K 48 dX10_comesIn_41 (by decide) (fun q10 => ?_) (fun q10 => ?_)
      · replace h := if_e h q10
        refine v_iconst (v := (3 : Int32)) K dX10_comesIn_48 (by decide) ?_
        refine v_drop [] [] rfl ?_
        exact wM_comesIn_49 K RT _ _ _ h
      · replace h := if_n h q10
        refine v_iconst (v := (2 : Int32)) K dX10_comesIn_44 (by decide) ?_
        refine v_goto K 49 dX10_comesIn_45 (by decide) ?_
        refine v_drop [] [] rfl ?_
        exact wM_comesIn_49 K RT _ _ _ h
  · replace h := if_n h q5
    refine v_aload_n K 0 rfl dX10_comesIn_13 ?_
    refine gM_32 K dX10_comesIn_14 ?_
    refine v_iload_n K 1 rfl dX10_comesIn_17 ?_
    refine v_iconst (v := (4 : Int32)) K dX10_comesIn_18 (by decide) ?_
    obtain ⟨b11, h⟩ := ob_e h
    refine sM_32 K b11 dX10_comesIn_19 ?_
    refine v_goto K 50 dX10_comesIn_20 (by decide) ?_
    refine v_drop [] [] rfl ?_
    exact wM_comesIn_50 K RT _ h
theorem cM_comesIn {l : Launch} {D : va_G} {c : Nat → ClassId} {ad : Nat → Nat} {s s' : SS} {x1 : Int32} {x2 : Int32} (h : M_comesIn s x1 x2 = some s') : Cv l D c yX10_comesIn cX10_comesIn 3 none 4 [.ref (ad 0), .int x1, .int x2] (wM ad c s) (wM ad c s') := Cv.of (by decide) (Nat.le_of_ble_eq_true rfl) (fun X K RT => wM_comesIn K RT s x1 x2 h)
set_option maxHeartbeats 4000000 in
set_option maxRecDepth 100000 in
theorem wM_triesAgain_62 {ad : Nat → Nat} {X : Cx} {c : Nat → ClassId} (K : Ok X cX10_triesAgain RX10 3 4 c) {r : SS} (RT : ∀ pc ls, decode cX10_triesAgain pc = .ok (.return_, 1) → V X 3 0 0 pc ls [] (wM ad c r)) : ∀ (s : SS), M_triesAgain_62 s = some r → V X 3 0 0 62 [] [] (wM ad c s) := by
  intro s h
  rw [M_triesAgain_62] at h
  obtain rfl := Option.some.inj h
  exact RT _ _ dX10_triesAgain_62
set_option maxHeartbeats 4000000 in
set_option maxRecDepth 100000 in
theorem wM_triesAgain {ad : Nat → Nat} {X : Cx} {c : Nat → ClassId} (K : Ok X cX10_triesAgain RX10 3 4 c) {r : SS} (RT : ∀ pc ls, decode cX10_triesAgain pc = .ok (.return_, 1) → V X 3 0 0 pc ls [] (wM ad c r)) (s : SS) (x1 : Int32) (x2 : Int32) (h : M_triesAgain s x1 x2 = some r) : V X 3 0 0 0 [(0, .ref (ad 0)), (1, .int x1), (2, .int x2)] [] (wM ad c s) := by
  rw [M_triesAgain] at h
  refine v_aload_n K 0 rfl dX10_triesAgain_0 ?_
  refine v_iload_n K 1 rfl dX10_triesAgain_1 ?_
  refine v_iload_n K 2 rfl dX10_triesAgain_2 ?_
  obtain ⟨r3, s2, e1, h⟩ := bnd_e h
  refine vM_calli K [.int x1, .int x2] [] cw_RX10_217 (cM_sitsDown e1) rfl rfl (Nat.le_of_ble_eq_true rfl) (by decide) dX10_triesAgain_3 ?_
  refine v_if_eq K 26 dX10_triesAgain_6 (by decide) (fun q4 => ?_) (fun q4 => ?_)
  · replace h := if_e h q4
    refine v_iload_n K 2 rfl dX10_triesAgain_26 ?_
    refine v_aload_n K 0 rfl dX10_triesAgain_27 ?_
    refine gM_19 K dX10_triesAgain_28 ?_
    refine v_iload_n K 1 rfl dX10_triesAgain_31 ?_
    obtain ⟨b5, h⟩ := ob_e h
    refine lM_19 (v := (s2 19 x1.toNatClampNeg)) K b5 dX10_triesAgain_32 rfl ?_
    refine v_isub K dX10_triesAgain_33 ?_
    refine v_aload_n K 0 rfl dX10_triesAgain_34 ?_
    refine gM_27 (v := (s2 0 27)) K dX10_triesAgain_35 rfl ?_
    refine v_icmp_lt K 62 dX10_triesAgain_38 (by decide) (fun q6 => ?_) (fun q6 => ?_)
    · replace h := if_e h q6
      refine v_drop [] [] rfl ?_
      exact wM_triesAgain_62 K RT _ h
    · replace h := if_n h q6
      refine v_aload_n K 0 rfl dX10_triesAgain_41 ?_
      refine gM_32 K dX10_triesAgain_42 ?_
      refine v_iload_n K 1 rfl dX10_triesAgain_45 ?_
      refine v_iconst (v := (3 : Int32)) K dX10_triesAgain_46 (by decide) ?_
      obtain ⟨b7, h⟩ := ob_e h
      refine sM_32 K b7 dX10_triesAgain_47 ?_
      refine v_aload_n K 0 rfl dX10_triesAgain_48 ?_
      refine gM_37 K dX10_triesAgain_49 ?_
      refine v_iload_n K 1 rfl dX10_triesAgain_52 ?_
      refine v_iload_n K 2 rfl dX10_triesAgain_53 ?_
      refine v_aload_n K 0 rfl dX10_triesAgain_54 ?_
      refine gM_19 K dX10_triesAgain_55 ?_
      refine v_iload_n K 1 rfl dX10_triesAgain_58 ?_
      obtain ⟨b8, h⟩ := ob_e h
      refine lM_19 (v := (s2 19 x1.toNatClampNeg)) K b8 dX10_triesAgain_59 rfl ?_
      refine v_isub K dX10_triesAgain_60 ?_
      obtain ⟨b9, h⟩ := ob_e h
      refine sM_37 K b9 dX10_triesAgain_61 ?_
      refine v_drop [] [] rfl ?_
      exact wM_triesAgain_62 K RT _ h
  · replace h := if_n h q4
    refine v_aload_n K 0 rfl dX10_triesAgain_9 ?_
    refine gM_37 K dX10_triesAgain_10 ?_
    refine v_iload_n K 1 rfl dX10_triesAgain_13 ?_
    refine v_iload_n K 2 rfl dX10_triesAgain_14 ?_
    refine v_aload_n K 0 rfl dX10_triesAgain_15 ?_
    refine gM_19 K dX10_triesAgain_16 ?_
    refine v_iload_n K 1 rfl dX10_triesAgain_19 ?_
    obtain ⟨b10, h⟩ := ob_e h
    refine lM_19 (v := (s2 19 x1.toNatClampNeg)) K b10 dX10_triesAgain_20 rfl ?_
    refine v_isub K dX10_triesAgain_21 ?_
    obtain ⟨b11, h⟩ := ob_e h
    refine sM_37 K b11 dX10_triesAgain_22 ?_
    refine v_goto K 62 dX10_triesAgain_23 (by decide) ?_
    refine v_drop [] [] rfl ?_
    exact wM_triesAgain_62 K RT _ h
theorem cM_triesAgain {l : Launch} {D : va_G} {c : Nat → ClassId} {ad : Nat → Nat} {s s' : SS} {x1 : Int32} {x2 : Int32} (h : M_triesAgain s x1 x2 = some s') : Cv l D c yX10_triesAgain cX10_triesAgain 3 none 4 [.ref (ad 0), .int x1, .int x2] (wM ad c s) (wM ad c s') := Cv.of (by decide) (Nat.le_of_ble_eq_true rfl) (fun X K RT => wM_triesAgain K RT s x1 x2 h)
set_option maxHeartbeats 4000000 in
set_option maxRecDepth 100000 in
theorem wM_tryWaiting_61 {ad : Nat → Nat} {X : Cx} {c : Nat → ClassId} (K : Ok X cX10_tryWaiting RX10 4 5 c) {r : SS} (RT : ∀ pc ls, decode cX10_tryWaiting pc = .ok (.return_, 1) → V X 4 0 0 pc ls [] (wM ad c r)) : ∀ (s : SS), M_tryWaiting_61 s = some r → V X 4 0 0 61 [] [] (wM ad c s) := by
  intro s h
  rw [M_tryWaiting_61] at h
  obtain rfl := Option.some.inj h
  exact RT _ _ dX10_tryWaiting_61
set_option maxHeartbeats 4000000 in
set_option maxRecDepth 100000 in
theorem wM_tryWaiting_49 {ad : Nat → Nat} {X : Cx} {c : Nat → ClassId} (K : Ok X cX10_tryWaiting RX10 4 5 c) {r : SS} (RT : ∀ pc ls, decode cX10_tryWaiting pc = .ok (.return_, 1) → V X 4 0 0 pc ls [] (wM ad c r)) {k2 : Int32 → Int32 → SS → Option SS} {k15 : Int32 → Int32 → Int32 → SS → Option SS} (hk2 : ∀ (x1 : Int32) (x2 : Int32) (s : SS), k2 x1 x2 s = some r → V X 4 0 0 2 [(0, .ref (ad 0)), (1, .int x1), (2, .int x2)] [] (wM ad c s)) (hk15 : ∀ (x1 : Int32) (x2 : Int32) (x3 : Int32) (s : SS), k15 x1 x2 x3 s = some r → V X 4 0 0 15 [(0, .ref (ad 0)), (1, .int x1), (2, .int x2), (3, .int x3)] [] (wM ad c s)) : ∀ (x1 : Int32) (x2 : Int32) (x3 : Int32) (s : SS), M_tryWaiting_49 k2 k15 x1 x2 x3 s = some r → V X 4 0 0 49 [(0, .ref (ad 0)), (1, .int x1), (2, .int x2), (3, .int x3)] [] (wM ad c s) := by
  intro x1 x2 x3 s h
  rw [M_tryWaiting_49] at h
  refine v_iinc (v := (x3 + (1 : Int32))) K 3 [(0, .ref (ad 0)), (1, .int x1), (2, .int x2), (3, .int (x3 + (1 : Int32)))] [1, 2, 3, 0] dX10_tryWaiting_49 rfl rfl (by decide) rfl ?_
  refine v_goto K 15 dX10_tryWaiting_52 (by decide) ?_
  exact hk15 _ _ _ _ h
set_option maxHeartbeats 4000000 in
set_option maxRecDepth 100000 in
theorem wM_tryWaiting_15 {ad : Nat → Nat} {X : Cx} {c : Nat → ClassId} (K : Ok X cX10_tryWaiting RX10 4 5 c) {r : SS} (RT : ∀ pc ls, decode cX10_tryWaiting pc = .ok (.return_, 1) → V X 4 0 0 pc ls [] (wM ad c r)) {k2 : Int32 → Int32 → SS → Option SS} (hk2 : ∀ (x1 : Int32) (x2 : Int32) (s : SS), k2 x1 x2 s = some r → V X 4 0 0 2 [(0, .ref (ad 0)), (1, .int x1), (2, .int x2)] [] (wM ad c s)) : ∀ (n : Nat) (x1 : Int32) (x2 : Int32) (x3 : Int32) (s : SS), M_tryWaiting_15 k2 n x1 x2 x3 s = some r → V X 4 0 0 15 [(0, .ref (ad 0)), (1, .int x1), (2, .int x2), (3, .int x3)] [] (wM ad c s) := by
  intro n
  induction n with
  | zero => intro _ _ _ _ h; cases h
  | succ n ih =>
    intro x1 x2 x3 s h
    rw [M_tryWaiting_15] at h
    refine v_iload_n K 3 rfl dX10_tryWaiting_15 ?_
    refine v_aload_n K 0 rfl dX10_tryWaiting_16 ?_
    refine gM_16 (v := (s 0 16)) K dX10_tryWaiting_17 rfl ?_
    refine v_icmp_ge K 55 dX10_tryWaiting_20 (by decide) (fun q3 => ?_) (fun q3 => ?_)
    · replace h := if_e h q3
      refine v_iinc (v := (x2 + (1 : Int32))) K 2 [(0, .ref (ad 0)), (1, .int x1), (2, .int (x2 + (1 : Int32))), (3, .int x3)] [1, 2, 0, 3] dX10_tryWaiting_55 rfl rfl (by decide) rfl ?_
      refine v_goto K 2 dX10_tryWaiting_58 (by decide) ?_
      refine v_drop [(0, .ref (ad 0)), (1, .int x1), (2, .int (x2 + (1 : Int32)))] [0, 1, 2] rfl ?_
      exact hk2 _ _ _ h
    · replace h := if_n h q3
      refine v_aload_n K 0 rfl dX10_tryWaiting_23 ?_
      refine gM_32 K dX10_tryWaiting_24 ?_
      refine v_iload_n K 3 rfl dX10_tryWaiting_27 ?_
      obtain ⟨b4, h⟩ := ob_e h
      refine lM_32 (v := (s 32 x3.toNatClampNeg)) K b4 dX10_tryWaiting_28 rfl ?_
      refine v_iconst (v := (2 : Int32)) K dX10_tryWaiting_29 (by decide) ?_
      refine v_icmp_ne K 49 dX10_tryWaiting_30 (by decide) (fun q5 => ?_) (fun q5 => ?_)
      · replace h := if_n h q5
        exact wM_tryWaiting_49 K RT hk2 (fun a0 a1 a2 a3 e => ih a0 a1 a2 a3 e) _ _ _ _ h
      · replace h := if_e h q5
        refine v_aload_n K 0 rfl dX10_tryWaiting_33 ?_
        refine gM_19 K dX10_tryWaiting_34 ?_
        refine v_iload_n K 3 rfl dX10_tryWaiting_37 ?_
        obtain ⟨b6, h⟩ := ob_e h
        refine lM_19 (v := (s 19 x3.toNatClampNeg)) K b6 dX10_tryWaiting_38 rfl ?_
        refine v_iload_n K 2 rfl dX10_tryWaiting_39 ?_
        refine v_icmp_ne K 49 dX10_tryWaiting_40 (by decide) (fun q7 => ?_) (fun q7 => ?_)
        · replace h := if_n h q7
          exact wM_tryWaiting_49 K RT hk2 (fun a0 a1 a2 a3 e => ih a0 a1 a2 a3 e) _ _ _ _ h
        · replace h := if_e h q7
          refine v_aload_n K 0 rfl dX10_tryWaiting_43 ?_
          refine v_iload_n K 3 rfl dX10_tryWaiting_44 ?_
          refine v_iload_n K 1 rfl dX10_tryWaiting_45 ?_
          obtain ⟨s9, e8, h⟩ := bnd0_e h
          refine vM_callv K [.int x3, .int x1] [] cw_RX10_214 (cM_triesAgain e8) rfl rfl (Nat.le_of_ble_eq_true rfl) (by decide) dX10_tryWaiting_46 ?_
          exact wM_tryWaiting_49 K RT hk2 (fun a0 a1 a2 a3 e => ih a0 a1 a2 a3 e) _ _ _ _ h
set_option maxHeartbeats 4000000 in
set_option maxRecDepth 100000 in
theorem wM_tryWaiting_2 {ad : Nat → Nat} {X : Cx} {c : Nat → ClassId} (K : Ok X cX10_tryWaiting RX10 4 5 c) {r : SS} (RT : ∀ pc ls, decode cX10_tryWaiting pc = .ok (.return_, 1) → V X 4 0 0 pc ls [] (wM ad c r)) : ∀ (n : Nat) (x1 : Int32) (x2 : Int32) (s : SS), M_tryWaiting_2 n x1 x2 s = some r → V X 4 0 0 2 [(0, .ref (ad 0)), (1, .int x1), (2, .int x2)] [] (wM ad c s) := by
  intro n
  induction n with
  | zero => intro _ _ _ h; cases h
  | succ n ih =>
    intro x1 x2 s h
    rw [M_tryWaiting_2] at h
    refine v_iload_n K 2 rfl dX10_tryWaiting_2 ?_
    refine v_iload_n K 1 rfl dX10_tryWaiting_3 ?_
    refine v_icmp_gt K 61 dX10_tryWaiting_4 (by decide) (fun q1 => ?_) (fun q1 => ?_)
    · replace h := if_e h q1
      refine v_drop [] [] rfl ?_
      exact wM_tryWaiting_61 K RT _ h
    · replace h := if_n h q1
      refine v_iload_n K 2 rfl dX10_tryWaiting_7 ?_
      refine v_bipush (v := (100 : Int32)) K dX10_tryWaiting_8 (by decide) ?_
      refine v_icmp_ge K 61 dX10_tryWaiting_10 (by decide) (fun q2 => ?_) (fun q2 => ?_)
      · replace h := if_e h q2
        refine v_drop [] [] rfl ?_
        exact wM_tryWaiting_61 K RT _ h
      · replace h := if_n h q2
        refine v_iconst (v := (0 : Int32)) K dX10_tryWaiting_13 (by decide) ?_
        refine v_istore_n K [(0, .ref (ad 0)), (1, .int x1), (2, .int x2), (3, .int (0 : Int32))] [1, 2, 3, 0] dX10_tryWaiting_14 rfl (by decide) rfl ?_
        exact wM_tryWaiting_15 K RT (fun a0 a1 a2 e => ih a0 a1 a2 e) fuel _ _ _ _ h
set_option maxHeartbeats 4000000 in
set_option maxRecDepth 100000 in
theorem wM_tryWaiting {ad : Nat → Nat} {X : Cx} {c : Nat → ClassId} (K : Ok X cX10_tryWaiting RX10 4 5 c) {r : SS} (RT : ∀ pc ls, decode cX10_tryWaiting pc = .ok (.return_, 1) → V X 4 0 0 pc ls [] (wM ad c r)) (s : SS) (x1 : Int32) (h : M_tryWaiting s x1 = some r) : V X 4 0 0 0 [(0, .ref (ad 0)), (1, .int x1)] [] (wM ad c s) := by
  rw [M_tryWaiting] at h
  refine v_iconst (v := (0 : Int32)) K dX10_tryWaiting_0 (by decide) ?_
  refine v_istore_n K [(0, .ref (ad 0)), (1, .int x1), (2, .int (0 : Int32))] [1, 2, 0] dX10_tryWaiting_1 rfl (by decide) rfl ?_
  exact wM_tryWaiting_2 K RT fuel _ _ _ h
theorem cM_tryWaiting {l : Launch} {D : va_G} {c : Nat → ClassId} {ad : Nat → Nat} {s s' : SS} {x1 : Int32} (h : M_tryWaiting s x1 = some s') : Cv l D c yX10_tryWaiting cX10_tryWaiting 4 none 5 [.ref (ad 0), .int x1] (wM ad c s) (wM ad c s') := Cv.of (by decide) (Nat.le_of_ble_eq_true rfl) (fun X K RT => wM_tryWaiting K RT s x1 h)
set_option maxHeartbeats 4000000 in
set_option maxRecDepth 100000 in
theorem wM_goMinute_99 {ad : Nat → Nat} {X : Cx} {c : Nat → ClassId} (K : Ok X cX10_goMinute RX10 3 6 c) {r : SS} (RT : ∀ pc ls, decode cX10_goMinute pc = .ok (.return_, 1) → V X 3 0 0 pc ls [] (wM ad c r)) {k67 : Int32 → Int32 → SS → Option SS} (hk67 : ∀ (x1 : Int32) (x2 : Int32) (s : SS), k67 x1 x2 s = some r → V X 3 0 0 67 [(0, .ref (ad 0)), (1, .int x1), (2, .int x2)] [] (wM ad c s)) : ∀ (x1 : Int32) (x2 : Int32) (s : SS), M_goMinute_99 k67 x1 x2 s = some r → V X 3 0 0 99 [(0, .ref (ad 0)), (1, .int x1), (2, .int x2)] [] (wM ad c s) := by
  intro x1 x2 s h
  rw [M_goMinute_99] at h
  refine v_iinc (v := (x2 + (1 : Int32))) K 2 [(0, .ref (ad 0)), (1, .int x1), (2, .int (x2 + (1 : Int32)))] [1, 2, 0] dX10_goMinute_99 rfl rfl (by decide) rfl ?_
  refine v_goto K 67 dX10_goMinute_102 (by decide) ?_
  exact hk67 _ _ _ h
set_option maxHeartbeats 4000000 in
set_option maxRecDepth 100000 in
theorem wM_goMinute_67 {ad : Nat → Nat} {X : Cx} {c : Nat → ClassId} (K : Ok X cX10_goMinute RX10 3 6 c) {r : SS} (RT : ∀ pc ls, decode cX10_goMinute pc = .ok (.return_, 1) → V X 3 0 0 pc ls [] (wM ad c r)) : ∀ (n : Nat) (x1 : Int32) (x2 : Int32) (s : SS), M_goMinute_67 n x1 x2 s = some r → V X 3 0 0 67 [(0, .ref (ad 0)), (1, .int x1), (2, .int x2)] [] (wM ad c s) := by
  intro n
  induction n with
  | zero => intro _ _ _ h; cases h
  | succ n ih =>
    intro x1 x2 s h
    rw [M_goMinute_67] at h
    refine v_iload_n K 2 rfl dX10_goMinute_67 ?_
    refine v_aload_n K 0 rfl dX10_goMinute_68 ?_
    refine gM_16 (v := (s 0 16)) K dX10_goMinute_69 rfl ?_
    refine v_icmp_ge K 105 dX10_goMinute_72 (by decide) (fun q15 => ?_) (fun q15 => ?_)
    · replace h := if_e h q15
      obtain rfl := Option.some.inj h
      exact RT _ _ dX10_goMinute_105
    · replace h := if_n h q15
      refine v_aload_n K 0 rfl dX10_goMinute_75 ?_
      refine gM_19 K dX10_goMinute_76 ?_
      refine v_iload_n K 2 rfl dX10_goMinute_79 ?_
      obtain ⟨b16, h⟩ := ob_e h
      refine lM_19 (v := (s 19 x2.toNatClampNeg)) K b16 dX10_goMinute_80 rfl ?_
      refine v_iload_n K 1 rfl dX10_goMinute_81 ?_
      refine v_icmp_ne K 99 dX10_goMinute_82 (by decide) (fun q17 => ?_) (fun q17 => ?_)
      · replace h := if_n h q17
        exact wM_goMinute_99 K RT (fun a0 a1 a2 e => ih a0 a1 a2 e) _ _ _ h
      · replace h := if_e h q17
        refine v_iload_n K 2 rfl dX10_goMinute_85 ?_
        refine v_aload_n K 0 rfl dX10_goMinute_86 ?_
        refine gM_29 (v := (s 0 29)) K dX10_goMinute_87 rfl ?_
        refine v_icmp_eq K 99 dX10_goMinute_90 (by decide) (fun q18 => ?_) (fun q18 => ?_)
        · replace h := if_e h q18
          exact wM_goMinute_99 K RT (fun a0 a1 a2 e => ih a0 a1 a2 e) _ _ _ h
        · replace h := if_n h q18
          refine v_aload_n K 0 rfl dX10_goMinute_93 ?_
          refine v_iload_n K 2 rfl dX10_goMinute_94 ?_
          refine v_iload_n K 1 rfl dX10_goMinute_95 ?_
          obtain ⟨s20, e19, h⟩ := bnd0_e h
          refine vM_callv K [.int x2, .int x1] [] cw_RX10_201 (cM_comesIn e19) rfl rfl (Nat.le_of_ble_eq_true rfl) (by decide) dX10_goMinute_96 ?_
          exact wM_goMinute_99 K RT (fun a0 a1 a2 e => ih a0 a1 a2 e) _ _ _ h
set_option maxHeartbeats 4000000 in
set_option maxRecDepth 100000 in
theorem wM_goMinute_60 {ad : Nat → Nat} {X : Cx} {c : Nat → ClassId} (K : Ok X cX10_goMinute RX10 3 6 c) {r : SS} (RT : ∀ pc ls, decode cX10_goMinute pc = .ok (.return_, 1) → V X 3 0 0 pc ls [] (wM ad c r)) : ∀ (x1 : Int32) (s : SS), M_goMinute_60 x1 s = some r → V X 3 0 0 60 [(0, .ref (ad 0)), (1, .int x1)] [] (wM ad c s) := by
  intro x1 s h
  rw [M_goMinute_60] at h
  refine v_aload_n K 0 rfl dX10_goMinute_60 ?_
  refine v_iload_n K 1 rfl dX10_goMinute_61 ?_
  obtain ⟨s14, e13, h⟩ := bnd0_e h
  refine vM_callv K [.int x1] [] cw_RX10_198 (cM_tryWaiting e13) rfl rfl (Nat.le_of_ble_eq_true rfl) (by decide) dX10_goMinute_62 ?_
  refine v_iconst (v := (0 : Int32)) K dX10_goMinute_65 (by decide) ?_
  refine v_istore_n K [(0, .ref (ad 0)), (1, .int x1), (2, .int (0 : Int32))] [1, 2, 0] dX10_goMinute_66 rfl (by decide) rfl ?_
  exact wM_goMinute_67 K RT fuel _ _ _ h
set_option maxHeartbeats 4000000 in
set_option maxRecDepth 100000 in
theorem wM_goMinute_41 {ad : Nat → Nat} {X : Cx} {c : Nat → ClassId} (K : Ok X cX10_goMinute RX10 3 6 c) {r : SS} (RT : ∀ pc ls, decode cX10_goMinute pc = .ok (.return_, 1) → V X 3 0 0 pc ls [] (wM ad c r)) {k2 : Int32 → Int32 → SS → Option SS} (hk2 : ∀ (x1 : Int32) (x2 : Int32) (s : SS), k2 x1 x2 s = some r → V X 3 0 0 2 [(0, .ref (ad 0)), (1, .int x1), (2, .int x2)] [] (wM ad c s)) : ∀ (x1 : Int32) (x2 : Int32) (s : SS), M_goMinute_41 k2 x1 x2 s = some r → V X 3 0 0 41 [(0, .ref (ad 0)), (1, .int x1), (2, .int x2)] [] (wM ad c s) := by
  intro x1 x2 s h
  rw [M_goMinute_41] at h
  refine v_iinc (v := (x2 + (1 : Int32))) K 2 [(0, .ref (ad 0)), (1, .int x1), (2, .int (x2 + (1 : Int32)))] [1, 2, 0] dX10_goMinute_41 rfl rfl (by decide) rfl ?_
  refine v_goto K 2 dX10_goMinute_44 (by decide) ?_
  exact hk2 _ _ _ h
set_option maxHeartbeats 4000000 in
set_option maxRecDepth 100000 in
theorem wM_goMinute_2 {ad : Nat → Nat} {X : Cx} {c : Nat → ClassId} (K : Ok X cX10_goMinute RX10 3 6 c) {r : SS} (RT : ∀ pc ls, decode cX10_goMinute pc = .ok (.return_, 1) → V X 3 0 0 pc ls [] (wM ad c r)) : ∀ (n : Nat) (x1 : Int32) (x2 : Int32) (s : SS), M_goMinute_2 n x1 x2 s = some r → V X 3 0 0 2 [(0, .ref (ad 0)), (1, .int x1), (2, .int x2)] [] (wM ad c s) := by
  intro n
  induction n with
  | zero => intro _ _ _ h; cases h
  | succ n ih =>
    intro x1 x2 s h
    rw [M_goMinute_2] at h
    refine v_iload_n K 2 rfl dX10_goMinute_2 ?_
    refine v_aload_n K 0 rfl dX10_goMinute_3 ?_
    refine gM_16 (v := (s 0 16)) K dX10_goMinute_4 rfl ?_
    refine v_icmp_ge K 47 dX10_goMinute_7 (by decide) (fun q1 => ?_) (fun q1 => ?_)
    · replace h := if_e h q1
      refine v_iload_n K 1 rfl dX10_goMinute_47 ?_
      refine v_aload_n K 0 rfl dX10_goMinute_48 ?_
      refine gM_28 (v := (s 0 28)) K dX10_goMinute_49 rfl ?_
      refine v_icmp_ne K 60 dX10_goMinute_52 (by decide) (fun q2 => ?_) (fun q2 => ?_)
      · replace h := if_n h q2
        refine v_drop [(0, .ref (ad 0)), (1, .int x1)] [0, 1] rfl ?_
        exact wM_goMinute_60 K RT _ _ h
      · replace h := if_e h q2
        refine v_aload_n K 0 rfl dX10_goMinute_55 ?_
        refine v_iload_n K 1 rfl dX10_goMinute_56 ?_
        obtain ⟨s4, e3, h⟩ := bnd0_e h
        refine vM_callv K [.int x1] [] cw_RX10_195 (cM_rainsOn e3) rfl rfl (Nat.le_of_ble_eq_true rfl) (by decide) dX10_goMinute_57 ?_
        refine v_drop [(0, .ref (ad 0)), (1, .int x1)] [0, 1] rfl ?_
        exact wM_goMinute_60 K RT _ _ h
    · replace h := if_n h q1
      refine v_aload_n K 0 rfl dX10_goMinute_10 ?_
      refine gM_32 K dX10_goMinute_11 ?_
      refine v_iload_n K 2 rfl dX10_goMinute_14 ?_
      obtain ⟨b5, h⟩ := ob_e h
      refine lM_32 (v := (s 32 x2.toNatClampNeg)) K b5 dX10_goMinute_15 rfl ?_
      refine v_iconst (v := (1 : Int32)) K dX10_goMinute_16 (by decide) ?_
      refine v_icmp_ne K 41 dX10_goMinute_17 (by decide) (fun q6 => ?_) (fun q6 => ?_)
      · replace h := if_n h q6
        exact wM_goMinute_41 K RT (fun a0 a1 a2 e => ih a0 a1 a2 e) _ _ _ h
      · replace h := if_e h q6
        refine v_aload_n K 0 rfl dX10_goMinute_20 ?_
        refine gM_35 K dX10_goMinute_21 ?_
        refine v_iload_n K 2 rfl dX10_goMinute_24 ?_
        obtain ⟨b7, h⟩ := ob_e h
        refine lM_35 (v := (s 35 x2.toNatClampNeg)) K b7 dX10_goMinute_25 rfl ?_
        refine v_iload_n K 1 rfl dX10_goMinute_26 ?_
        refine v_icmp_gt K 41 dX10_goMinute_27 (by decide) (fun q8 => ?_) (fun q8 => ?_)
        · replace h := if_e h q8
          exact wM_goMinute_41 K RT (fun a0 a1 a2 e => ih a0 a1 a2 e) _ _ _ h
        · replace h := if_n h q8
          refine v_aload_n K 0 rfl dX10_goMinute_30 ?_
          refine v_iload_n K 2 rfl dX10_goMinute_31 ?_
          obtain ⟨s10, e9, h⟩ := bnd0_e h
          refine vM_callv K [.int x2] [] cw_RX10_188 (cM_getsUp e9) rfl rfl (Nat.le_of_ble_eq_true rfl) (by decide) dX10_goMinute_32 ?_
          refine v_aload_n K 0 rfl dX10_goMinute_35 ?_
          refine v_iload_n K 2 rfl dX10_goMinute_36 ?_
          refine v_iload_n K 1 rfl dX10_goMinute_37 ?_
          obtain ⟨s12, e11, h⟩ := bnd0_e h
          refine vM_callv K [.int x2, .int x1] [] cw_RX10_191 (cM_goes e11) rfl rfl (Nat.le_of_ble_eq_true rfl) (by decide) dX10_goMinute_38 ?_
          exact wM_goMinute_41 K RT (fun a0 a1 a2 e => ih a0 a1 a2 e) _ _ _ h
set_option maxHeartbeats 4000000 in
set_option maxRecDepth 100000 in
theorem wM_goMinute {ad : Nat → Nat} {X : Cx} {c : Nat → ClassId} (K : Ok X cX10_goMinute RX10 3 6 c) {r : SS} (RT : ∀ pc ls, decode cX10_goMinute pc = .ok (.return_, 1) → V X 3 0 0 pc ls [] (wM ad c r)) (s : SS) (x1 : Int32) (h : M_goMinute s x1 = some r) : V X 3 0 0 0 [(0, .ref (ad 0)), (1, .int x1)] [] (wM ad c s) := by
  rw [M_goMinute] at h
  refine v_iconst (v := (0 : Int32)) K dX10_goMinute_0 (by decide) ?_
  refine v_istore_n K [(0, .ref (ad 0)), (1, .int x1), (2, .int (0 : Int32))] [1, 2, 0] dX10_goMinute_1 rfl (by decide) rfl ?_
  exact wM_goMinute_2 K RT fuel _ _ _ h
theorem cM_goMinute {l : Launch} {D : va_G} {c : Nat → ClassId} {ad : Nat → Nat} {s s' : SS} {x1 : Int32} (h : M_goMinute s x1 = some s') : Cv l D c yX10_goMinute cX10_goMinute 3 none 6 [.ref (ad 0), .int x1] (wM ad c s) (wM ad c s') := Cv.of (by decide) (Nat.le_of_ble_eq_true rfl) (fun X K RT => wM_goMinute K RT s x1 h)
set_option maxHeartbeats 4000000 in
set_option maxRecDepth 100000 in
theorem wM_goDay_90 {ad : Nat → Nat} {X : Cx} {c : Nat → ClassId} (K : Ok X cX10_goDay RX10 2 7 c) {r : SS} (RT : ∀ pc ls, decode cX10_goDay pc = .ok (.return_, 1) → V X 2 0 0 pc ls [] (wM ad c r)) : ∀ (n : Nat) (x1 : Int32) (s : SS), M_goDay_90 n x1 s = some r → V X 2 0 0 90 [(0, .ref (ad 0)), (1, .int x1)] [] (wM ad c s) := by
  intro n
  induction n with
  | zero => intro _ _ h; cases h
  | succ n ih =>
    intro x1 s h
    rw [M_goDay_90] at h
    refine v_iload_n K 1 rfl dX10_goDay_90 ?_
    refine v_sipush (v := (400 : Int32)) K dX10_goDay_91 (by decide) ?_
    refine v_icmp_ge K 130 dX10_goDay_94 (by decide) (fun q11 => ?_) (fun q11 => ?_)
    · replace h := if_e h q11
      obtain rfl := Option.some.inj h
      exact RT _ _ dX10_goDay_130
    · replace h := if_n h q11
      refine v_aload_n K 0 rfl dX10_goDay_97 ?_
      refine v_iload_n K 1 rfl dX10_goDay_98 ?_
      obtain ⟨s13, e12, h⟩ := bnd0_e h
      refine vM_callv K [.int x1] [] cw_RX10_177 (cM_goMinute e12) rfl rfl (Nat.le_of_ble_eq_true rfl) (by decide) dX10_goDay_99 ?_
      refine v_aload_n K 0 rfl dX10_goDay_102 ?_
      refine gM_38 K dX10_goDay_103 ?_
      refine v_iload_n K 1 rfl dX10_goDay_106 ?_
      refine v_aload_n K 0 rfl dX10_goDay_107 ?_
      obtain ⟨r16, s15, e14, h⟩ := bnd_e h
      refine vM_calli K [] [.int x1, .ref (ad 38)] cw_RX10_181 (cM_manyTaken e14) rfl rfl (Nat.le_of_ble_eq_true rfl) (by decide) dX10_goDay_108 ?_
      obtain ⟨b17, h⟩ := ob_e h
      refine sM_38 K b17 dX10_goDay_111 ?_
      refine v_aload_n K 0 rfl dX10_goDay_112 ?_
      refine gM_39 K dX10_goDay_113 ?_
      refine v_iload_n K 1 rfl dX10_goDay_116 ?_
      refine v_aload_n K 0 rfl dX10_goDay_117 ?_
      refine v_bipush (v := (-9 : Int32)) K dX10_goDay_118 (by decide) ?_
      obtain ⟨r20, s19, e18, h⟩ := bnd_e h
      refine vM_calli K [.int (-9 : Int32)] [.int x1, .ref (ad 39)] cw_RX10_185 (cM_manyWait e18) rfl rfl (Nat.le_of_ble_eq_true rfl) (by decide) dX10_goDay_120 ?_
      obtain ⟨b21, h⟩ := ob_e h
      refine sM_39 K b21 dX10_goDay_123 ?_
      refine v_iinc (v := (x1 + (1 : Int32))) K 1 [(0, .ref (ad 0)), (1, .int (x1 + (1 : Int32)))] [1, 0] dX10_goDay_124 rfl rfl (by decide) rfl ?_
      refine v_goto K 90 dX10_goDay_127 (by decide) ?_
      exact ih _ _ h
set_option maxHeartbeats 4000000 in
set_option maxRecDepth 100000 in
theorem wM_goDay_31 {ad : Nat → Nat} {X : Cx} {c : Nat → ClassId} (K : Ok X cX10_goDay RX10 2 7 c) {r : SS} (RT : ∀ pc ls, decode cX10_goDay pc = .ok (.return_, 1) → V X 2 0 0 pc ls [] (wM ad c r)) : ∀ (n : Nat) (x1 : Int32) (s : SS), M_goDay_31 n x1 s = some r → V X 2 0 0 31 [(0, .ref (ad 0)), (1, .int x1)] [] (wM ad c s) := by
  intro n
  induction n with
  | zero => intro _ _ h; cases h
  | succ n ih =>
    intro x1 s h
    rw [M_goDay_31] at h
    refine v_iload_n K 1 rfl dX10_goDay_31 ?_
    refine v_bipush (v := (8 : Int32)) K dX10_goDay_32 (by decide) ?_
    refine v_icmp_ge K 88 dX10_goDay_34 (by decide) (fun q4 => ?_) (fun q4 => ?_)
    · replace h := if_e h q4
      refine v_iconst (v := (0 : Int32)) K dX10_goDay_88 (by decide) ?_
      refine v_istore_n K [(0, .ref (ad 0)), (1, .int (0 : Int32))] [1, 0] dX10_goDay_89 rfl (by decide) rfl ?_
      exact wM_goDay_90 K RT fuel _ _ h
    · replace h := if_n h q4
      refine v_aload_n K 0 rfl dX10_goDay_37 ?_
      refine gM_32 K dX10_goDay_38 ?_
      refine v_iload_n K 1 rfl dX10_goDay_41 ?_
      refine v_iconst (v := (0 : Int32)) K dX10_goDay_42 (by decide) ?_
      obtain ⟨b5, h⟩ := ob_e h
      refine sM_32 K b5 dX10_goDay_43 ?_
      refine v_aload_n K 0 rfl dX10_goDay_44 ?_
      refine gM_33 K dX10_goDay_45 ?_
      refine v_iload_n K 1 rfl dX10_goDay_48 ?_
      refine v_bipush (v := (-9 : Int32)) K dX10_goDay_49 (by decide) ?_
      obtain ⟨b6, h⟩ := ob_e h
      refine sM_33 K b6 dX10_goDay_51 ?_
      refine v_aload_n K 0 rfl dX10_goDay_52 ?_
      refine gM_34 K dX10_goDay_53 ?_
      refine v_iload_n K 1 rfl dX10_goDay_56 ?_
      refine v_bipush (v := (-9 : Int32)) K dX10_goDay_57 (by decide) ?_
      obtain ⟨b7, h⟩ := ob_e h
      refine sM_34 K b7 dX10_goDay_59 ?_
      refine v_aload_n K 0 rfl dX10_goDay_60 ?_
      refine gM_35 K dX10_goDay_61 ?_
      refine v_iload_n K 1 rfl dX10_goDay_64 ?_
      refine v_bipush (v := (-9 : Int32)) K dX10_goDay_65 (by decide) ?_
      obtain ⟨b8, h⟩ := ob_e h
      refine sM_35 K b8 dX10_goDay_67 ?_
      refine v_aload_n K 0 rfl dX10_goDay_68 ?_
      refine gM_36 K dX10_goDay_69 ?_
      refine v_iload_n K 1 rfl dX10_goDay_72 ?_
      refine v_iconst (v := (0 : Int32)) K dX10_goDay_73 (by decide) ?_
      obtain ⟨b9, h⟩ := ob_e h
      refine sM_36 K b9 dX10_goDay_74 ?_
      refine v_aload_n K 0 rfl dX10_goDay_75 ?_
      refine gM_37 K dX10_goDay_76 ?_
      refine v_iload_n K 1 rfl dX10_goDay_79 ?_
      refine v_iconst (v := (0 : Int32)) K dX10_goDay_80 (by decide) ?_
      obtain ⟨b10, h⟩ := ob_e h
      refine sM_37 K b10 dX10_goDay_81 ?_
      refine v_iinc (v := (x1 + (1 : Int32))) K 1 [(0, .ref (ad 0)), (1, .int (x1 + (1 : Int32)))] [1, 0] dX10_goDay_82 rfl rfl (by decide) rfl ?_
      refine v_goto K 31 dX10_goDay_85 (by decide) ?_
      exact ih _ _ h
set_option maxHeartbeats 4000000 in
set_option maxRecDepth 100000 in
theorem wM_goDay_2 {ad : Nat → Nat} {X : Cx} {c : Nat → ClassId} (K : Ok X cX10_goDay RX10 2 7 c) {r : SS} (RT : ∀ pc ls, decode cX10_goDay pc = .ok (.return_, 1) → V X 2 0 0 pc ls [] (wM ad c r)) : ∀ (n : Nat) (x1 : Int32) (s : SS), M_goDay_2 n x1 s = some r → V X 2 0 0 2 [(0, .ref (ad 0)), (1, .int x1)] [] (wM ad c s) := by
  intro n
  induction n with
  | zero => intro _ _ h; cases h
  | succ n ih =>
    intro x1 s h
    rw [M_goDay_2] at h
    refine v_iload_n K 1 rfl dX10_goDay_2 ?_
    refine v_bipush (v := (6 : Int32)) K dX10_goDay_3 (by decide) ?_
    refine v_icmp_ge K 29 dX10_goDay_5 (by decide) (fun q1 => ?_) (fun q1 => ?_)
    · replace h := if_e h q1
      refine v_iconst (v := (0 : Int32)) K dX10_goDay_29 (by decide) ?_
      refine v_istore_n K [(0, .ref (ad 0)), (1, .int (0 : Int32))] [1, 0] dX10_goDay_30 rfl (by decide) rfl ?_
      exact wM_goDay_31 K RT fuel _ _ h
    · replace h := if_n h q1
      refine v_aload_n K 0 rfl dX10_goDay_8 ?_
      refine gM_30 K dX10_goDay_9 ?_
      refine v_iload_n K 1 rfl dX10_goDay_12 ?_
      refine v_bipush (v := (-9 : Int32)) K dX10_goDay_13 (by decide) ?_
      obtain ⟨b2, h⟩ := ob_e h
      refine sM_30 K b2 dX10_goDay_15 ?_
      refine v_aload_n K 0 rfl dX10_goDay_16 ?_
      refine gM_31 K dX10_goDay_17 ?_
      refine v_iload_n K 1 rfl dX10_goDay_20 ?_
      refine v_iconst (v := (0 : Int32)) K dX10_goDay_21 (by decide) ?_
      obtain ⟨b3, h⟩ := ob_e h
      refine sM_31 K b3 dX10_goDay_22 ?_
      refine v_iinc (v := (x1 + (1 : Int32))) K 1 [(0, .ref (ad 0)), (1, .int (x1 + (1 : Int32)))] [1, 0] dX10_goDay_23 rfl rfl (by decide) rfl ?_
      refine v_goto K 2 dX10_goDay_26 (by decide) ?_
      exact ih _ _ h
set_option maxHeartbeats 4000000 in
set_option maxRecDepth 100000 in
theorem wM_goDay {ad : Nat → Nat} {X : Cx} {c : Nat → ClassId} (K : Ok X cX10_goDay RX10 2 7 c) {r : SS} (RT : ∀ pc ls, decode cX10_goDay pc = .ok (.return_, 1) → V X 2 0 0 pc ls [] (wM ad c r)) (s : SS) (h : M_goDay s = some r) : V X 2 0 0 0 [(0, .ref (ad 0))] [] (wM ad c s) := by
  rw [M_goDay] at h
  refine v_iconst (v := (0 : Int32)) K dX10_goDay_0 (by decide) ?_
  refine v_istore_n K [(0, .ref (ad 0)), (1, .int (0 : Int32))] [1, 0] dX10_goDay_1 rfl (by decide) rfl ?_
  exact wM_goDay_2 K RT fuel _ _ h
theorem cM_goDay {l : Launch} {D : va_G} {c : Nat → ClassId} {ad : Nat → Nat} {s s' : SS} (h : M_goDay s = some s') : Cv l D c yX10_goDay cX10_goDay 2 none 7 [.ref (ad 0)] (wM ad c s) (wM ad c s') := Cv.of (by decide) (Nat.le_of_ble_eq_true rfl) (fun X K RT => wM_goDay K RT s  h)
set_option maxHeartbeats 4000000 in
set_option maxRecDepth 100000 in
theorem wM_coinBy {ad : Nat → Nat} {X : Cx} {c : Nat → ClassId} (K : Ok X cX10_coinBy RX10 3 8 c) {r : Int32 × SS} (RT : ∀ pc ls, decode cX10_coinBy pc = .ok (.ireturn, 1) → V X 3 0 0 pc ls [.int r.1] (wM ad c r.2)) (s : SS) (x1 : Int32) (x2 : Int32) (h : M_coinBy s x1 x2 = some r) : V X 3 0 0 0 [(0, .ref (ad 0)), (1, .int x1), (2, .int x2)] [] (wM ad c s) := by
  rw [M_coinBy] at h
  refine v_aload_n K 0 rfl dX10_coinBy_0 ?_
  obtain ⟨s2, e1, h⟩ := bnd0_e h
  refine vM_callv K [] [] cw_RX10_233 (cM_layNow e1) rfl rfl (Nat.le_of_ble_eq_true rfl) (by decide) dX10_coinBy_1 ?_
  refine v_aload_n K 0 rfl dX10_coinBy_4 ?_
  refine v_iload_n K 1 rfl dX10_coinBy_5 ?_
  refine pM_26 K dX10_coinBy_6 ?_
  refine v_aload_n K 0 rfl dX10_coinBy_9 ?_
  refine v_iload_n K 2 rfl dX10_coinBy_10 ?_
  refine pM_27 K dX10_coinBy_11 ?_
  refine v_aload_n K 0 rfl dX10_coinBy_14 ?_
  obtain ⟨s4, e3, h⟩ := bnd0_e h
  refine vM_callv K [] [] cw_RX10_236 (cM_goDay e3) rfl rfl (Nat.le_of_ble_eq_true rfl) (by decide) dX10_coinBy_15 ?_
  refine v_aload_n K 0 rfl dX10_coinBy_18 ?_
  obtain ⟨r7, s6, e5, h⟩ := bnd_e h
  refine vM_calli K [] [] cw_RX10_239 (cM_allCoin e5) rfl rfl (Nat.le_of_ble_eq_true rfl) (by decide) dX10_coinBy_19 ?_
  obtain rfl := Option.some.inj h
  exact RT _ _ dX10_coinBy_22
theorem cM_coinBy {l : Launch} {D : va_G} {c : Nat → ClassId} {ad : Nat → Nat} {s s' : SS} {x1 : Int32} {x2 : Int32} {r : Int32} (h : M_coinBy s x1 x2 = some (r, s')) : Ci l D c yX10_coinBy cX10_coinBy 3 (some .int) 8 [.ref (ad 0), .int x1, .int x2] (wM ad c s) r (wM ad c s') := Ci.of (by decide) (Nat.le_of_ble_eq_true rfl) (fun X K RT => wM_coinBy K (r := (r, s')) RT s x1 x2 h)
set_option maxHeartbeats 4000000 in
set_option maxRecDepth 100000 in
theorem wM_coinNow {ad : Nat → Nat} {X : Cx} {c : Nat → ClassId} (K : Ok X cX10_coinNow RX10 1 8 c) {r : Int32 × SS} (RT : ∀ pc ls, decode cX10_coinNow pc = .ok (.ireturn, 1) → V X 1 0 0 pc ls [.int r.1] (wM ad c r.2)) (s : SS) (h : M_coinNow s = some r) : V X 1 0 0 0 [(0, .ref (ad 0))] [] (wM ad c s) := by
  rw [M_coinNow] at h
  refine v_aload_n K 0 rfl dX10_coinNow_0 ?_
  obtain ⟨s2, e1, h⟩ := bnd0_e h
  refine vM_callv K [] [] cw_RX10_233 (cM_layNow e1) rfl rfl (Nat.le_of_ble_eq_true rfl) (by decide) dX10_coinNow_1 ?_
  refine v_aload_n K 0 rfl dX10_coinNow_4 ?_
  obtain ⟨s4, e3, h⟩ := bnd0_e h
  refine vM_callv K [] [] cw_RX10_236 (cM_goDay e3) rfl rfl (Nat.le_of_ble_eq_true rfl) (by decide) dX10_coinNow_5 ?_
  refine v_aload_n K 0 rfl dX10_coinNow_8 ?_
  obtain ⟨r7, s6, e5, h⟩ := bnd_e h
  refine vM_calli K [] [] cw_RX10_239 (cM_allCoin e5) rfl rfl (Nat.le_of_ble_eq_true rfl) (by decide) dX10_coinNow_9 ?_
  obtain rfl := Option.some.inj h
  exact RT _ _ dX10_coinNow_12
theorem cM_coinNow {l : Launch} {D : va_G} {c : Nat → ClassId} {ad : Nat → Nat} {s s' : SS} {r : Int32} (h : M_coinNow s = some (r, s')) : Ci l D c yX10_coinNow cX10_coinNow 1 (some .int) 8 [.ref (ad 0)] (wM ad c s) r (wM ad c s') := Ci.of (by decide) (Nat.le_of_ble_eq_true rfl) (fun X K RT => wM_coinNow K (r := (r, s')) RT s  h)
set_option maxHeartbeats 4000000 in
set_option maxRecDepth 100000 in
theorem wM_mix_187 {ad : Nat → Nat} {X : Cx} {c : Nat → ClassId} (K : Ok X cX10_mix RX10 9 8 c) {r : Int32 × SS} (RT : ∀ pc ls, decode cX10_mix pc = .ok (.ireturn, 1) → V X 9 0 0 pc ls [.int r.1] (wM ad c r.2)) : ∀ (y0 : Int32) (s : SS), M_mix_187 y0 s = some r → V X 9 0 0 187 [] [.int y0] (wM ad c s) := by
  intro y0 s h
  rw [M_mix_187] at h
  obtain rfl := Option.some.inj h
  exact RT _ _ dX10_mix_187
set_option maxHeartbeats 4000000 in
set_option maxRecDepth 100000 in
theorem wM_mix_139 {ad : Nat → Nat} {X : Cx} {c : Nat → ClassId} (K : Ok X cX10_mix RX10 9 8 c) {r : Int32 × SS} (RT : ∀ pc ls, decode cX10_mix pc = .ok (.ireturn, 1) → V X 9 0 0 pc ls [.int r.1] (wM ad c r.2)) {k40 : Int32 → Int32 → Int32 → Int32 → Int32 → SS → Option (Int32 × SS)} (hk40 : ∀ (x1 : Int32) (x2 : Int32) (x3 : Int32) (x4 : Int32) (x5 : Int32) (s : SS), k40 x1 x2 x3 x4 x5 s = some r → V X 9 0 0 40 [(0, .ref (ad 0)), (1, .int x1), (2, .int x2), (3, .int x3), (4, .int x4), (5, .int x5)] [] (wM ad c s)) : ∀ (x1 : Int32) (x2 : Int32) (x3 : Int32) (x4 : Int32) (x5 : Int32) (s : SS), M_mix_139 k40 x1 x2 x3 x4 x5 s = some r → V X 9 0 0 139 [(0, .ref (ad 0)), (1, .int x1), (2, .int x2), (3, .int x3), (4, .int x4), (5, .int x5)] [] (wM ad c s) := by
  intro x1 x2 x3 x4 x5 s h
  rw [M_mix_139] at h
  refine v_iinc (v := (x5 + (1 : Int32))) K 5 [(0, .ref (ad 0)), (1, .int x1), (2, .int x2), (3, .int x3), (4, .int x4), (5, .int (x5 + (1 : Int32)))] [1, 2, 3, 4, 5, 0] dX10_mix_139 rfl rfl (by decide) rfl ?_
  refine v_goto K 40 dX10_mix_142 (by decide) ?_
  exact hk40 _ _ _ _ _ _ h
set_option maxHeartbeats 4000000 in
set_option maxRecDepth 100000 in
theorem wM_mix_40 {ad : Nat → Nat} {X : Cx} {c : Nat → ClassId} (K : Ok X cX10_mix RX10 9 8 c) {r : Int32 × SS} (RT : ∀ pc ls, decode cX10_mix pc = .ok (.ireturn, 1) → V X 9 0 0 pc ls [.int r.1] (wM ad c r.2)) : ∀ (n : Nat) (x1 : Int32) (x2 : Int32) (x3 : Int32) (x4 : Int32) (x5 : Int32) (s : SS), M_mix_40 n x1 x2 x3 x4 x5 s = some r → V X 9 0 0 40 [(0, .ref (ad 0)), (1, .int x1), (2, .int x2), (3, .int x3), (4, .int x4), (5, .int x5)] [] (wM ad c s) := by
  intro n
  induction n with
  | zero => intro _ _ _ _ _ _ h; cases h
  | succ n ih =>
    intro x1 x2 x3 x4 x5 s h
    rw [M_mix_40] at h
    refine v_iload K 5 rfl dX10_mix_40 ?_
    refine v_sipush (v := (343 : Int32)) K dX10_mix_42 (by decide) ?_
    refine v_icmp_ge K 145 dX10_mix_45 (by decide) (fun q11 => ?_) (fun q11 => ?_)
    · replace h := if_e h q11
      refine v_iload_n K 2 rfl dX10_mix_145 ?_
      refine v_if_ne K 153 dX10_mix_146 (by decide) (fun q12 => ?_) (fun q12 => ?_)
      · replace h := if_n h q12
        refine v_iload_n K 2 rfl dX10_mix_153 ?_
        refine v_iconst (v := (1 : Int32)) K dX10_mix_154 (by decide) ?_
        refine v_icmp_ne K 166 dX10_mix_155 (by decide) (fun q13 => ?_) (fun q13 => ?_)
        · replace h := if_n h q13
          refine v_iload_n K 2 rfl dX10_mix_166 ?_
          refine v_iconst (v := (2 : Int32)) K dX10_mix_167 (by decide) ?_
          refine v_icmp_ne K 182 dX10_mix_168 (by decide) (fun q14 => ?_) (fun q14 => ?_)
          · replace h := if_n h q14
            refine v_iload K 4 rfl dX10_mix_182 ?_
            refine v_bipush (v := (7 : Int32)) K dX10_mix_184 (by decide) ?_
            obtain ⟨b15, h⟩ := ob_e h
            refine v_irem K dX10_mix_186 b15 ?_
            refine v_drop [] [] rfl ?_
            exact wM_mix_187 K RT _ _ h
          · replace h := if_e h q14
            refine v_iload K 4 rfl dX10_mix_171 ?_
            refine v_bipush (v := (7 : Int32)) K dX10_mix_173 (by decide) ?_
            obtain ⟨b16, h⟩ := ob_e h
            refine v_idiv K dX10_mix_175 b16 ?_
            refine v_bipush (v := (7 : Int32)) K dX10_mix_176 (by decide) ?_
            obtain ⟨b17, h⟩ := ob_e h
            refine v_irem K dX10_mix_178 b17 ?_
            refine v_goto K 187 dX10_mix_179 (by decide) ?_
            refine v_drop [] [] rfl ?_
            exact wM_mix_187 K RT _ _ h
        · replace h := if_e h q13
          refine v_iload K 4 rfl dX10_mix_158 ?_
          refine v_bipush (v := (49 : Int32)) K dX10_mix_160 (by decide) ?_
          obtain ⟨b18, h⟩ := ob_e h
          refine v_idiv K dX10_mix_162 b18 ?_
          refine v_goto K 187 dX10_mix_163 (by decide) ?_
          refine v_drop [] [] rfl ?_
          exact wM_mix_187 K RT _ _ h
      · replace h := if_e h q12
        refine v_iload_n K 3 rfl dX10_mix_149 ?_
        refine v_goto K 187 dX10_mix_150 (by decide) ?_
        refine v_drop [] [] rfl ?_
        exact wM_mix_187 K RT _ _ h
    · replace h := if_n h q11
      refine v_iload K 5 rfl dX10_mix_48 ?_
      refine v_bipush (v := (49 : Int32)) K dX10_mix_50 (by decide) ?_
      obtain ⟨b19, h⟩ := ob_e h
      refine v_idiv K dX10_mix_52 b19 ?_
      refine v_istore K [(0, .ref (ad 0)), (1, .int x1), (2, .int x2), (3, .int x3), (4, .int x4), (5, .int x5), (6, .int (x5 / (49 : Int32)))] [1, 2, 3, 4, 5, 6, 0] dX10_mix_53 (by decide) rfl ?_
      refine v_iload K 5 rfl dX10_mix_55 ?_
      refine v_bipush (v := (7 : Int32)) K dX10_mix_57 (by decide) ?_
      obtain ⟨b20, h⟩ := ob_e h
      refine v_idiv K dX10_mix_59 b20 ?_
      refine v_bipush (v := (7 : Int32)) K dX10_mix_60 (by decide) ?_
      obtain ⟨b21, h⟩ := ob_e h
      refine v_irem K dX10_mix_62 b21 ?_
      refine v_istore K [(0, .ref (ad 0)), (1, .int x1), (2, .int x2), (3, .int x3), (4, .int x4), (5, .int x5), (6, .int (x5 / (49 : Int32))), (7, .int ((x5 / (7 : Int32)) - (x5 / (7 : Int32)) / (7 : Int32) * (7 : Int32)))] [1, 2, 3, 4, 5, 6, 7, 0] dX10_mix_63 (by decide) rfl ?_
      refine v_iload K 5 rfl dX10_mix_65 ?_
      refine v_bipush (v := (7 : Int32)) K dX10_mix_67 (by decide) ?_
      obtain ⟨b22, h⟩ := ob_e h
      refine v_irem K dX10_mix_69 b22 ?_
      refine v_istore K [(0, .ref (ad 0)), (1, .int x1), (2, .int x2), (3, .int x3), (4, .int x4), (5, .int x5), (6, .int (x5 / (49 : Int32))), (7, .int ((x5 / (7 : Int32)) - (x5 / (7 : Int32)) / (7 : Int32) * (7 : Int32))), (8, .int (x5 - x5 / (7 : Int32) * (7 : Int32)))] [1, 2, 3, 4, 5, 6, 7, 8, 0] dX10_mix_70 (by decide) rfl ?_
      refine v_iload K 6 rfl dX10_mix_72 ?_
      refine v_iload K 7 rfl dX10_mix_74 ?_
      refine v_iadd K dX10_mix_76 ?_
      refine v_iload K 8 rfl dX10_mix_77 ?_
      refine v_iadd K dX10_mix_79 ?_
      refine v_bipush (v := (6 : Int32)) K dX10_mix_80 (by decide) ?_
      refine v_icmp_gt K 139 dX10_mix_82 (by decide) (fun q23 => ?_) (fun q23 => ?_)
      · replace h := if_e h q23
        refine v_drop [(0, .ref (ad 0)), (1, .int x1), (2, .int x2), (3, .int x3), (4, .int x4), (5, .int x5)] [0, 1, 2, 3, 4, 5] rfl ?_
        exact wM_mix_139 K RT (fun a0 a1 a2 a3 a4 a5 e => ih a0 a1 a2 a3 a4 a5 e) _ _ _ _ _ _ h
      · replace h := if_n h q23
        refine v_iconst (v := (2 : Int32)) K dX10_mix_85 (by decide) ?_
        refine v_iload K 6 rfl dX10_mix_86 ?_
        refine v_imul K dX10_mix_88 ?_
        refine v_iconst (v := (4 : Int32)) K dX10_mix_89 (by decide) ?_
        refine v_iload K 7 rfl dX10_mix_90 ?_
        refine v_imul K dX10_mix_92 ?_
        refine v_iadd K dX10_mix_93 ?_
        refine v_bipush (v := (6 : Int32)) K dX10_mix_94 (by decide) ?_
        refine v_iload K 8 rfl dX10_mix_96 ?_
        refine v_imul K dX10_mix_98 ?_
        refine v_iadd K dX10_mix_99 ?_
        refine v_iload_n K 1 rfl dX10_mix_100 ?_
        refine v_icmp_gt K 139 dX10_mix_101 (by decide) (fun q24 => ?_) (fun q24 => ?_)
        · replace h := if_e h q24
          refine v_drop [(0, .ref (ad 0)), (1, .int x1), (2, .int x2), (3, .int x3), (4, .int x4), (5, .int x5)] [0, 1, 2, 3, 4, 5] rfl ?_
          exact wM_mix_139 K RT (fun a0 a1 a2 a3 a4 a5 e => ih a0 a1 a2 a3 a4 a5 e) _ _ _ _ _ _ h
        · replace h := if_n h q24
          refine v_aload_n K 0 rfl dX10_mix_104 ?_
          obtain ⟨s26, e25, h⟩ := bnd0_e h
          refine vM_callv K [] [] cw_RX10_233 (cM_layNow e25) rfl rfl (Nat.le_of_ble_eq_true rfl) (by decide) dX10_mix_105 ?_
          refine v_aload_n K 0 rfl dX10_mix_108 ?_
          refine v_iload K 6 rfl dX10_mix_109 ?_
          refine v_iload K 7 rfl dX10_mix_111 ?_
          refine v_iload K 8 rfl dX10_mix_113 ?_
          obtain ⟨s28, e27, h⟩ := bnd0_e h
          refine vM_callv K [.int (x5 / (49 : Int32)), .int ((x5 / (7 : Int32)) - (x5 / (7 : Int32)) / (7 : Int32) * (7 : Int32)), .int (x5 - x5 / (7 : Int32) * (7 : Int32))] [] cw_RX10_263 (cM_layMix e27) rfl rfl (Nat.le_of_ble_eq_true rfl) (by decide) dX10_mix_115 ?_
          refine v_aload_n K 0 rfl dX10_mix_118 ?_
          obtain ⟨s30, e29, h⟩ := bnd0_e h
          refine vM_callv K [] [] cw_RX10_236 (cM_goDay e29) rfl rfl (Nat.le_of_ble_eq_true rfl) (by decide) dX10_mix_119 ?_
          refine v_aload_n K 0 rfl dX10_mix_122 ?_
          obtain ⟨r33, s32, e31, h⟩ := bnd_e h
          refine vM_calli K [] [] cw_RX10_239 (cM_allCoin e31) rfl rfl (Nat.le_of_ble_eq_true rfl) (by decide) dX10_mix_123 ?_
          refine v_iload_n K 3 rfl dX10_mix_126 ?_
          refine v_icmp_le K 139 dX10_mix_127 (by decide) (fun q34 => ?_) (fun q34 => ?_)
          · replace h := if_e h q34
            refine v_drop [(0, .ref (ad 0)), (1, .int x1), (2, .int x2), (3, .int x3), (4, .int x4), (5, .int x5)] [0, 1, 2, 3, 4, 5] rfl ?_
            exact wM_mix_139 K RT (fun a0 a1 a2 a3 a4 a5 e => ih a0 a1 a2 a3 a4 a5 e) _ _ _ _ _ _ h
          · replace h := if_n h q34
            refine v_aload_n K 0 rfl dX10_mix_130 ?_
            obtain ⟨r37, s36, e35, h⟩ := bnd_e h
            refine vM_calli K [] [] cw_RX10_239 (cM_allCoin e35) rfl rfl (Nat.le_of_ble_eq_true rfl) (by decide) dX10_mix_131 ?_
            refine v_istore_n K [(0, .ref (ad 0)), (1, .int x1), (2, .int x2), (3, .int r37), (5, .int x5)] [1, 2, 3, 0, 5] dX10_mix_134 rfl (by decide) rfl ?_
            refine v_iload K 4 rfl dX10_mix_135 ?_
            refine v_istore K [(0, .ref (ad 0)), (1, .int x1), (2, .int x2), (3, .int r37), (4, .int x5), (5, .int x5)] [1, 2, 3, 4, 0, 5] dX10_mix_137 (by decide) rfl ?_
            exact wM_mix_139 K RT (fun a0 a1 a2 a3 a4 a5 e => ih a0 a1 a2 a3 a4 a5 e) _ _ _ _ _ _ h
set_option maxHeartbeats 4000000 in
set_option maxRecDepth 100000 in
theorem wM_mix_19 {ad : Nat → Nat} {X : Cx} {c : Nat → ClassId} (K : Ok X cX10_mix RX10 9 8 c) {r : Int32 × SS} (RT : ∀ pc ls, decode cX10_mix pc = .ok (.ireturn, 1) → V X 9 0 0 pc ls [.int r.1] (wM ad c r.2)) : ∀ (s : SS), M_mix_19 s = some r → V X 9 0 0 19 [] [] (wM ad c s) := by
  intro s h
  rw [M_mix_19] at h
  refine v_bipush (v := (-2 : Int32)) K dX10_mix_19 (by decide) ?_
  obtain rfl := Option.some.inj h
  exact RT _ _ dX10_mix_21
set_option maxHeartbeats 4000000 in
set_option maxRecDepth 100000 in
theorem wM_mix {ad : Nat → Nat} {X : Cx} {c : Nat → ClassId} (K : Ok X cX10_mix RX10 9 8 c) {r : Int32 × SS} (RT : ∀ pc ls, decode cX10_mix pc = .ok (.ireturn, 1) → V X 9 0 0 pc ls [.int r.1] (wM ad c r.2)) (s : SS) (x1 : Int32) (x2 : Int32) (h : M_mix s x1 x2 = some r) : V X 9 0 0 0 [(0, .ref (ad 0)), (1, .int x1), (2, .int x2)] [] (wM ad c s) := by
  rw [M_mix] at h
  refine v_iload_n K 1 rfl dX10_mix_0 ?_
  refine v_iconst (v := (2 : Int32)) K dX10_mix_1 (by decide) ?_
  refine v_bipush (v := (24 : Int32)) K dX10_mix_2 (by decide) ?_
  obtain ⟨r2, e1, h⟩ := bnd0_e h
  refine v_callsi K [.int x1, .int (2 : Int32), .int (24 : Int32)] [] cw_RX10_104 (cM_within e1) rfl rfl (Nat.le_of_ble_eq_true rfl) (by decide) z0 dX10_mix_4 ?_
  refine v_if_eq K 19 dX10_mix_7 (by decide) (fun q3 => ?_) (fun q3 => ?_)
  · replace h := if_e h q3
    refine v_drop [] [] rfl ?_
    exact wM_mix_19 K RT _ h
  · replace h := if_n h q3
    refine v_iload_n K 2 rfl dX10_mix_10 ?_
    refine v_iconst (v := (0 : Int32)) K dX10_mix_11 (by decide) ?_
    refine v_iconst (v := (3 : Int32)) K dX10_mix_12 (by decide) ?_
    obtain ⟨r5, e4, h⟩ := bnd0_e h
    refine v_callsi K [.int x2, .int (0 : Int32), .int (3 : Int32)] [] cw_RX10_104 (cM_within e4) rfl rfl (Nat.le_of_ble_eq_true rfl) (by decide) z0 dX10_mix_13 ?_
    refine v_if_ne K 22 dX10_mix_16 (by decide) (fun q6 => ?_) (fun q6 => ?_)
    · replace h := if_n h q6
      refine v_aload_n K 0 rfl dX10_mix_22 ?_
      obtain ⟨r9, s8, e7, h⟩ := bnd_e h
      refine vM_calli K [] [] cw_RX10_152 (cM_isCafe e7) rfl rfl (Nat.le_of_ble_eq_true rfl) (by decide) dX10_mix_23 ?_
      refine v_if_ne K 32 dX10_mix_26 (by decide) (fun q10 => ?_) (fun q10 => ?_)
      · replace h := if_n h q10
        refine v_iconst (v := (-1 : Int32)) K dX10_mix_32 (by decide) ?_
        refine v_istore_n K [(0, .ref (ad 0)), (1, .int x1), (2, .int x2), (3, .int (-1 : Int32))] [1, 2, 3, 0] dX10_mix_33 rfl (by decide) rfl ?_
        refine v_iconst (v := (0 : Int32)) K dX10_mix_34 (by decide) ?_
        refine v_istore K [(0, .ref (ad 0)), (1, .int x1), (2, .int x2), (3, .int (-1 : Int32)), (4, .int (0 : Int32))] [1, 2, 3, 4, 0] dX10_mix_35 (by decide) rfl ?_
        refine v_iconst (v := (0 : Int32)) K dX10_mix_37 (by decide) ?_
        refine v_istore K [(0, .ref (ad 0)), (1, .int x1), (2, .int x2), (3, .int (-1 : Int32)), (4, .int (0 : Int32)), (5, .int (0 : Int32))] [1, 2, 3, 4, 5, 0] dX10_mix_38 (by decide) rfl ?_
        exact wM_mix_40 K RT fuel _ _ _ _ _ _ h
      · replace h := if_e h q10
        refine v_bipush (v := (-3 : Int32)) K dX10_mix_29 (by decide) ?_
        obtain rfl := Option.some.inj h
        exact RT _ _ dX10_mix_31
    · replace h := if_e h q6
      refine v_drop [] [] rfl ?_
      exact wM_mix_19 K RT _ h
theorem cM_mix {l : Launch} {D : va_G} {c : Nat → ClassId} {ad : Nat → Nat} {s s' : SS} {x1 : Int32} {x2 : Int32} {r : Int32} (h : M_mix s x1 x2 = some (r, s')) : Ci l D c yX10_mix cX10_mix 9 (some .int) 8 [.ref (ad 0), .int x1, .int x2] (wM ad c s) r (wM ad c s') := Ci.of (by decide) (Nat.le_of_ble_eq_true rfl) (fun X K RT => wM_mix K (r := (r, s')) RT s x1 x2 h)
set_option maxHeartbeats 4000000 in
set_option maxRecDepth 100000 in
theorem wM_bestRule_74 {ad : Nat → Nat} {X : Cx} {c : Nat → ClassId} (K : Ok X cX10_bestRule RX10 6 9 c) {r : Int32 × SS} (RT : ∀ pc ls, decode cX10_bestRule pc = .ok (.ireturn, 1) → V X 6 0 0 pc ls [.int r.1] (wM ad c r.2)) : ∀ (y0 : Int32) (s : SS), M_bestRule_74 y0 s = some r → V X 6 0 0 74 [] [.int y0] (wM ad c s) := by
  intro y0 s h
  rw [M_bestRule_74] at h
  obtain rfl := Option.some.inj h
  exact RT _ _ dX10_bestRule_74
set_option maxHeartbeats 4000000 in
set_option maxRecDepth 100000 in
theorem wM_bestRule_59 {ad : Nat → Nat} {X : Cx} {c : Nat → ClassId} (K : Ok X cX10_bestRule RX10 6 9 c) {r : Int32 × SS} (RT : ∀ pc ls, decode cX10_bestRule pc = .ok (.ireturn, 1) → V X 6 0 0 pc ls [.int r.1] (wM ad c r.2)) {k29 : Int32 → Int32 → Int32 → Int32 → SS → Option (Int32 × SS)} (hk29 : ∀ (x1 : Int32) (x2 : Int32) (x3 : Int32) (x4 : Int32) (s : SS), k29 x1 x2 x3 x4 s = some r → V X 6 0 0 29 [(0, .ref (ad 0)), (1, .int x1), (2, .int x2), (3, .int x3), (4, .int x4)] [] (wM ad c s)) : ∀ (x1 : Int32) (x2 : Int32) (x3 : Int32) (x4 : Int32) (s : SS), M_bestRule_59 k29 x1 x2 x3 x4 s = some r → V X 6 0 0 59 [(0, .ref (ad 0)), (1, .int x1), (2, .int x2), (3, .int x3), (4, .int x4)] [] (wM ad c s) := by
  intro x1 x2 x3 x4 s h
  rw [M_bestRule_59] at h
  refine v_iinc (v := (x4 + (1 : Int32))) K 4 [(0, .ref (ad 0)), (1, .int x1), (2, .int x2), (3, .int x3), (4, .int (x4 + (1 : Int32)))] [1, 2, 3, 4, 0] dX10_bestRule_59 rfl rfl (by decide) rfl ?_
  refine v_goto K 29 dX10_bestRule_62 (by decide) ?_
  exact hk29 _ _ _ _ _ h
set_option maxHeartbeats 4000000 in
set_option maxRecDepth 100000 in
theorem wM_bestRule_29 {ad : Nat → Nat} {X : Cx} {c : Nat → ClassId} (K : Ok X cX10_bestRule RX10 6 9 c) {r : Int32 × SS} (RT : ∀ pc ls, decode cX10_bestRule pc = .ok (.ireturn, 1) → V X 6 0 0 pc ls [.int r.1] (wM ad c r.2)) : ∀ (n : Nat) (x1 : Int32) (x2 : Int32) (x3 : Int32) (x4 : Int32) (s : SS), M_bestRule_29 n x1 x2 x3 x4 s = some r → V X 6 0 0 29 [(0, .ref (ad 0)), (1, .int x1), (2, .int x2), (3, .int x3), (4, .int x4)] [] (wM ad c s) := by
  intro n
  induction n with
  | zero => intro _ _ _ _ _ h; cases h
  | succ n ih =>
    intro x1 x2 x3 x4 s h
    rw [M_bestRule_29] at h
    refine v_iload K 4 rfl dX10_bestRule_29 ?_
    refine v_iconst (v := (3 : Int32)) K dX10_bestRule_31 (by decide) ?_
    refine v_icmp_ge K 65 dX10_bestRule_32 (by decide) (fun q8 => ?_) (fun q8 => ?_)
    · replace h := if_e h q8
      refine v_iload_n K 1 rfl dX10_bestRule_65 ?_
      refine v_if_ne K 73 dX10_bestRule_66 (by decide) (fun q9 => ?_) (fun q9 => ?_)
      · replace h := if_n h q9
        refine v_iload_n K 3 rfl dX10_bestRule_73 ?_
        refine v_drop [] [] rfl ?_
        exact wM_bestRule_74 K RT _ _ h
      · replace h := if_e h q9
        refine v_iload_n K 2 rfl dX10_bestRule_69 ?_
        refine v_goto K 74 dX10_bestRule_70 (by decide) ?_
        refine v_drop [] [] rfl ?_
        exact wM_bestRule_74 K RT _ _ h
    · replace h := if_n h q8
      refine v_aload_n K 0 rfl dX10_bestRule_35 ?_
      refine v_iload K 4 rfl dX10_bestRule_36 ?_
      refine v_aload_n K 0 rfl dX10_bestRule_38 ?_
      refine gM_9 (v := (s 0 9)) K dX10_bestRule_39 rfl ?_
      obtain ⟨r12, s11, e10, h⟩ := bnd_e h
      refine vM_calli K [.int x4, .int (s 0 9)] [] cw_RX10_260 (cM_coinBy e10) rfl rfl (Nat.le_of_ble_eq_true rfl) (by decide) dX10_bestRule_42 ?_
      refine v_istore K [(0, .ref (ad 0)), (1, .int x1), (2, .int x2), (3, .int x3), (4, .int x4), (5, .int r12)] [1, 2, 3, 4, 5, 0] dX10_bestRule_45 (by decide) rfl ?_
      refine v_iload K 5 rfl dX10_bestRule_47 ?_
      refine v_iload_n K 3 rfl dX10_bestRule_49 ?_
      refine v_icmp_le K 59 dX10_bestRule_50 (by decide) (fun q13 => ?_) (fun q13 => ?_)
      · replace h := if_e h q13
        refine v_drop [(0, .ref (ad 0)), (1, .int x1), (2, .int x2), (3, .int x3), (4, .int x4)] [0, 1, 2, 3, 4] rfl ?_
        exact wM_bestRule_59 K RT (fun a0 a1 a2 a3 a4 e => ih a0 a1 a2 a3 a4 e) _ _ _ _ _ h
      · replace h := if_n h q13
        refine v_iload K 5 rfl dX10_bestRule_53 ?_
        refine v_istore_n K [(0, .ref (ad 0)), (1, .int x1), (3, .int r12), (4, .int x4)] [1, 2, 0, 4] dX10_bestRule_55 rfl (by decide) rfl ?_
        refine v_iload K 3 rfl dX10_bestRule_56 ?_
        refine v_istore_n K [(0, .ref (ad 0)), (1, .int x1), (2, .int x4), (3, .int r12), (4, .int x4)] [1, 2, 0, 3, 4] dX10_bestRule_58 rfl (by decide) rfl ?_
        exact wM_bestRule_59 K RT (fun a0 a1 a2 a3 a4 e => ih a0 a1 a2 a3 a4 e) _ _ _ _ _ h
set_option maxHeartbeats 4000000 in
set_option maxRecDepth 100000 in
theorem wM_bestRule {ad : Nat → Nat} {X : Cx} {c : Nat → ClassId} (K : Ok X cX10_bestRule RX10 6 9 c) {r : Int32 × SS} (RT : ∀ pc ls, decode cX10_bestRule pc = .ok (.ireturn, 1) → V X 6 0 0 pc ls [.int r.1] (wM ad c r.2)) (s : SS) (x1 : Int32) (h : M_bestRule s x1 = some r) : V X 6 0 0 0 [(0, .ref (ad 0)), (1, .int x1)] [] (wM ad c s) := by
  rw [M_bestRule] at h
  refine v_iload_n K 1 rfl dX10_bestRule_0 ?_
  refine v_iconst (v := (0 : Int32)) K dX10_bestRule_1 (by decide) ?_
  refine v_iconst (v := (1 : Int32)) K dX10_bestRule_2 (by decide) ?_
  obtain ⟨r2, e1, h⟩ := bnd0_e h
  refine v_callsi K [.int x1, .int (0 : Int32), .int (1 : Int32)] [] cw_RX10_104 (cM_within e1) rfl rfl (Nat.le_of_ble_eq_true rfl) (by decide) z0 dX10_bestRule_3 ?_
  refine v_if_ne K 12 dX10_bestRule_6 (by decide) (fun q3 => ?_) (fun q3 => ?_)
  · replace h := if_n h q3
    refine v_aload_n K 0 rfl dX10_bestRule_12 ?_
    obtain ⟨r6, s5, e4, h⟩ := bnd_e h
    refine vM_calli K [] [] cw_RX10_152 (cM_isCafe e4) rfl rfl (Nat.le_of_ble_eq_true rfl) (by decide) dX10_bestRule_13 ?_
    refine v_if_ne K 22 dX10_bestRule_16 (by decide) (fun q7 => ?_) (fun q7 => ?_)
    · replace h := if_n h q7
      refine v_iconst (v := (0 : Int32)) K dX10_bestRule_22 (by decide) ?_
      refine v_istore_n K [(0, .ref (ad 0)), (1, .int x1), (2, .int (0 : Int32))] [1, 2, 0] dX10_bestRule_23 rfl (by decide) rfl ?_
      refine v_iconst (v := (-1 : Int32)) K dX10_bestRule_24 (by decide) ?_
      refine v_istore_n K [(0, .ref (ad 0)), (1, .int x1), (2, .int (0 : Int32)), (3, .int (-1 : Int32))] [1, 2, 3, 0] dX10_bestRule_25 rfl (by decide) rfl ?_
      refine v_iconst (v := (0 : Int32)) K dX10_bestRule_26 (by decide) ?_
      refine v_istore K [(0, .ref (ad 0)), (1, .int x1), (2, .int (0 : Int32)), (3, .int (-1 : Int32)), (4, .int (0 : Int32))] [1, 2, 3, 4, 0] dX10_bestRule_27 (by decide) rfl ?_
      exact wM_bestRule_29 K RT fuel _ _ _ _ _ h
    · replace h := if_e h q7
      refine v_bipush (v := (-3 : Int32)) K dX10_bestRule_19 (by decide) ?_
      obtain rfl := Option.some.inj h
      exact RT _ _ dX10_bestRule_21
  · replace h := if_e h q3
    refine v_bipush (v := (-2 : Int32)) K dX10_bestRule_9 (by decide) ?_
    obtain rfl := Option.some.inj h
    exact RT _ _ dX10_bestRule_11
theorem cM_bestRule {l : Launch} {D : va_G} {c : Nat → ClassId} {ad : Nat → Nat} {s s' : SS} {x1 : Int32} {r : Int32} (h : M_bestRule s x1 = some (r, s')) : Ci l D c yX10_bestRule cX10_bestRule 6 (some .int) 9 [.ref (ad 0), .int x1] (wM ad c s) r (wM ad c s') := Ci.of (by decide) (Nat.le_of_ble_eq_true rfl) (fun X K RT => wM_bestRule K (r := (r, s')) RT s x1 h)
set_option maxHeartbeats 4000000 in
set_option maxRecDepth 100000 in
theorem wM_coin_16 {ad : Nat → Nat} {X : Cx} {c : Nat → ClassId} (K : Ok X cX10_coin RX10 1 9 c) {r : Int32 × SS} (RT : ∀ pc ls, decode cX10_coin pc = .ok (.ireturn, 1) → V X 1 0 0 pc ls [.int r.1] (wM ad c r.2)) : ∀ (y0 : Int32) (s : SS), M_coin_16 y0 s = some r → V X 1 0 0 16 [] [.int y0] (wM ad c s) := by
  intro y0 s h
  rw [M_coin_16] at h
  obtain rfl := Option.some.inj h
  exact RT _ _ dX10_coin_16
set_option maxHeartbeats 4000000 in
set_option maxRecDepth 100000 in
theorem wM_coin {ad : Nat → Nat} {X : Cx} {c : Nat → ClassId} (K : Ok X cX10_coin RX10 1 9 c) {r : Int32 × SS} (RT : ∀ pc ls, decode cX10_coin pc = .ok (.ireturn, 1) → V X 1 0 0 pc ls [.int r.1] (wM ad c r.2)) (s : SS) (h : M_coin s = some r) : V X 1 0 0 0 [(0, .ref (ad 0))] [] (wM ad c s) := by
  rw [M_coin] at h
  refine v_aload_n K 0 rfl dX10_coin_0 ?_
  obtain ⟨r3, s2, e1, h⟩ := bnd_e h
  refine vM_calli K [] [] cw_RX10_152 (cM_isCafe e1) rfl rfl (Nat.le_of_ble_eq_true rfl) (by decide) dX10_coin_1 ?_
  refine v_if_eq K 14 dX10_coin_4 (by decide) (fun q4 => ?_) (fun q4 => ?_)
  · replace h := if_e h q4
    refine v_bipush (v := (-3 : Int32)) K dX10_coin_14 (by decide) ?_
    refine v_drop [] [] rfl ?_
    exact wM_coin_16 K RT _ _ h
  · replace h := if_n h q4
    refine v_aload_n K 0 rfl dX10_coin_7 ?_
    obtain ⟨r7, s6, e5, h⟩ := bnd_e h
    refine vM_calli K [] [] cw_RX10_242 (cM_coinNow e5) rfl rfl (Nat.le_of_ble_eq_true rfl) (by decide) dX10_coin_8 ?_
    refine v_goto K 16 dX10_coin_11 (by decide) ?_
    refine v_drop [] [] rfl ?_
    exact wM_coin_16 K RT _ _ h
theorem cM_coin {l : Launch} {D : va_G} {c : Nat → ClassId} {ad : Nat → Nat} {s s' : SS} {r : Int32} (h : M_coin s = some (r, s')) : Ci l D c yX10_coin cX10_coin 1 (some .int) 9 [.ref (ad 0)] (wM ad c s) r (wM ad c s') := Ci.of (by decide) (Nat.le_of_ble_eq_true rfl) (fun X K RT => wM_coin K (r := (r, s')) RT s  h)
set_option maxHeartbeats 4000000 in
set_option maxRecDepth 100000 in
theorem wM_day_93 {ad : Nat → Nat} {X : Cx} {c : Nat → ClassId} (K : Ok X cX10_day RX10 4 9 c) {r : Int32 × SS} (RT : ∀ pc ls, decode cX10_day pc = .ok (.ireturn, 1) → V X 4 0 0 pc ls [.int r.1] (wM ad c r.2)) : ∀ (y0 : Int32) (s : SS), M_day_93 y0 s = some r → V X 4 0 0 93 [] [.int y0] (wM ad c s) := by
  intro y0 s h
  rw [M_day_93] at h
  obtain rfl := Option.some.inj h
  exact RT _ _ dX10_day_93
set_option maxHeartbeats 4000000 in
set_option maxRecDepth 100000 in
theorem wM_day {ad : Nat → Nat} {X : Cx} {c : Nat → ClassId} (K : Ok X cX10_day RX10 4 9 c) {r : Int32 × SS} (RT : ∀ pc ls, decode cX10_day pc = .ok (.ireturn, 1) → V X 4 0 0 pc ls [.int r.1] (wM ad c r.2)) (s : SS) (x1 : Int32) (x2 : Int32) (h : M_day s x1 x2 = some r) : V X 4 0 0 0 [(0, .ref (ad 0)), (1, .int x1), (2, .int x2)] [] (wM ad c s) := by
  rw [M_day] at h
  refine v_aload_n K 0 rfl dX10_day_0 ?_
  refine v_iload_n K 1 rfl dX10_day_1 ?_
  obtain ⟨r3, s2, e1, h⟩ := bnd_e h
  refine vM_calli K [.int x1] [] cw_RX10_156 (cM_isGroup e1) rfl rfl (Nat.le_of_ble_eq_true rfl) (by decide) dX10_day_2 ?_
  refine v_if_ne K 10 dX10_day_5 (by decide) (fun q4 => ?_) (fun q4 => ?_)
  · replace h := if_n h q4
    refine v_iload_n K 2 rfl dX10_day_10 ?_
    refine v_iconst (v := (0 : Int32)) K dX10_day_11 (by decide) ?_
    refine v_iconst (v := (5 : Int32)) K dX10_day_12 (by decide) ?_
    obtain ⟨r6, e5, h⟩ := bnd0_e h
    refine v_callsi K [.int x2, .int (0 : Int32), .int (5 : Int32)] [] cw_RX10_104 (cM_within e5) rfl rfl (Nat.le_of_ble_eq_true rfl) (by decide) z0 dX10_day_13 ?_
    refine v_if_ne K 22 dX10_day_16 (by decide) (fun q7 => ?_) (fun q7 => ?_)
    · replace h := if_n h q7
      refine v_aload_n K 0 rfl dX10_day_22 ?_
      obtain ⟨r10, s9, e8, h⟩ := bnd_e h
      refine vM_calli K [] [] cw_RX10_242 (cM_coinNow e8) rfl rfl (Nat.le_of_ble_eq_true rfl) (by decide) dX10_day_23 ?_
      refine v_istore_n K [(0, .ref (ad 0)), (1, .int x1), (2, .int x2)] [1, 2, 3] dX10_day_26 rfl (by decide) rfl ?_
      refine v_iload_n K 2 rfl dX10_day_27 ?_
      by_cases q11 : x2 = (0 : Int32)
      · replace h := if_e h q11
        refine v_tableIn (off := 36) K 64 dX10_day_28 (by rw [q11]; decide) (by rw [q11]; decide) (by rw [q11]; rfl) (by decide) ?_
        refine v_aload_n K 0 rfl dX10_day_64 ?_
        refine gM_32 K dX10_day_65 ?_
        refine v_iload_n K 1 rfl dX10_day_68 ?_
        obtain ⟨b12, h⟩ := ob_e h
        refine lM_32 (v := (s9 32 x1.toNatClampNeg)) K b12 dX10_day_69 rfl ?_
        refine v_iconst (v := (3 : Int32)) K dX10_day_70 (by decide) ?_
        refine v_icmp_ne K 78 dX10_day_71 (by decide) (fun q13 => ?_) (fun q13 => ?_)
        · replace h := if_n h q13
          refine v_aload_n K 0 rfl dX10_day_78 ?_
          refine gM_32 K dX10_day_79 ?_
          refine v_iload_n K 1 rfl dX10_day_82 ?_
          obtain ⟨b14, h⟩ := ob_e h
          refine lM_32 (v := (s9 32 x1.toNatClampNeg)) K b14 dX10_day_83 rfl ?_
          refine v_iconst (v := (4 : Int32)) K dX10_day_84 (by decide) ?_
          refine v_icmp_ne K 92 dX10_day_85 (by decide) (fun q15 => ?_) (fun q15 => ?_)
          · replace h := if_n h q15
            refine v_iconst (v := (0 : Int32)) K dX10_day_92 (by decide) ?_
            refine v_drop [] [] rfl ?_
            exact wM_day_93 K RT _ _ h
          · replace h := if_e h q15
            refine v_iconst (v := (2 : Int32)) K dX10_day_88 (by decide) ?_
            refine v_goto K 93 dX10_day_89 (by decide) ?_
            refine v_drop [] [] rfl ?_
            exact wM_day_93 K RT _ _ h
        · replace h := if_e h q13
          refine v_iconst (v := (1 : Int32)) K dX10_day_74 (by decide) ?_
          refine v_goto K 93 dX10_day_75 (by decide) ?_
          refine v_drop [] [] rfl ?_
          exact wM_day_93 K RT _ _ h
      · replace h := if_n h q11
        by_cases q16 : x2 = (1 : Int32)
        · replace h := if_e h q16
          refine v_tableIn (off := 66) K 94 dX10_day_28 (by rw [q16]; decide) (by rw [q16]; decide) (by rw [q16]; rfl) (by decide) ?_
          refine v_aload_n K 0 rfl dX10_day_94 ?_
          refine gM_33 K dX10_day_95 ?_
          refine v_iload_n K 1 rfl dX10_day_98 ?_
          obtain ⟨b17, h⟩ := ob_e h
          refine lM_33 (v := (s9 33 x1.toNatClampNeg)) K b17 dX10_day_99 rfl ?_
          obtain rfl := Option.some.inj h
          exact RT _ _ dX10_day_100
        · replace h := if_n h q16
          by_cases q18 : x2 = (2 : Int32)
          · replace h := if_e h q18
            refine v_tableIn (off := 73) K 101 dX10_day_28 (by rw [q18]; decide) (by rw [q18]; decide) (by rw [q18]; rfl) (by decide) ?_
            refine v_aload_n K 0 rfl dX10_day_101 ?_
            refine gM_34 K dX10_day_102 ?_
            refine v_iload_n K 1 rfl dX10_day_105 ?_
            obtain ⟨b19, h⟩ := ob_e h
            refine lM_34 (v := (s9 34 x1.toNatClampNeg)) K b19 dX10_day_106 rfl ?_
            obtain rfl := Option.some.inj h
            exact RT _ _ dX10_day_107
          · replace h := if_n h q18
            by_cases q20 : x2 = (3 : Int32)
            · replace h := if_e h q20
              refine v_tableIn (off := 80) K 108 dX10_day_28 (by rw [q20]; decide) (by rw [q20]; decide) (by rw [q20]; rfl) (by decide) ?_
              refine v_aload_n K 0 rfl dX10_day_108 ?_
              refine gM_35 K dX10_day_109 ?_
              refine v_iload_n K 1 rfl dX10_day_112 ?_
              obtain ⟨b21, h⟩ := ob_e h
              refine lM_35 (v := (s9 35 x1.toNatClampNeg)) K b21 dX10_day_113 rfl ?_
              obtain rfl := Option.some.inj h
              exact RT _ _ dX10_day_114
            · replace h := if_n h q20
              by_cases q22 : x2 = (4 : Int32)
              · replace h := if_e h q22
                refine v_tableIn (off := 87) K 115 dX10_day_28 (by rw [q22]; decide) (by rw [q22]; decide) (by rw [q22]; rfl) (by decide) ?_
                refine v_aload_n K 0 rfl dX10_day_115 ?_
                refine gM_36 K dX10_day_116 ?_
                refine v_iload_n K 1 rfl dX10_day_119 ?_
                obtain ⟨b23, h⟩ := ob_e h
                refine lM_36 (v := (s9 36 x1.toNatClampNeg)) K b23 dX10_day_120 rfl ?_
                obtain rfl := Option.some.inj h
                exact RT _ _ dX10_day_121
              · replace h := if_n h q22
                refine v_tableOut K 122 dX10_day_28 (by have eq11 := lv_neT q11 (show ((0 : Int32)).toInt = 0 from by decide); have eq16 := lv_neT q16 (show ((1 : Int32)).toInt = 1 from by decide); have eq18 := lv_neT q18 (show ((2 : Int32)).toInt = 2 from by decide); have eq20 := lv_neT q20 (show ((3 : Int32)).toInt = 3 from by decide); have eq22 := lv_neT q22 (show ((4 : Int32)).toInt = 4 from by decide); omega) (by decide) ?_
                refine v_aload_n K 0 rfl dX10_day_122 ?_
                refine gM_37 K dX10_day_123 ?_
                refine v_iload_n K 1 rfl dX10_day_126 ?_
                obtain ⟨b24, h⟩ := ob_e h
                refine lM_37 (v := (s9 37 x1.toNatClampNeg)) K b24 dX10_day_127 rfl ?_
                obtain rfl := Option.some.inj h
                exact RT _ _ dX10_day_128
    · replace h := if_e h q7
      refine v_bipush (v := (-2 : Int32)) K dX10_day_19 (by decide) ?_
      obtain rfl := Option.some.inj h
      exact RT _ _ dX10_day_21
  · replace h := if_e h q4
    refine v_iconst (v := (-1 : Int32)) K dX10_day_8 (by decide) ?_
    obtain rfl := Option.some.inj h
    exact RT _ _ dX10_day_9
theorem cM_day {l : Launch} {D : va_G} {c : Nat → ClassId} {ad : Nat → Nat} {s s' : SS} {x1 : Int32} {x2 : Int32} {r : Int32} (h : M_day s x1 x2 = some (r, s')) : Ci l D c yX10_day cX10_day 4 (some .int) 9 [.ref (ad 0), .int x1, .int x2] (wM ad c s) r (wM ad c s') := Ci.of (by decide) (Nat.le_of_ble_eq_true rfl) (fun X K RT => wM_day K (r := (r, s')) RT s x1 x2 h)
set_option maxHeartbeats 4000000 in
set_option maxRecDepth 100000 in
theorem wM_taken_57 {ad : Nat → Nat} {X : Cx} {c : Nat → ClassId} (K : Ok X cX10_taken RX10 4 9 c) {r : Int32 × SS} (RT : ∀ pc ls, decode cX10_taken pc = .ok (.ireturn, 1) → V X 4 0 0 pc ls [.int r.1] (wM ad c r.2)) : ∀ (y0 : Int32) (s : SS), M_taken_57 y0 s = some r → V X 4 0 0 57 [] [.int y0] (wM ad c s) := by
  intro y0 s h
  rw [M_taken_57] at h
  obtain rfl := Option.some.inj h
  exact RT _ _ dX10_taken_57
set_option maxHeartbeats 4000000 in
set_option maxRecDepth 100000 in
theorem wM_taken_20 {ad : Nat → Nat} {X : Cx} {c : Nat → ClassId} (K : Ok X cX10_taken RX10 4 9 c) {r : Int32 × SS} (RT : ∀ pc ls, decode cX10_taken pc = .ok (.ireturn, 1) → V X 4 0 0 pc ls [.int r.1] (wM ad c r.2)) : ∀ (s : SS), M_taken_20 s = some r → V X 4 0 0 20 [] [] (wM ad c s) := by
  intro s h
  rw [M_taken_20] at h
  refine v_bipush (v := (-2 : Int32)) K dX10_taken_20 (by decide) ?_
  obtain rfl := Option.some.inj h
  exact RT _ _ dX10_taken_22
set_option maxHeartbeats 4000000 in
set_option maxRecDepth 100000 in
theorem wM_taken {ad : Nat → Nat} {X : Cx} {c : Nat → ClassId} (K : Ok X cX10_taken RX10 4 9 c) {r : Int32 × SS} (RT : ∀ pc ls, decode cX10_taken pc = .ok (.ireturn, 1) → V X 4 0 0 pc ls [.int r.1] (wM ad c r.2)) (s : SS) (x1 : Int32) (x2 : Int32) (h : M_taken s x1 x2 = some r) : V X 4 0 0 0 [(0, .ref (ad 0)), (1, .int x1), (2, .int x2)] [] (wM ad c s) := by
  rw [M_taken] at h
  refine v_iload_n K 1 rfl dX10_taken_0 ?_
  refine v_iconst (v := (0 : Int32)) K dX10_taken_1 (by decide) ?_
  refine v_sipush (v := (399 : Int32)) K dX10_taken_2 (by decide) ?_
  obtain ⟨r2, e1, h⟩ := bnd0_e h
  refine v_callsi K [.int x1, .int (0 : Int32), .int (399 : Int32)] [] cw_RX10_104 (cM_within e1) rfl rfl (Nat.le_of_ble_eq_true rfl) (by decide) z0 dX10_taken_5 ?_
  refine v_if_eq K 20 dX10_taken_8 (by decide) (fun q3 => ?_) (fun q3 => ?_)
  · replace h := if_e h q3
    refine v_drop [] [] rfl ?_
    exact wM_taken_20 K RT _ h
  · replace h := if_n h q3
    refine v_iload_n K 2 rfl dX10_taken_11 ?_
    refine v_iconst (v := (0 : Int32)) K dX10_taken_12 (by decide) ?_
    refine v_iconst (v := (1 : Int32)) K dX10_taken_13 (by decide) ?_
    obtain ⟨r5, e4, h⟩ := bnd0_e h
    refine v_callsi K [.int x2, .int (0 : Int32), .int (1 : Int32)] [] cw_RX10_104 (cM_within e4) rfl rfl (Nat.le_of_ble_eq_true rfl) (by decide) z0 dX10_taken_14 ?_
    refine v_if_ne K 23 dX10_taken_17 (by decide) (fun q6 => ?_) (fun q6 => ?_)
    · replace h := if_n h q6
      refine v_aload_n K 0 rfl dX10_taken_23 ?_
      obtain ⟨r9, s8, e7, h⟩ := bnd_e h
      refine vM_calli K [] [] cw_RX10_152 (cM_isCafe e7) rfl rfl (Nat.le_of_ble_eq_true rfl) (by decide) dX10_taken_24 ?_
      refine v_if_ne K 33 dX10_taken_27 (by decide) (fun q10 => ?_) (fun q10 => ?_)
      · replace h := if_n h q10
        refine v_aload_n K 0 rfl dX10_taken_33 ?_
        obtain ⟨r13, s12, e11, h⟩ := bnd_e h
        refine vM_calli K [] [] cw_RX10_242 (cM_coinNow e11) rfl rfl (Nat.le_of_ble_eq_true rfl) (by decide) dX10_taken_34 ?_
        refine v_istore_n K [(0, .ref (ad 0)), (1, .int x1), (2, .int x2)] [1, 2, 3] dX10_taken_37 rfl (by decide) rfl ?_
        refine v_iload_n K 2 rfl dX10_taken_38 ?_
        refine v_if_ne K 51 dX10_taken_39 (by decide) (fun q14 => ?_) (fun q14 => ?_)
        · replace h := if_n h q14
          refine v_aload_n K 0 rfl dX10_taken_51 ?_
          refine gM_39 K dX10_taken_52 ?_
          refine v_iload_n K 1 rfl dX10_taken_55 ?_
          obtain ⟨b15, h⟩ := ob_e h
          refine lM_39 (v := (s12 39 x1.toNatClampNeg)) K b15 dX10_taken_56 rfl ?_
          refine v_drop [] [] rfl ?_
          exact wM_taken_57 K RT _ _ h
        · replace h := if_e h q14
          refine v_aload_n K 0 rfl dX10_taken_42 ?_
          refine gM_38 K dX10_taken_43 ?_
          refine v_iload_n K 1 rfl dX10_taken_46 ?_
          obtain ⟨b16, h⟩ := ob_e h
          refine lM_38 (v := (s12 38 x1.toNatClampNeg)) K b16 dX10_taken_47 rfl ?_
          refine v_goto K 57 dX10_taken_48 (by decide) ?_
          refine v_drop [] [] rfl ?_
          exact wM_taken_57 K RT _ _ h
      · replace h := if_e h q10
        refine v_bipush (v := (-3 : Int32)) K dX10_taken_30 (by decide) ?_
        obtain rfl := Option.some.inj h
        exact RT _ _ dX10_taken_32
    · replace h := if_e h q6
      refine v_drop [] [] rfl ?_
      exact wM_taken_20 K RT _ h
theorem cM_taken {l : Launch} {D : va_G} {c : Nat → ClassId} {ad : Nat → Nat} {s s' : SS} {x1 : Int32} {x2 : Int32} {r : Int32} (h : M_taken s x1 x2 = some (r, s')) : Ci l D c yX10_taken cX10_taken 4 (some .int) 9 [.ref (ad 0), .int x1, .int x2] (wM ad c s) r (wM ad c s') := Ci.of (by decide) (Nat.le_of_ble_eq_true rfl) (fun X K RT => wM_taken K (r := (r, s')) RT s x1 x2 h)
set_option maxHeartbeats 4000000 in
set_option maxRecDepth 100000 in
theorem wM_till_105 {ad : Nat → Nat} {X : Cx} {c : Nat → ClassId} (K : Ok X cX10_till RX10 7 9 c) {r : Int32 × SS} (RT : ∀ pc ls, decode cX10_till pc = .ok (.ireturn, 1) → V X 7 0 0 pc ls [.int r.1] (wM ad c r.2)) : ∀ (y0 : Int32) (s : SS), M_till_105 y0 s = some r → V X 7 0 0 105 [] [.int y0] (wM ad c s) := by
  intro y0 s h
  rw [M_till_105] at h
  obtain rfl := Option.some.inj h
  exact RT _ _ dX10_till_105
set_option maxHeartbeats 4000000 in
set_option maxRecDepth 100000 in
theorem wM_till_79 {ad : Nat → Nat} {X : Cx} {c : Nat → ClassId} (K : Ok X cX10_till RX10 7 9 c) {r : Int32 × SS} (RT : ∀ pc ls, decode cX10_till pc = .ok (.ireturn, 1) → V X 7 0 0 pc ls [.int r.1] (wM ad c r.2)) {k35 : Int32 → Int32 → Int32 → Int32 → Int32 → Int32 → SS → Option (Int32 × SS)} (hk35 : ∀ (x1 : Int32) (x2 : Int32) (x3 : Int32) (x4 : Int32) (x5 : Int32) (x6 : Int32) (s : SS), k35 x1 x2 x3 x4 x5 x6 s = some r → V X 7 0 0 35 [(0, .ref (ad 0)), (1, .int x1), (2, .int x2), (3, .int x3), (4, .int x4), (5, .int x5), (6, .int x6)] [] (wM ad c s)) : ∀ (x1 : Int32) (x2 : Int32) (x3 : Int32) (x4 : Int32) (x5 : Int32) (x6 : Int32) (s : SS), M_till_79 k35 x1 x2 x3 x4 x5 x6 s = some r → V X 7 0 0 79 [(0, .ref (ad 0)), (1, .int x1), (2, .int x2), (3, .int x3), (4, .int x4), (5, .int x5), (6, .int x6)] [] (wM ad c s) := by
  intro x1 x2 x3 x4 x5 x6 s h
  rw [M_till_79] at h
  refine v_iinc (v := (x6 + (1 : Int32))) K 6 [(0, .ref (ad 0)), (1, .int x1), (2, .int x2), (3, .int x3), (4, .int x4), (5, .int x5), (6, .int (x6 + (1 : Int32)))] [1, 2, 3, 4, 5, 6, 0] dX10_till_79 rfl rfl (by decide) rfl ?_
  refine v_goto K 35 dX10_till_82 (by decide) ?_
  exact hk35 _ _ _ _ _ _ _ h
set_option maxHeartbeats 4000000 in
set_option maxRecDepth 100000 in
theorem wM_till_73 {ad : Nat → Nat} {X : Cx} {c : Nat → ClassId} (K : Ok X cX10_till RX10 7 9 c) {r : Int32 × SS} (RT : ∀ pc ls, decode cX10_till pc = .ok (.ireturn, 1) → V X 7 0 0 pc ls [.int r.1] (wM ad c r.2)) {k35 : Int32 → Int32 → Int32 → Int32 → Int32 → Int32 → SS → Option (Int32 × SS)} (hk35 : ∀ (x1 : Int32) (x2 : Int32) (x3 : Int32) (x4 : Int32) (x5 : Int32) (x6 : Int32) (s : SS), k35 x1 x2 x3 x4 x5 x6 s = some r → V X 7 0 0 35 [(0, .ref (ad 0)), (1, .int x1), (2, .int x2), (3, .int x3), (4, .int x4), (5, .int x5), (6, .int x6)] [] (wM ad c s)) : ∀ (y0 : Int32) (x1 : Int32) (x2 : Int32) (x3 : Int32) (x6 : Int32) (s : SS), M_till_73 k35 y0 x1 x2 x3 x6 s = some r → V X 7 0 0 73 [(0, .ref (ad 0)), (1, .int x1), (2, .int x2), (3, .int x3), (6, .int x6)] [.int y0] (wM ad c s) := by
  intro y0 x1 x2 x3 x6 s h
  rw [M_till_73] at h
  refine v_istore K [(0, .ref (ad 0)), (1, .int x1), (2, .int x2), (3, .int x3), (4, .int y0), (6, .int x6)] [1, 2, 3, 4, 0, 5] dX10_till_73 (by decide) rfl ?_
  refine v_iload K 5 rfl dX10_till_75 ?_
  refine v_istore K [(0, .ref (ad 0)), (1, .int x1), (2, .int x2), (3, .int x3), (4, .int y0), (5, .int x6), (6, .int x6)] [1, 2, 3, 4, 5, 0, 6] dX10_till_77 (by decide) rfl ?_
  exact wM_till_79 K RT hk35 _ _ _ _ _ _ _ h
set_option maxHeartbeats 4000000 in
set_option maxRecDepth 100000 in
theorem wM_till_35 {ad : Nat → Nat} {X : Cx} {c : Nat → ClassId} (K : Ok X cX10_till RX10 7 9 c) {r : Int32 × SS} (RT : ∀ pc ls, decode cX10_till pc = .ok (.ireturn, 1) → V X 7 0 0 pc ls [.int r.1] (wM ad c r.2)) : ∀ (n : Nat) (x1 : Int32) (x2 : Int32) (x3 : Int32) (x4 : Int32) (x5 : Int32) (x6 : Int32) (s : SS), M_till_35 n x1 x2 x3 x4 x5 x6 s = some r → V X 7 0 0 35 [(0, .ref (ad 0)), (1, .int x1), (2, .int x2), (3, .int x3), (4, .int x4), (5, .int x5), (6, .int x6)] [] (wM ad c s) := by
  intro n
  induction n with
  | zero => intro _ _ _ _ _ _ _ h; cases h
  | succ n ih =>
    intro x1 x2 x3 x4 x5 x6 s h
    rw [M_till_35] at h
    refine v_iload K 6 rfl dX10_till_35 ?_
    refine v_bipush (v := (30 : Int32)) K dX10_till_37 (by decide) ?_
    refine v_icmp_gt K 85 dX10_till_39 (by decide) (fun q8 => ?_) (fun q8 => ?_)
    · replace h := if_e h q8
      refine v_iload_n K 2 rfl dX10_till_85 ?_
      refine v_if_ne K 93 dX10_till_86 (by decide) (fun q9 => ?_) (fun q9 => ?_)
      · replace h := if_n h q9
        refine v_iload_n K 2 rfl dX10_till_93 ?_
        refine v_iconst (v := (1 : Int32)) K dX10_till_94 (by decide) ?_
        refine v_icmp_ne K 103 dX10_till_95 (by decide) (fun q10 => ?_) (fun q10 => ?_)
        · replace h := if_n h q10
          refine v_iload K 5 rfl dX10_till_103 ?_
          refine v_drop [] [] rfl ?_
          exact wM_till_105 K RT _ _ h
        · replace h := if_e h q10
          refine v_iload K 4 rfl dX10_till_98 ?_
          refine v_goto K 105 dX10_till_100 (by decide) ?_
          refine v_drop [] [] rfl ?_
          exact wM_till_105 K RT _ _ h
      · replace h := if_e h q9
        refine v_iload_n K 3 rfl dX10_till_89 ?_
        refine v_goto K 105 dX10_till_90 (by decide) ?_
        refine v_drop [] [] rfl ?_
        exact wM_till_105 K RT _ _ h
    · replace h := if_n h q8
      refine v_aload_n K 0 rfl dX10_till_42 ?_
      refine v_aload_n K 0 rfl dX10_till_43 ?_
      refine gM_8 (v := (s 0 8)) K dX10_till_44 rfl ?_
      refine v_iload K 6 rfl dX10_till_47 ?_
      obtain ⟨r13, s12, e11, h⟩ := bnd_e h
      refine vM_calli K [.int (s 0 8), .int x6] [] cw_RX10_260 (cM_coinBy e11) rfl rfl (Nat.le_of_ble_eq_true rfl) (by decide) dX10_till_49 ?_
      refine v_iload_n K 1 rfl dX10_till_52 ?_
      refine v_icmp_ne K 79 dX10_till_53 (by decide) (fun q14 => ?_) (fun q14 => ?_)
      · replace h := if_n h q14
        exact wM_till_79 K RT (fun a0 a1 a2 a3 a4 a5 a6 e => ih a0 a1 a2 a3 a4 a5 a6 e) _ _ _ _ _ _ _ h
      · replace h := if_e h q14
        refine v_iinc (v := (x3 + (1 : Int32))) K 3 [(0, .ref (ad 0)), (1, .int x1), (2, .int x2), (3, .int (x3 + (1 : Int32))), (4, .int x4), (5, .int x5), (6, .int x6)] [1, 2, 3, 0, 4, 5, 6] dX10_till_56 rfl rfl (by decide) rfl ?_
        refine v_iload K 4 rfl dX10_till_59 ?_
        refine v_bipush (v := (-9 : Int32)) K dX10_till_61 (by decide) ?_
        refine v_icmp_ne K 71 dX10_till_63 (by decide) (fun q15 => ?_) (fun q15 => ?_)
        · replace h := if_n h q15
          refine v_iload K 4 rfl dX10_till_71 ?_
          refine v_drop [(0, .ref (ad 0)), (1, .int x1), (2, .int x2), (3, .int (x3 + (1 : Int32))), (6, .int x6)] [0, 1, 2, 3, 6] rfl ?_
          exact wM_till_73 K RT (fun a0 a1 a2 a3 a4 a5 a6 e => ih a0 a1 a2 a3 a4 a5 a6 e) _ _ _ _ _ _ h
        · replace h := if_e h q15
          refine v_iload K 6 rfl dX10_till_66 ?_
          refine v_goto K 73 dX10_till_68 (by decide) ?_
          refine v_drop [(0, .ref (ad 0)), (1, .int x1), (2, .int x2), (3, .int (x3 + (1 : Int32))), (6, .int x6)] [0, 1, 2, 3, 6] rfl ?_
          exact wM_till_73 K RT (fun a0 a1 a2 a3 a4 a5 a6 e => ih a0 a1 a2 a3 a4 a5 a6 e) _ _ _ _ _ _ h
set_option maxHeartbeats 4000000 in
set_option maxRecDepth 100000 in
theorem wM_till {ad : Nat → Nat} {X : Cx} {c : Nat → ClassId} (K : Ok X cX10_till RX10 7 9 c) {r : Int32 × SS} (RT : ∀ pc ls, decode cX10_till pc = .ok (.ireturn, 1) → V X 7 0 0 pc ls [.int r.1] (wM ad c r.2)) (s : SS) (x1 : Int32) (x2 : Int32) (h : M_till s x1 x2 = some r) : V X 7 0 0 0 [(0, .ref (ad 0)), (1, .int x1), (2, .int x2)] [] (wM ad c s) := by
  rw [M_till] at h
  refine v_iload_n K 2 rfl dX10_till_0 ?_
  refine v_iconst (v := (0 : Int32)) K dX10_till_1 (by decide) ?_
  refine v_iconst (v := (2 : Int32)) K dX10_till_2 (by decide) ?_
  obtain ⟨r2, e1, h⟩ := bnd0_e h
  refine v_callsi K [.int x2, .int (0 : Int32), .int (2 : Int32)] [] cw_RX10_104 (cM_within e1) rfl rfl (Nat.le_of_ble_eq_true rfl) (by decide) z0 dX10_till_3 ?_
  refine v_if_ne K 12 dX10_till_6 (by decide) (fun q3 => ?_) (fun q3 => ?_)
  · replace h := if_n h q3
    refine v_aload_n K 0 rfl dX10_till_12 ?_
    obtain ⟨r6, s5, e4, h⟩ := bnd_e h
    refine vM_calli K [] [] cw_RX10_152 (cM_isCafe e4) rfl rfl (Nat.le_of_ble_eq_true rfl) (by decide) dX10_till_13 ?_
    refine v_if_ne K 22 dX10_till_16 (by decide) (fun q7 => ?_) (fun q7 => ?_)
    · replace h := if_n h q7
      refine v_iconst (v := (0 : Int32)) K dX10_till_22 (by decide) ?_
      refine v_istore_n K [(0, .ref (ad 0)), (1, .int x1), (2, .int x2), (3, .int (0 : Int32))] [1, 2, 3, 0] dX10_till_23 rfl (by decide) rfl ?_
      refine v_bipush (v := (-9 : Int32)) K dX10_till_24 (by decide) ?_
      refine v_istore K [(0, .ref (ad 0)), (1, .int x1), (2, .int x2), (3, .int (0 : Int32)), (4, .int (-9 : Int32))] [1, 2, 3, 4, 0] dX10_till_26 (by decide) rfl ?_
      refine v_bipush (v := (-9 : Int32)) K dX10_till_28 (by decide) ?_
      refine v_istore K [(0, .ref (ad 0)), (1, .int x1), (2, .int x2), (3, .int (0 : Int32)), (4, .int (-9 : Int32)), (5, .int (-9 : Int32))] [1, 2, 3, 4, 5, 0] dX10_till_30 (by decide) rfl ?_
      refine v_iconst (v := (0 : Int32)) K dX10_till_32 (by decide) ?_
      refine v_istore K [(0, .ref (ad 0)), (1, .int x1), (2, .int x2), (3, .int (0 : Int32)), (4, .int (-9 : Int32)), (5, .int (-9 : Int32)), (6, .int (0 : Int32))] [1, 2, 3, 4, 5, 6, 0] dX10_till_33 (by decide) rfl ?_
      exact wM_till_35 K RT fuel _ _ _ _ _ _ _ h
    · replace h := if_e h q7
      refine v_bipush (v := (-3 : Int32)) K dX10_till_19 (by decide) ?_
      obtain rfl := Option.some.inj h
      exact RT _ _ dX10_till_21
  · replace h := if_e h q3
    refine v_bipush (v := (-2 : Int32)) K dX10_till_9 (by decide) ?_
    obtain rfl := Option.some.inj h
    exact RT _ _ dX10_till_11
theorem cM_till {l : Launch} {D : va_G} {c : Nat → ClassId} {ad : Nat → Nat} {s s' : SS} {x1 : Int32} {x2 : Int32} {r : Int32} (h : M_till s x1 x2 = some (r, s')) : Ci l D c yX10_till cX10_till 7 (some .int) 9 [.ref (ad 0), .int x1, .int x2] (wM ad c s) r (wM ad c s') := Ci.of (by decide) (Nat.le_of_ble_eq_true rfl) (fun X K RT => wM_till K (r := (r, s')) RT s x1 x2 h)
set_option maxHeartbeats 4000000 in
set_option maxRecDepth 100000 in
theorem wM_waiting_75 {ad : Nat → Nat} {X : Cx} {c : Nat → ClassId} (K : Ok X cX10_waiting RX10 6 9 c) {r : Int32 × SS} (RT : ∀ pc ls, decode cX10_waiting pc = .ok (.ireturn, 1) → V X 6 0 0 pc ls [.int r.1] (wM ad c r.2)) : ∀ (y0 : Int32) (s : SS), M_waiting_75 y0 s = some r → V X 6 0 0 75 [] [.int y0] (wM ad c s) := by
  intro y0 s h
  rw [M_waiting_75] at h
  obtain rfl := Option.some.inj h
  exact RT _ _ dX10_waiting_75
set_option maxHeartbeats 4000000 in
set_option maxRecDepth 100000 in
theorem wM_waiting_60 {ad : Nat → Nat} {X : Cx} {c : Nat → ClassId} (K : Ok X cX10_waiting RX10 6 9 c) {r : Int32 × SS} (RT : ∀ pc ls, decode cX10_waiting pc = .ok (.ireturn, 1) → V X 6 0 0 pc ls [.int r.1] (wM ad c r.2)) {k29 : Int32 → Int32 → Int32 → Int32 → SS → Option (Int32 × SS)} (hk29 : ∀ (x1 : Int32) (x2 : Int32) (x3 : Int32) (x4 : Int32) (s : SS), k29 x1 x2 x3 x4 s = some r → V X 6 0 0 29 [(0, .ref (ad 0)), (1, .int x1), (2, .int x2), (3, .int x3), (4, .int x4)] [] (wM ad c s)) : ∀ (x1 : Int32) (x2 : Int32) (x3 : Int32) (x4 : Int32) (s : SS), M_waiting_60 k29 x1 x2 x3 x4 s = some r → V X 6 0 0 60 [(0, .ref (ad 0)), (1, .int x1), (2, .int x2), (3, .int x3), (4, .int x4)] [] (wM ad c s) := by
  intro x1 x2 x3 x4 s h
  rw [M_waiting_60] at h
  refine v_iinc (v := (x4 + (1 : Int32))) K 4 [(0, .ref (ad 0)), (1, .int x1), (2, .int x2), (3, .int x3), (4, .int (x4 + (1 : Int32)))] [1, 2, 3, 4, 0] dX10_waiting_60 rfl rfl (by decide) rfl ?_
  refine v_goto K 29 dX10_waiting_63 (by decide) ?_
  exact hk29 _ _ _ _ _ h
set_option maxHeartbeats 4000000 in
set_option maxRecDepth 100000 in
theorem wM_waiting_29 {ad : Nat → Nat} {X : Cx} {c : Nat → ClassId} (K : Ok X cX10_waiting RX10 6 9 c) {r : Int32 × SS} (RT : ∀ pc ls, decode cX10_waiting pc = .ok (.ireturn, 1) → V X 6 0 0 pc ls [.int r.1] (wM ad c r.2)) : ∀ (n : Nat) (x1 : Int32) (x2 : Int32) (x3 : Int32) (x4 : Int32) (s : SS), M_waiting_29 n x1 x2 x3 x4 s = some r → V X 6 0 0 29 [(0, .ref (ad 0)), (1, .int x1), (2, .int x2), (3, .int x3), (4, .int x4)] [] (wM ad c s) := by
  intro n
  induction n with
  | zero => intro _ _ _ _ _ h; cases h
  | succ n ih =>
    intro x1 x2 x3 x4 s h
    rw [M_waiting_29] at h
    refine v_iload K 4 rfl dX10_waiting_29 ?_
    refine v_bipush (v := (30 : Int32)) K dX10_waiting_31 (by decide) ?_
    refine v_icmp_gt K 66 dX10_waiting_33 (by decide) (fun q8 => ?_) (fun q8 => ?_)
    · replace h := if_e h q8
      refine v_iload_n K 1 rfl dX10_waiting_66 ?_
      refine v_if_ne K 74 dX10_waiting_67 (by decide) (fun q9 => ?_) (fun q9 => ?_)
      · replace h := if_n h q9
        refine v_iload_n K 3 rfl dX10_waiting_74 ?_
        refine v_drop [] [] rfl ?_
        exact wM_waiting_75 K RT _ _ h
      · replace h := if_e h q9
        refine v_iload_n K 2 rfl dX10_waiting_70 ?_
        refine v_goto K 75 dX10_waiting_71 (by decide) ?_
        refine v_drop [] [] rfl ?_
        exact wM_waiting_75 K RT _ _ h
    · replace h := if_n h q8
      refine v_aload_n K 0 rfl dX10_waiting_36 ?_
      refine v_aload_n K 0 rfl dX10_waiting_37 ?_
      refine gM_8 (v := (s 0 8)) K dX10_waiting_38 rfl ?_
      refine v_iload K 4 rfl dX10_waiting_41 ?_
      obtain ⟨r12, s11, e10, h⟩ := bnd_e h
      refine vM_calli K [.int (s 0 8), .int x4] [] cw_RX10_260 (cM_coinBy e10) rfl rfl (Nat.le_of_ble_eq_true rfl) (by decide) dX10_waiting_43 ?_
      refine v_istore K [(0, .ref (ad 0)), (1, .int x1), (2, .int x2), (3, .int x3), (4, .int x4), (5, .int r12)] [1, 2, 3, 4, 5, 0] dX10_waiting_46 (by decide) rfl ?_
      refine v_iload K 5 rfl dX10_waiting_48 ?_
      refine v_iload_n K 3 rfl dX10_waiting_50 ?_
      refine v_icmp_le K 60 dX10_waiting_51 (by decide) (fun q13 => ?_) (fun q13 => ?_)
      · replace h := if_e h q13
        refine v_drop [(0, .ref (ad 0)), (1, .int x1), (2, .int x2), (3, .int x3), (4, .int x4)] [0, 1, 2, 3, 4] rfl ?_
        exact wM_waiting_60 K RT (fun a0 a1 a2 a3 a4 e => ih a0 a1 a2 a3 a4 e) _ _ _ _ _ h
      · replace h := if_n h q13
        refine v_iload K 5 rfl dX10_waiting_54 ?_
        refine v_istore_n K [(0, .ref (ad 0)), (1, .int x1), (3, .int r12), (4, .int x4)] [1, 2, 0, 4] dX10_waiting_56 rfl (by decide) rfl ?_
        refine v_iload K 3 rfl dX10_waiting_57 ?_
        refine v_istore_n K [(0, .ref (ad 0)), (1, .int x1), (2, .int x4), (3, .int r12), (4, .int x4)] [1, 2, 0, 3, 4] dX10_waiting_59 rfl (by decide) rfl ?_
        exact wM_waiting_60 K RT (fun a0 a1 a2 a3 a4 e => ih a0 a1 a2 a3 a4 e) _ _ _ _ _ h
set_option maxHeartbeats 4000000 in
set_option maxRecDepth 100000 in
theorem wM_waiting {ad : Nat → Nat} {X : Cx} {c : Nat → ClassId} (K : Ok X cX10_waiting RX10 6 9 c) {r : Int32 × SS} (RT : ∀ pc ls, decode cX10_waiting pc = .ok (.ireturn, 1) → V X 6 0 0 pc ls [.int r.1] (wM ad c r.2)) (s : SS) (x1 : Int32) (h : M_waiting s x1 = some r) : V X 6 0 0 0 [(0, .ref (ad 0)), (1, .int x1)] [] (wM ad c s) := by
  rw [M_waiting] at h
  refine v_iload_n K 1 rfl dX10_waiting_0 ?_
  refine v_iconst (v := (0 : Int32)) K dX10_waiting_1 (by decide) ?_
  refine v_iconst (v := (1 : Int32)) K dX10_waiting_2 (by decide) ?_
  obtain ⟨r2, e1, h⟩ := bnd0_e h
  refine v_callsi K [.int x1, .int (0 : Int32), .int (1 : Int32)] [] cw_RX10_104 (cM_within e1) rfl rfl (Nat.le_of_ble_eq_true rfl) (by decide) z0 dX10_waiting_3 ?_
  refine v_if_ne K 12 dX10_waiting_6 (by decide) (fun q3 => ?_) (fun q3 => ?_)
  · replace h := if_n h q3
    refine v_aload_n K 0 rfl dX10_waiting_12 ?_
    obtain ⟨r6, s5, e4, h⟩ := bnd_e h
    refine vM_calli K [] [] cw_RX10_152 (cM_isCafe e4) rfl rfl (Nat.le_of_ble_eq_true rfl) (by decide) dX10_waiting_13 ?_
    refine v_if_ne K 22 dX10_waiting_16 (by decide) (fun q7 => ?_) (fun q7 => ?_)
    · replace h := if_n h q7
      refine v_iconst (v := (0 : Int32)) K dX10_waiting_22 (by decide) ?_
      refine v_istore_n K [(0, .ref (ad 0)), (1, .int x1), (2, .int (0 : Int32))] [1, 2, 0] dX10_waiting_23 rfl (by decide) rfl ?_
      refine v_iconst (v := (-1 : Int32)) K dX10_waiting_24 (by decide) ?_
      refine v_istore_n K [(0, .ref (ad 0)), (1, .int x1), (2, .int (0 : Int32)), (3, .int (-1 : Int32))] [1, 2, 3, 0] dX10_waiting_25 rfl (by decide) rfl ?_
      refine v_iconst (v := (0 : Int32)) K dX10_waiting_26 (by decide) ?_
      refine v_istore K [(0, .ref (ad 0)), (1, .int x1), (2, .int (0 : Int32)), (3, .int (-1 : Int32)), (4, .int (0 : Int32))] [1, 2, 3, 4, 0] dX10_waiting_27 (by decide) rfl ?_
      exact wM_waiting_29 K RT fuel _ _ _ _ _ h
    · replace h := if_e h q7
      refine v_bipush (v := (-3 : Int32)) K dX10_waiting_19 (by decide) ?_
      obtain rfl := Option.some.inj h
      exact RT _ _ dX10_waiting_21
  · replace h := if_e h q3
    refine v_bipush (v := (-2 : Int32)) K dX10_waiting_9 (by decide) ?_
    obtain rfl := Option.some.inj h
    exact RT _ _ dX10_waiting_11
theorem cM_waiting {l : Launch} {D : va_G} {c : Nat → ClassId} {ad : Nat → Nat} {s s' : SS} {x1 : Int32} {r : Int32} (h : M_waiting s x1 = some (r, s')) : Ci l D c yX10_waiting cX10_waiting 6 (some .int) 9 [.ref (ad 0), .int x1] (wM ad c s) r (wM ad c s') := Ci.of (by decide) (Nat.le_of_ble_eq_true rfl) (fun X K RT => wM_waiting K (r := (r, s')) RT s x1 h)
set_option maxHeartbeats 4000000 in
set_option maxRecDepth 100000 in
theorem wM_worth {ad : Nat → Nat} {X : Cx} {c : Nat → ClassId} (K : Ok X cX10_worth RX10 3 9 c) {r : Int64 × SS} (RT : ∀ pc ls, decode cX10_worth pc = .ok (.lreturn, 1) → V X 3 0 0 pc ls [.long r.1] (wM ad c r.2)) (s : SS) (x1 : Int32) (h : M_worth s x1 = some r) : V X 3 0 0 0 [(0, .ref (ad 0)), (1, .int x1)] [] (wM ad c s) := by
  rw [M_worth] at h
  refine v_aload_n K 0 rfl dX10_worth_0 ?_
  refine v_iload_n K 1 rfl dX10_worth_1 ?_
  obtain ⟨r3, s2, e1, h⟩ := bnd_e h
  refine vM_calli K [.int x1] [] cw_RX10_156 (cM_isGroup e1) rfl rfl (Nat.le_of_ble_eq_true rfl) (by decide) dX10_worth_2 ?_
  refine v_if_ne K 12 dX10_worth_5 (by decide) (fun q4 => ?_) (fun q4 => ?_)
  · replace h := if_n h q4
    refine v_aload_n K 0 rfl dX10_worth_12 ?_
    obtain ⟨r7, s6, e5, h⟩ := bnd_e h
    refine vM_calli K [] [] cw_RX10_242 (cM_coinNow e5) rfl rfl (Nat.le_of_ble_eq_true rfl) (by decide) dX10_worth_13 ?_
    refine v_istore_n K [(0, .ref (ad 0)), (1, .int x1), (2, .int r7)] [1, 2, 0] dX10_worth_16 rfl (by decide) rfl ?_
    refine v_aload_n K 0 rfl dX10_worth_17 ?_
    refine v_iload_n K 1 rfl dX10_worth_18 ?_
    refine pM_29 K dX10_worth_19 ?_
    refine v_aload_n K 0 rfl dX10_worth_22 ?_
    obtain ⟨s9, e8, h⟩ := bnd0_e h
    refine vM_callv K [] [] cw_RX10_236 (cM_goDay e8) rfl rfl (Nat.le_of_ble_eq_true rfl) (by decide) dX10_worth_23 ?_
    refine v_iload_n K 2 rfl dX10_worth_26 ?_
    refine v_aload_n K 0 rfl dX10_worth_27 ?_
    obtain ⟨r12, s11, e10, h⟩ := bnd_e h
    refine vM_calli K [] [.int r7] cw_RX10_239 (cM_allCoin e10) rfl rfl (Nat.le_of_ble_eq_true rfl) (by decide) dX10_worth_28 ?_
    refine v_isub K dX10_worth_31 ?_
    refine v_i2l K dX10_worth_32 ?_
    obtain rfl := Option.some.inj h
    exact RT _ _ dX10_worth_33
  · replace h := if_e h q4
    refine v_ldc2 (v := (-9223372036854775808 : Int64)) K kM_102 dX10_worth_8 ?_
    obtain rfl := Option.some.inj h
    exact RT _ _ dX10_worth_11
theorem cM_worth {l : Launch} {D : va_G} {c : Nat → ClassId} {ad : Nat → Nat} {s s' : SS} {x1 : Int32} {r : Int64} (h : M_worth s x1 = some (r, s')) : Cl l D c yX10_worth cX10_worth 3 (some .long) 9 [.ref (ad 0), .int x1] (wM ad c s) r (wM ad c s') := Cl.of (by decide) (Nat.le_of_ble_eq_true rfl) (fun X K RT => wM_worth K (r := (r, s')) RT s x1 h)
