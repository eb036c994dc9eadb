def G0 : GG := (fun _ => none, [], fun _ => 0, fun _ _ => 0)
def s0C : SS := up2 (up2 (fun _ _ => 0) 1 5 (-9)) 4 5 (-9)
def s0M : SS := ups (up2 (fun _ _ => 0) 0 11 (-9)) 2 (upd (upd (upd (upd (fun _ => 0) 0 (-9)) 1 (-9)) 2 (-9)) 3 (-9))
def adOf (l : List Nat) : Nat → Nat := fun i => l.getD i 0
theorem nI_ix {t L j : Nat} {x3 jj : Int32} (ex : x3 = nI (7 * t)) (hj : jj = nI j) (hL : L ≤ 3584) (h : 7 * t + 7 ≤ L) (h7 : j < 7) : vp_in (x3 + jj) L := by
  rw [ex, hj, nI_add]; exact vp_in_nI (by omega) (by omega)
set_option maxHeartbeats 8000000 in
set_option maxRecDepth 100000 in
theorem law_loop {X : Cx} {c : Nat → ClassId} {ad bd : Nat → Nat} {b L : Nat} {xv : Nat → Int32} {Rel : GG → SS → SS → Prop} (hL : L ≤ 3584) (HS : AllSteps Rel) (hgok : ∀ G s m, Rel G s m → gok G) (hfg : ∀ G s, ∃ s2, CT_forget G s = some s2) (K : Ok X code RL 4 1000 c) (hX : va_X b L xv (xs X) (xs X).heap) (hbl : b < (xs X).heap.size) (hbA : ¬ xA X b) (hRc : (xR X).cells = 600000) (hRs : (xR X).slots = 7302250) (END : ∀ kc ks ls ws, kc ≤ 600000 → ks ≤ 7302250 → V X 4 kc ks 1188 ls [.int 1] ws) :
    ∀ (n t : Nat) (x3 : Int32) (G : GG) (s m : SS), x3 = nI (7 * t) → 7 * t ≤ L → L < 7 * t + 7 * n → Rel G s m → V X 4 (74 + t) (1639 + 6 * t) 18 [(0, .ref b), (1, .ref (ad 0)), (2, .ref (bd 0)), (3, .int x3)] [] (wC ad c G s ++ wM bd c m) := by
  intro n
  induction n with
  | zero => intro t x3 G s m _ h1 h2; exact absurd h2 (by omega)
  | succ n ih =>
    intro t x3 G s m ex ht hn hRel
    refine v_iload_n K 3 rfl dL_law_18 ?_
    refine v_aload_n K 0 rfl dL_law_19 ?_
    refine v_slen K hX hbl hbA dL_law_20 ?_
    refine v_bipush (v := (7 : Int32)) K dL_law_21 (by decide) ?_
    refine v_isub K dL_law_23 ?_
    refine v_icmp_gt K 1187 dL_law_24 (by decide) (fun _ => ?_) (fun q => ?_)
    · refine v_iconst (v := (1 : Int32)) K dL_law_1187 (by decide) ?_
      exact END _ _ _ _ (by omega) (by omega)
    have h7 : 7 * t + 7 ≤ L := by
      rw [Int32.lt_iff_toInt_lt, ex, show (7 : Int32) = nI 7 from by decide, pk_sub_toInt (by omega) (by omega), nI_toInt (by omega)] at q
      omega
    have h0 : vp_in x3 L := by rw [ex]; exact vp_in_nI (by omega) (by omega)
    have h1 : vp_in (x3 + (1 : Int32)) L := nI_ix ex (j := 1) (by decide) hL h7 (by omega)
    have h2 : vp_in (x3 + (2 : Int32)) L := nI_ix ex (j := 2) (by decide) hL h7 (by omega)
    have h3 : vp_in (x3 + (3 : Int32)) L := nI_ix ex (j := 3) (by decide) hL h7 (by omega)
    have h4 : vp_in (x3 + (4 : Int32)) L := nI_ix ex (j := 4) (by decide) hL h7 (by omega)
    have h5 : vp_in (x3 + (5 : Int32)) L := nI_ix ex (j := 5) (by decide) hL h7 (by omega)
    have h6 : vp_in (x3 + (6 : Int32)) L := nI_ix ex (j := 6) (by decide) hL h7 (by omega)
    have hk : 74 + t + 1 ≤ (xR X).cells ∧ 1639 + 6 * t + 6 ≤ (xR X).slots := by rw [hRc, hRs]; omega
    have NXT : ∀ G s m, Rel G s m → V X 4 (74 + t + 1) (1639 + 6 * t + 6) 1181 [(0, .ref b), (1, .ref (ad 0)), (2, .ref (bd 0)), (3, .int x3)] [] (wC ad c G s ++ wM bd c m) := by
      intro G s m hr
      refine v_iinc (v := x3 + 7) K 3 [(0, .ref b), (1, .ref (ad 0)), (2, .ref (bd 0)), (3, .int (x3 + 7))] [1, 2, 3, 0] dL_law_1181 rfl rfl (by decide) rfl ?_
      refine v_goto K 18 dL_law_1184 (by decide) ?_
      exact ih (t + 1) (x3 + 7) G s m (by rw [ex, show (7 : Int32) = nI 7 from by decide, nI_add]; congr 1) (by omega) (by omega) hr
    refine v_aload_n K 0 rfl dL_law_27 ?_
    refine v_iload_n K 3 rfl dL_law_28 ?_
    refine v_sld K hX hbl hbA h0 dL_law_29 ?_
    refine v_bipush (v := (31 : Int32)) K dL_law_30 (by decide) ?_
    refine v_iand K dL_law_32 ?_
    by_cases q0 : (xv x3.toNatClampNeg &&& (31 : Int32)) = (0 : Int32)
    · refine v_tableIn (off := 135) K 168 dL_law_33 (by rw [q0]; decide) (by rw [q0]; decide) (by rw [q0]; rfl) (by decide) ?_
      exact lc_0 HS hgok hfg K hX hbl hbA h1 h2 h3 h4 h5 h6 hk hRel NXT
    by_cases q1 : (xv x3.toNatClampNeg &&& (31 : Int32)) = (1 : Int32)
    · refine v_tableIn (off := 188) K 221 dL_law_33 (by rw [q1]; decide) (by rw [q1]; decide) (by rw [q1]; rfl) (by decide) ?_
      exact lc_1 HS hgok hfg K hX hbl hbA h1 h2 h3 h4 h5 h6 hk hRel NXT
    by_cases q2 : (xv x3.toNatClampNeg &&& (31 : Int32)) = (2 : Int32)
    · refine v_tableIn (off := 221) K 254 dL_law_33 (by rw [q2]; decide) (by rw [q2]; decide) (by rw [q2]; rfl) (by decide) ?_
      exact lc_2 HS hgok hfg K hX hbl hbA h1 h2 h3 h4 h5 h6 hk hRel NXT
    by_cases q3 : (xv x3.toNatClampNeg &&& (31 : Int32)) = (3 : Int32)
    · refine v_tableIn (off := 244) K 277 dL_law_33 (by rw [q3]; decide) (by rw [q3]; decide) (by rw [q3]; rfl) (by decide) ?_
      exact lc_3 HS hgok hfg K hX hbl hbA h1 h2 h3 h4 h5 h6 hk hRel NXT
    by_cases q4 : (xv x3.toNatClampNeg &&& (31 : Int32)) = (4 : Int32)
    · refine v_tableIn (off := 267) K 300 dL_law_33 (by rw [q4]; decide) (by rw [q4]; decide) (by rw [q4]; rfl) (by decide) ?_
      exact lc_4 HS hgok hfg K hX hbl hbA h1 h2 h3 h4 h5 h6 hk hRel NXT
    by_cases q5 : (xv x3.toNatClampNeg &&& (31 : Int32)) = (5 : Int32)
    · refine v_tableIn (off := 306) K 339 dL_law_33 (by rw [q5]; decide) (by rw [q5]; decide) (by rw [q5]; rfl) (by decide) ?_
      exact lc_5 HS hgok hfg K hX hbl hbA h1 h2 h3 h4 h5 h6 hk hRel NXT
    by_cases q6 : (xv x3.toNatClampNeg &&& (31 : Int32)) = (6 : Int32)
    · refine v_tableIn (off := 329) K 362 dL_law_33 (by rw [q6]; decide) (by rw [q6]; decide) (by rw [q6]; rfl) (by decide) ?_
      exact lc_6 HS hgok hfg K hX hbl hbA h1 h2 h3 h4 h5 h6 hk hRel NXT
    by_cases q7 : (xv x3.toNatClampNeg &&& (31 : Int32)) = (7 : Int32)
    · refine v_tableIn (off := 404) K 437 dL_law_33 (by rw [q7]; decide) (by rw [q7]; decide) (by rw [q7]; rfl) (by decide) ?_
      exact lc_7 HS hgok hfg K hX hbl hbA h1 h2 h3 h4 h5 h6 hk hRel NXT
    by_cases q8 : (xv x3.toNatClampNeg &&& (31 : Int32)) = (8 : Int32)
    · refine v_tableIn (off := 437) K 470 dL_law_33 (by rw [q8]; decide) (by rw [q8]; decide) (by rw [q8]; rfl) (by decide) ?_
      exact lc_8 HS hgok hfg K hX hbl hbA h1 h2 h3 h4 h5 h6 hk hRel NXT
    by_cases q9 : (xv x3.toNatClampNeg &&& (31 : Int32)) = (9 : Int32)
    · refine v_tableIn (off := 470) K 503 dL_law_33 (by rw [q9]; decide) (by rw [q9]; decide) (by rw [q9]; rfl) (by decide) ?_
      exact lc_9 HS hgok hfg K hX hbl hbA h1 h2 h3 h4 h5 h6 hk hRel NXT
    by_cases q10 : (xv x3.toNatClampNeg &&& (31 : Int32)) = (10 : Int32)
    · refine v_tableIn (off := 503) K 536 dL_law_33 (by rw [q10]; decide) (by rw [q10]; decide) (by rw [q10]; rfl) (by decide) ?_
      exact lc_10 HS hgok hfg K hX hbl hbA h1 h2 h3 h4 h5 h6 hk hRel NXT
    by_cases q11 : (xv x3.toNatClampNeg &&& (31 : Int32)) = (11 : Int32)
    · refine v_tableIn (off := 516) K 549 dL_law_33 (by rw [q11]; decide) (by rw [q11]; decide) (by rw [q11]; rfl) (by decide) ?_
      exact lc_11 HS hgok hfg K hX hbl hbA h1 h2 h3 h4 h5 h6 hk hRel NXT
    by_cases q12 : (xv x3.toNatClampNeg &&& (31 : Int32)) = (12 : Int32)
    · refine v_tableIn (off := 540) K 573 dL_law_33 (by rw [q12]; decide) (by rw [q12]; decide) (by rw [q12]; rfl) (by decide) ?_
      exact lc_12 HS hgok hfg K hX hbl hbA h1 h2 h3 h4 h5 h6 hk hRel NXT
    by_cases q13 : (xv x3.toNatClampNeg &&& (31 : Int32)) = (13 : Int32)
    · refine v_tableIn (off := 563) K 596 dL_law_33 (by rw [q13]; decide) (by rw [q13]; decide) (by rw [q13]; rfl) (by decide) ?_
      exact lc_13 HS hgok hfg K hX hbl hbA h1 h2 h3 h4 h5 h6 hk hRel NXT
    by_cases q14 : (xv x3.toNatClampNeg &&& (31 : Int32)) = (14 : Int32)
    · refine v_tableIn (off := 586) K 619 dL_law_33 (by rw [q14]; decide) (by rw [q14]; decide) (by rw [q14]; rfl) (by decide) ?_
      exact lc_14 HS hgok hfg K hX hbl hbA h1 h2 h3 h4 h5 h6 hk hRel NXT
    by_cases q15 : (xv x3.toNatClampNeg &&& (31 : Int32)) = (15 : Int32)
    · refine v_tableIn (off := 609) K 642 dL_law_33 (by rw [q15]; decide) (by rw [q15]; decide) (by rw [q15]; rfl) (by decide) ?_
      exact lc_15 HS hgok hfg K hX hbl hbA h1 h2 h3 h4 h5 h6 hk hRel NXT
    by_cases q16 : (xv x3.toNatClampNeg &&& (31 : Int32)) = (16 : Int32)
    · refine v_tableIn (off := 642) K 675 dL_law_33 (by rw [q16]; decide) (by rw [q16]; decide) (by rw [q16]; rfl) (by decide) ?_
      exact lc_16 HS hgok hfg K hX hbl hbA h1 h2 h3 h4 h5 h6 hk hRel NXT
    by_cases q17 : (xv x3.toNatClampNeg &&& (31 : Int32)) = (17 : Int32)
    · refine v_tableIn (off := 675) K 708 dL_law_33 (by rw [q17]; decide) (by rw [q17]; decide) (by rw [q17]; rfl) (by decide) ?_
      exact lc_17 HS hgok hfg K hX hbl hbA h1 h2 h3 h4 h5 h6 hk hRel NXT
    by_cases q18 : (xv x3.toNatClampNeg &&& (31 : Int32)) = (18 : Int32)
    · refine v_tableIn (off := 751) K 784 dL_law_33 (by rw [q18]; decide) (by rw [q18]; decide) (by rw [q18]; rfl) (by decide) ?_
      exact lc_18 HS hgok hfg K hX hbl hbA h1 h2 h3 h4 h5 h6 hk hRel NXT
    by_cases q19 : (xv x3.toNatClampNeg &&& (31 : Int32)) = (19 : Int32)
    · refine v_tableIn (off := 804) K 837 dL_law_33 (by rw [q19]; decide) (by rw [q19]; decide) (by rw [q19]; rfl) (by decide) ?_
      exact lc_19 HS hgok hfg K hX hbl hbA h1 h2 h3 h4 h5 h6 hk hRel NXT
    by_cases q20 : (xv x3.toNatClampNeg &&& (31 : Int32)) = (20 : Int32)
    · refine v_tableIn (off := 847) K 880 dL_law_33 (by rw [q20]; decide) (by rw [q20]; decide) (by rw [q20]; rfl) (by decide) ?_
      exact lc_20 HS hgok hfg K hX hbl hbA h1 h2 h3 h4 h5 h6 hk hRel NXT
    by_cases q21 : (xv x3.toNatClampNeg &&& (31 : Int32)) = (21 : Int32)
    · refine v_tableIn (off := 870) K 903 dL_law_33 (by rw [q21]; decide) (by rw [q21]; decide) (by rw [q21]; rfl) (by decide) ?_
      exact lc_21 HS hgok hfg K hX hbl hbA h1 h2 h3 h4 h5 h6 hk hRel NXT
    by_cases q22 : (xv x3.toNatClampNeg &&& (31 : Int32)) = (22 : Int32)
    · refine v_tableIn (off := 913) K 946 dL_law_33 (by rw [q22]; decide) (by rw [q22]; decide) (by rw [q22]; rfl) (by decide) ?_
      exact lc_22 HS hgok hfg K hX hbl hbA h1 h2 h3 h4 h5 h6 hk hRel NXT
    by_cases q23 : (xv x3.toNatClampNeg &&& (31 : Int32)) = (23 : Int32)
    · refine v_tableIn (off := 957) K 990 dL_law_33 (by rw [q23]; decide) (by rw [q23]; decide) (by rw [q23]; rfl) (by decide) ?_
      exact lc_23 HS hgok hfg K hX hbl hbA h1 h2 h3 h4 h5 h6 hk hRel NXT
    by_cases q24 : (xv x3.toNatClampNeg &&& (31 : Int32)) = (24 : Int32)
    · refine v_tableIn (off := 1020) K 1053 dL_law_33 (by rw [q24]; decide) (by rw [q24]; decide) (by rw [q24]; rfl) (by decide) ?_
      exact lc_24 HS hgok hfg K hX hbl hbA h1 h2 h3 h4 h5 h6 hk hRel NXT
    by_cases q25 : (xv x3.toNatClampNeg &&& (31 : Int32)) = (25 : Int32)
    · refine v_tableIn (off := 1043) K 1076 dL_law_33 (by rw [q25]; decide) (by rw [q25]; decide) (by rw [q25]; rfl) (by decide) ?_
      exact lc_25 HS hgok hfg K hX hbl hbA h1 h2 h3 h4 h5 h6 hk hRel NXT
    by_cases q26 : (xv x3.toNatClampNeg &&& (31 : Int32)) = (26 : Int32)
    · refine v_tableIn (off := 1066) K 1099 dL_law_33 (by rw [q26]; decide) (by rw [q26]; decide) (by rw [q26]; rfl) (by decide) ?_
      exact lc_26 HS hgok hfg K hX hbl hbA h1 h2 h3 h4 h5 h6 hk hRel NXT
    by_cases q27 : (xv x3.toNatClampNeg &&& (31 : Int32)) = (27 : Int32)
    · refine v_tableIn (off := 1099) K 1132 dL_law_33 (by rw [q27]; decide) (by rw [q27]; decide) (by rw [q27]; rfl) (by decide) ?_
      exact lc_27 HS hgok hfg K hX hbl hbA h1 h2 h3 h4 h5 h6 hk hRel NXT
    by_cases q28 : (xv x3.toNatClampNeg &&& (31 : Int32)) = (28 : Int32)
    · refine v_tableIn (off := 1112) K 1145 dL_law_33 (by rw [q28]; decide) (by rw [q28]; decide) (by rw [q28]; rfl) (by decide) ?_
      exact lc_28 HS hgok hfg K hX hbl hbA h1 h2 h3 h4 h5 h6 hk hRel NXT
    by_cases q29 : (xv x3.toNatClampNeg &&& (31 : Int32)) = (29 : Int32)
    · refine v_tableIn (off := 1125) K 1158 dL_law_33 (by rw [q29]; decide) (by rw [q29]; decide) (by rw [q29]; rfl) (by decide) ?_
      exact lc_29 HS hgok hfg K hX hbl hbA h1 h2 h3 h4 h5 h6 hk hRel NXT
    refine v_tableOut K 1181 dL_law_33 (by have e0 := lv_neT q0 (show ((0 : Int32)).toInt = 0 from by decide); have e1 := lv_neT q1 (show ((1 : Int32)).toInt = 1 from by decide); have e2 := lv_neT q2 (show ((2 : Int32)).toInt = 2 from by decide); have e3 := lv_neT q3 (show ((3 : Int32)).toInt = 3 from by decide); have e4 := lv_neT q4 (show ((4 : Int32)).toInt = 4 from by decide); have e5 := lv_neT q5 (show ((5 : Int32)).toInt = 5 from by decide); have e6 := lv_neT q6 (show ((6 : Int32)).toInt = 6 from by decide); have e7 := lv_neT q7 (show ((7 : Int32)).toInt = 7 from by decide); have e8 := lv_neT q8 (show ((8 : Int32)).toInt = 8 from by decide); have e9 := lv_neT q9 (show ((9 : Int32)).toInt = 9 from by decide); have e10 := lv_neT q10 (show ((10 : Int32)).toInt = 10 from by decide); have e11 := lv_neT q11 (show ((11 : Int32)).toInt = 11 from by decide); have e12 := lv_neT q12 (show ((12 : Int32)).toInt = 12 from by decide); have e13 := lv_neT q13 (show ((13 : Int32)).toInt = 13 from by decide); have e14 := lv_neT q14 (show ((14 : Int32)).toInt = 14 from by decide); have e15 := lv_neT q15 (show ((15 : Int32)).toInt = 15 from by decide); have e16 := lv_neT q16 (show ((16 : Int32)).toInt = 16 from by decide); have e17 := lv_neT q17 (show ((17 : Int32)).toInt = 17 from by decide); have e18 := lv_neT q18 (show ((18 : Int32)).toInt = 18 from by decide); have e19 := lv_neT q19 (show ((19 : Int32)).toInt = 19 from by decide); have e20 := lv_neT q20 (show ((20 : Int32)).toInt = 20 from by decide); have e21 := lv_neT q21 (show ((21 : Int32)).toInt = 21 from by decide); have e22 := lv_neT q22 (show ((22 : Int32)).toInt = 22 from by decide); have e23 := lv_neT q23 (show ((23 : Int32)).toInt = 23 from by decide); have e24 := lv_neT q24 (show ((24 : Int32)).toInt = 24 from by decide); have e25 := lv_neT q25 (show ((25 : Int32)).toInt = 25 from by decide); have e26 := lv_neT q26 (show ((26 : Int32)).toInt = 26 from by decide); have e27 := lv_neT q27 (show ((27 : Int32)).toInt = 27 from by decide); have e28 := lv_neT q28 (show ((28 : Int32)).toInt = 28 from by decide); have e29 := lv_neT q29 (show ((29 : Int32)).toInt = 29 from by decide); omega) (by decide) ?_
    exact v_widen (Nat.le_succ _) (Nat.le_add_right _ 6) (NXT _ _ _ hRel)
theorem tk_RL_7 : Cond.classLink RL 7 RX9 ∈ BG := (BG_ix 74 (by decide +kernel) rfl)
theorem tn_9 : Cond.instantiable RX9 15 ∈ BG := (BG_ix 75 (by decide +kernel) rfl)
theorem ti_9 : Cond.initialized RX9 ∈ BG := (BG_ix 60 (by decide +kernel) rfl)
theorem tw_RL_9 : cwIok RL 9 yX9_init cX9_init 2 0 := ⟨⟨by decide, by decide, by decide +kernel⟩, rfl, by decide, all3 (BG_ix 76 (by decide +kernel) rfl) (BG_ix 77 (by decide +kernel) rfl) (BG_ix 60 (by decide +kernel) rfl), (BG_ix 78 (by decide +kernel) rfl)⟩
theorem tk_RL_10 : Cond.classLink RL 10 RX10 ∈ BG := (BG_ix 782 (by decide +kernel) rfl)
theorem tn_10 : Cond.instantiable RX10 44 ∈ BG := (BG_ix 783 (by decide +kernel) rfl)
theorem ti_10 : Cond.initialized RX10 ∈ BG := (BG_ix 67 (by decide +kernel) rfl)
theorem tw_RL_12 : cwIok RL 12 yX10_init cX10_init 1 0 := ⟨⟨by decide, by decide, by decide +kernel⟩, rfl, by decide, all3 (BG_ix 784 (by decide +kernel) rfl) (BG_ix 785 (by decide +kernel) rfl) (BG_ix 67 (by decide +kernel) rfl), (BG_ix 786 (by decide +kernel) rfl)⟩
theorem sh_eq (a b d e : Nat) (ad : Nat → Nat) (h0 : ad 10 = a) (h1 : ad 11 = b) (h2 : ad 12 = d) (h3 : ad 13 = e) : va_up (va_up (va_up (va_up (fun _ => none) 0 (some a)) 1 (some b)) 2 (some d)) 3 (some e) = shA ad := by
  funext j
  match j with
  | 0 => simp [va_up, shA, h0]
  | 1 => simp [va_up, shA, h1]
  | 2 => simp [va_up, shA, h2]
  | 3 => simp [va_up, shA, h3]
  | j + 4 => simp [va_up, shA]
set_option maxHeartbeats 8000000 in
set_option maxRecDepth 100000 in
theorem law_start {X : Cx} {c : Nat → ClassId} {b L : Nat} {xv : Nat → Int32} {Rel : GG → SS → SS → Prop} (hL : L ≤ 3584) (HS : AllSteps Rel) (hgok : ∀ G s m, Rel G s m → gok G) (hfg : ∀ G s, ∃ s2, CT_forget G s = some s2) (hR0 : Rel G0 s0C s0M) (K : Ok X code RL 4 1000 c) (hX : va_X b L xv (xs X) (xs X).heap) (hbl : b < (xs X).heap.size) (hbA : ¬ xA X b) (hRc : (xR X).cells = 600000) (hRs : (xR X).slots = 7302250) (END : ∀ kc ks ls ws, kc ≤ 600000 → ks ≤ 7302250 → V X 4 kc ks 1188 ls [.int 1] ws) : V X 4 0 0 0 [(0, .ref b)] [] [] := by
  refine v_new (ci := 9) (fs := [.null, .null, .null, .null, .null, .null, .null, .null, .null, .null, .int 0, .int 0, .int 0, .int 0, .int 0]) K inC9 tyX9 tyX9_ok tk_RL_7 tn_9 ti_9 rfl dv_9 (by rw [hRc]; decide) (by rw [hRs]; decide) dL_law_0 (fun h0 => ?_)
  refine v_dup K dL_law_3 rfl ?_
  refine v_ctor1 (ws := []) K [] [.ref h0] tw_RL_9 (cN_Cafe h0) rfl rfl (Nat.le_of_ble_eq_true rfl) (by decide) ⟨by rw [hRc]; decide, by rw [hRs]; decide⟩ dL_law_4 (fun u hu => ?_)
  obtain ⟨q1, q2, q3, q5, q6, q7, q9, q10, q12, q13, q14, q16, q17, q19, q20, q22, q23, q25, q27, q28, q29, q30, q31, q32, q33, q34, q36, q37, q38, q39, q40, q41, q42, q43, q45, q46, q47, q48, q49, q50, q51, q52, q54, q55, rfl⟩ := hu
  rw [sh_eq q13 q16 q19 q22 (adOf [h0, q1, q2, q3, q5, q6, q7, q9, q10, q12, q13, q16, q19, q22, q14, q17, q20, q23, q25, q27, q28, q29, q30, q31, q32, q33, q34, q36, q37, q38, q39, q40, q41, q42, q43, q45, q46, q47, q48, q49, q50, q51, q52, q54, q55]) rfl rfl rfl rfl]
  refine v_world (ws2 := wC (adOf [h0, q1, q2, q3, q5, q6, q7, q9, q10, q12, q13, q16, q19, q22, q14, q17, q20, q23, q25, q27, q28, q29, q30, q31, q32, q33, q34, q36, q37, q38, q39, q40, q41, q42, q43, q45, q46, q47, q48, q49, q50, q51, q52, q54, q55]) c G0 s0C) [0, 1, 2, 3, 4, 5, 6, 27, 7, 8, 9, 11, 13, 15, 10, 12, 14, 16, 17, 18, 19, 20, 21, 22, 23, 24, 25, 26, 28, 29, 30, 31, 32, 33, 34, 35, 36, 37, 38, 39, 40, 41, 42, 43, 44] rfl (by decide) ?_
  refine v_astore_n K [(0, .ref b), (1, .ref h0)] [1, 0] dL_law_7 rfl (by decide) rfl ?_
  refine v_new (ci := 10) (fs := [.int 0, .int 0, .null, .null, .null, .int 0, .null, .null, .int 0, .int 0, .int 0, .int 0, .int 0, .int 0, .null, .null, .int 0, .null, .null, .null, .null, .null, .null, .int 0, .null, .null, .int 0, .int 0, .int 0, .int 0, .null, .null, .null, .null, .null, .null, .null, .null, .null, .null, .null, .null, .null, .int 0]) K inC10 tyX10 tyX10_ok tk_RL_10 tn_10 ti_10 rfl dv_10 (by rw [hRc]; decide) (by rw [hRs]; decide) dL_law_8 (fun m0 => ?_)
  refine v_dup K dL_law_11 rfl ?_
  refine v_ctor1 K [] [.ref m0] tw_RL_12 (cN_Model m0) rfl rfl (Nat.le_of_ble_eq_true rfl) (by decide) ⟨by rw [hRc]; decide, by rw [hRs]; decide⟩ dL_law_12 (fun u hu => ?_)
  obtain ⟨m1, m2, m3, m4, m5, m6, m7, m8, m9, m10, m11, m12, m13, m14, m15, m16, m17, m18, m19, m20, m21, m22, m23, m24, m25, m26, m27, m28, rfl⟩ := hu
  refine v_world (ws2 := wC (adOf [h0, q1, q2, q3, q5, q6, q7, q9, q10, q12, q13, q16, q19, q22, q14, q17, q20, q23, q25, q27, q28, q29, q30, q31, q32, q33, q34, q36, q37, q38, q39, q40, q41, q42, q43, q45, q46, q47, q48, q49, q50, q51, q52, q54, q55]) c G0 s0C ++ wM (adOf [m0, 0, m1, m2, m3, 0, m4, m5, 0, 0, 0, 0, 0, 0, m6, m7, 0, m8, m9, m10, m11, m12, m13, 0, m14, m15, 0, 0, 0, 0, m16, m17, m18, m19, m20, m21, m22, m23, m24, m25, m26, m27, m28]) c s0M) [0, 1, 2, 3, 4, 5, 6, 7, 8, 9, 10, 11, 12, 13, 14, 15, 16, 17, 18, 19, 20, 21, 22, 23, 24, 25, 26, 27, 28, 29, 30, 31, 32, 33, 34, 35, 36, 37, 38, 39, 40, 41, 42, 43, 44, 45, 46, 47, 48, 49, 50, 51, 52, 53, 54, 55, 56, 57, 58, 59, 60, 61, 62, 63, 64, 65, 66, 67, 68, 69, 70, 71, 72, 73] rfl (by decide) ?_
  refine v_astore_n K [(0, .ref b), (1, .ref h0), (2, .ref m0)] [1, 2, 0] dL_law_15 rfl (by decide) rfl ?_
  refine v_iconst (v := (0 : Int32)) K dL_law_16 (by decide) ?_
  refine v_istore_n K [(0, .ref b), (1, .ref h0), (2, .ref m0), (3, .int (0 : Int32))] [1, 2, 3, 0] dL_law_17 rfl (by decide) rfl ?_
  exact law_loop (ad := adOf [h0, q1, q2, q3, q5, q6, q7, q9, q10, q12, q13, q16, q19, q22, q14, q17, q20, q23, q25, q27, q28, q29, q30, q31, q32, q33, q34, q36, q37, q38, q39, q40, q41, q42, q43, q45, q46, q47, q48, q49, q50, q51, q52, q54, q55]) (bd := adOf [m0, 0, m1, m2, m3, 0, m4, m5, 0, 0, 0, 0, 0, 0, m6, m7, 0, m8, m9, m10, m11, m12, m13, 0, m14, m15, 0, 0, 0, 0, m16, m17, m18, m19, m20, m21, m22, m23, m24, m25, m26, m27, m28]) hL HS hgok hfg K hX hbl hbA hRc hRs END (L + 1) 0 0 G0 s0C s0M (by decide) (by omega) (by omega) hR0
