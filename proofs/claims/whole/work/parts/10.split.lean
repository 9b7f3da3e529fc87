/-- the cells Sp, prime, times -/
abbrev wd0 (cyI cyJ cyZ : ClassId) (q_Sp : Nat) (q_prime : Nat) (q_times : Nat) (q_Pr : Nat) (q_parts : Nat) (sp_unlike : Int32) (sp_number : Int64) (sp_partsKept : Int32) (sp_partsNumber : Int64) (a_prime : Nat → Int64) (a_times : Nat → Int32) : va_W := [(q_Sp, .inr (6, [.ref q_Pr, .ref q_prime, .ref q_times, .int sp_unlike, .long sp_number, .ref q_parts, .int sp_partsKept, .long sp_partsNumber])), (q_prime, .inl (cyJ, 12, .inr (.inl a_prime))), (q_times, .inl (cyI, 12, .inl a_times))]
abbrev rm_X6_takeOut : Room := { frames := 0, cells := 0, slots := 0, locals := 0 }
theorem hd_X6_takeOut : yX6_takeOut.cls ≠ "java/lang/invoke/MethodHandle" ∧ yX6_takeOut.cls ≠ "java/lang/invoke/VarHandle" ∧ (parseMethodDescriptor yX6_takeOut.desc).map (fun d => d.parameters.length) = some 2 := by decide +kernel
theorem iw_X6_takeOut_X6 : ∀ w ∈ wsX60, w ∈ wsX6_takeOut := List.forall_mem_cons.mpr ⟨List.mem_of_getElem? (i := 4) rfl, List.forall_mem_cons.mpr ⟨List.mem_of_getElem? (i := 5) rfl, List.forall_mem_cons.mpr ⟨List.mem_of_getElem? (i := 6) rfl, List.forall_mem_cons.mpr ⟨List.mem_of_getElem? (i := 7) rfl, List.forall_mem_cons.mpr ⟨List.mem_of_getElem? (i := 8) rfl, List.forall_mem_cons.mpr ⟨List.mem_of_getElem? (i := 9) rfl, List.forall_mem_cons.mpr ⟨List.mem_of_getElem? (i := 10) rfl, List.forall_mem_cons.mpr ⟨List.mem_of_getElem? (i := 11) rfl, fun _ h => absurd h List.not_mem_nil⟩⟩⟩⟩⟩⟩⟩⟩
def j_X6_takeOut_46 (N : Nat) (v1 : Int64) (v5 : Int64) (v7 : Int32) (sp_unlike : Int32) (a_prime : Nat → Int64) (a_times : Nat → Int32) : Option (Int64 × Int32 × (Nat → Int64) × (Nat → Int32)) :=
  if (12 : Int32) ≤ sp_unlike then
    some (v5, sp_unlike, a_prime, a_times)
  else
    if sp_unlike < 0 ∨ 12 ≤ sp_unlike.toNatClampNeg then
      none
    else
      xl (sp_unlike + (1 : Int32)) fun y4z =>
      some (v5, y4z, vp_updL a_prime sp_unlike.toNatClampNeg v1, upd a_times sp_unlike.toNatClampNeg v7)
set_option maxRecDepth 100000 in
set_option maxHeartbeats 4000000 in
theorem k_X6_takeOut_46 {p : Program} {l : Launch} {e : Env} {s : State} {m : MethodId} {args : Array Value} {below : List Frame} {meth : Method} {c : Code} {dC : Nat → ClassId} {dI : Nat → Nat → Nat} {cyI cyJ cyZ : ClassId} {A : Nat → Prop} (C0 : mC p s m meth c args cX6_takeOut (some .long) 9 RX6 wsX6_takeOut (gK dC dI cyI cyJ cyZ) A) (N : Nat) (res : Int64 × Int32 × (Nat → Int64) × (Nat → Int32)) (q_Sp : Nat) (q_prime : Nat) (q_times : Nat) (q_Pr : Nat) (q_parts : Nat) (v1 : Int64) (v5 : Int64) (v7 : Int32) (sp_unlike : Int32) (sp_number : Int64) (sp_partsKept : Int32) (sp_partsNumber : Int64) (a_prime : Nat → Int64) (a_times : Nat → Int32) (h : j_X6_takeOut_46 N v1 v5 v7 sp_unlike a_prime a_times = some res) : ∀ (H : Heap) (locs : List Loc), va_P (dC, dI) vwCl (wd0 cyI cyJ cyZ q_Sp q_prime q_times q_Pr q_parts sp_unlike sp_number sp_partsKept sp_partsNumber a_prime a_times) H → va_D A (wd0 cyI cyJ cyZ q_Sp q_prime q_times q_Pr q_parts sp_unlike sp_number sp_partsKept sp_partsNumber a_prime a_times) → va_S A s.heap H locs → ∀ (ls : Array Slot), lv_has ls 9 [(0, .ref q_Sp), (1, .long v1), (5, .long v5), (7, .int v7)] → W p l e (headSpec wsX6_takeOut rm_X6_takeOut).room s m args below meth c H locs 0 0 (MQ below (va_Ql (fun (r : Int64) (_ : Unit) => r = res.1) (bW dC dI (fun (u : Unit) => (wd0 cyI cyJ cyZ q_Sp q_prime q_times q_Pr q_parts res.2.1 sp_number sp_partsKept sp_partsNumber res.2.2.1 res.2.2.2)) A) A) args s 0 0 A) (F0 m 46 ls []) := by
  obtain ⟨hx, hb, hr, hml, hown, hts, hlocks, hG, hA⟩ := id C0
  have hK := hG.1
  intro H locs hP hD hS ls hl
  unfold j_X6_takeOut_46 at h
  refine lv_aload_n hx hb dX6_takeOut_46 rfl (lv_at hl 0 rfl) ?_
  refine va_get (D := (dC, dI)) (ci := 6) (v := .int sp_unlike) (C := RX6) (T := TX6) (N := 8) hx hb hts iw_X6_takeOut_X6 hown hK hP 0 rfl rfl 3 (by decide) (hts (.fieldLink RX6 19 "GoesInto$Split" "unlike" "I") (List.mem_of_getElem? (i := 1) rfl)) (fun _ h9 => h9) rfl dX6_takeOut_47 ?_
  refine lv_bipush (v := (12 : Int32)) hx hb dX6_takeOut_50 (by decide) ?_
  refine lv_icmp_ge (tgt := 86) hx hb dX6_takeOut_52 (by decide) (fun c2z => ?_) (fun c2z => ?_)
  · have h := xt h c2z
    refine lv_lload hx hb dX6_takeOut_86 (lv_at hl 2 rfl) ?_
    obtain rfl := Option.some.inj h
    exact W.lret (v := v5) hx hb hr (fun t ht hW => ⟨⟨_, (), rfl, rfl, by rw [ht]; exact hP, hD⟩, hS.F ht⟩) hS.2.2 dX6_takeOut_88 hlocks
  · have h := xf h c2z
    refine lv_aload_n hx hb dX6_takeOut_55 rfl (lv_at hl 0 rfl) ?_
    refine va_get (D := (dC, dI)) (ci := 6) (v := .ref q_prime) (C := RX6) (T := TX6) (N := 8) hx hb hts iw_X6_takeOut_X6 hown hK hP 0 rfl rfl 1 (by decide) (hts (.fieldLink RX6 11 "GoesInto$Split" "prime" "[J") (List.mem_of_getElem? (i := 2) rfl)) (fun _ h9 => h9) rfl dX6_takeOut_56 ?_
    refine lv_aload_n hx hb dX6_takeOut_59 rfl (lv_at hl 0 rfl) ?_
    refine va_get (D := (dC, dI)) (ci := 6) (v := .int sp_unlike) (C := RX6) (T := TX6) (N := 8) hx hb hts iw_X6_takeOut_X6 hown hK hP 0 rfl rfl 3 (by decide) (hts (.fieldLink RX6 19 "GoesInto$Split" "unlike" "I") (List.mem_of_getElem? (i := 1) rfl)) (fun _ h9 => h9) rfl dX6_takeOut_60 ?_
    refine lv_lload_n hx hb dX6_takeOut_63 rfl (lv_at hl 1 rfl) ?_
    obtain ⟨b3z, h⟩ := xn h
    refine va_last hx hb hK hP hD hS 1 1 rfl rfl b3z dX6_takeOut_64 (fun H locs hP hD hS => ?_)
    have hP : va_P (dC, dI) vwCl (wd0 cyI cyJ cyZ q_Sp q_prime q_times q_Pr q_parts sp_unlike sp_number sp_partsKept sp_partsNumber (vp_updL a_prime sp_unlike.toNatClampNeg v1) a_times) H := hP
    have hD : va_D A (wd0 cyI cyJ cyZ q_Sp q_prime q_times q_Pr q_parts sp_unlike sp_number sp_partsKept sp_partsNumber (vp_updL a_prime sp_unlike.toNatClampNeg v1) a_times) := hD
    refine lv_aload_n hx hb dX6_takeOut_65 rfl (lv_at hl 0 rfl) ?_
    refine va_get (D := (dC, dI)) (ci := 6) (v := .ref q_times) (C := RX6) (T := TX6) (N := 8) hx hb hts iw_X6_takeOut_X6 hown hK hP 0 rfl rfl 2 (by decide) (hts (.fieldLink RX6 15 "GoesInto$Split" "times" "[I") (List.mem_of_getElem? (i := 3) rfl)) (fun _ h9 => h9) rfl dX6_takeOut_66 ?_
    refine lv_aload_n hx hb dX6_takeOut_69 rfl (lv_at hl 0 rfl) ?_
    refine va_get (D := (dC, dI)) (ci := 6) (v := .int sp_unlike) (C := RX6) (T := TX6) (N := 8) hx hb hts iw_X6_takeOut_X6 hown hK hP 0 rfl rfl 3 (by decide) (hts (.fieldLink RX6 19 "GoesInto$Split" "unlike" "I") (List.mem_of_getElem? (i := 1) rfl)) (fun _ h9 => h9) rfl dX6_takeOut_70 ?_
    refine lv_iload hx hb dX6_takeOut_73 (lv_at hl 3 rfl) ?_
    refine va_iast hx hb hK hP hD hS 2 0 rfl rfl b3z dX6_takeOut_75 (fun H locs hP hD hS => ?_)
    have hP : va_P (dC, dI) vwCl (wd0 cyI cyJ cyZ q_Sp q_prime q_times q_Pr q_parts sp_unlike sp_number sp_partsKept sp_partsNumber (vp_updL a_prime sp_unlike.toNatClampNeg v1) (upd a_times sp_unlike.toNatClampNeg v7)) H := hP
    have hD : va_D A (wd0 cyI cyJ cyZ q_Sp q_prime q_times q_Pr q_parts sp_unlike sp_number sp_partsKept sp_partsNumber (vp_updL a_prime sp_unlike.toNatClampNeg v1) (upd a_times sp_unlike.toNatClampNeg v7)) := hD
    refine lv_aload_n hx hb dX6_takeOut_76 rfl (lv_at hl 0 rfl) ?_
    refine lv_dup hx hb dX6_takeOut_77 rfl ?_
    refine va_get (D := (dC, dI)) (ci := 6) (v := .int sp_unlike) (C := RX6) (T := TX6) (N := 8) hx hb hts iw_X6_takeOut_X6 hown hK hP 0 rfl rfl 3 (by decide) (hts (.fieldLink RX6 19 "GoesInto$Split" "unlike" "I") (List.mem_of_getElem? (i := 1) rfl)) (fun _ h9 => h9) rfl dX6_takeOut_78 ?_
    refine lv_iconst (v := (1 : Int32)) hx hb dX6_takeOut_81 (by decide) ?_
    refine lv_iadd hx hb dX6_takeOut_82 ?_
    refine lv_topi (fun y4z ey4z => ?_)
    have h := xl_at h ey4z
    refine va_put (D := (dC, dI)) (ci := 6) (v := .int y4z) (ty := .int) (C := RX6) (T := TX6) (N := 8) hx hb hts iw_X6_takeOut_X6 tyX6 tyX6_ok nmX6 hown hK hP hD hS 0 rfl rfl 3 (by decide) (hts (.fieldLink RX6 19 "GoesInto$Split" "unlike" "I") (List.mem_of_getElem? (i := 1) rfl)) (fun _ h9 => h9) rfl (tyX6_ok 3 (by decide)) rfl rfl (Nat.le_of_ble_eq_true rfl) dX6_takeOut_83 (fun H locs hP hD hS => ?_)
    have hP : va_P (dC, dI) vwCl (wd0 cyI cyJ cyZ q_Sp q_prime q_times q_Pr q_parts y4z sp_number sp_partsKept sp_partsNumber (vp_updL a_prime sp_unlike.toNatClampNeg v1) (upd a_times sp_unlike.toNatClampNeg v7)) H := hP
    have hD : va_D A (wd0 cyI cyJ cyZ q_Sp q_prime q_times q_Pr q_parts y4z sp_number sp_partsKept sp_partsNumber (vp_updL a_prime sp_unlike.toNatClampNeg v1) (upd a_times sp_unlike.toNatClampNeg v7)) := hD
    refine lv_lload hx hb dX6_takeOut_86 (lv_at hl 2 rfl) ?_
    obtain rfl := Option.some.inj h
    exact W.lret (v := v5) hx hb hr (fun t ht hW => ⟨⟨_, (), rfl, rfl, by rw [ht]; exact hP, hD⟩, hS.F ht⟩) hS.2.2 dX6_takeOut_88 hlocks
def s_X6_takeOut_9 (N : Nat) (v1 : Int64) (sp_unlike : Int32) (a_prime : Nat → Int64) (a_times : Nat → Int32) (k_9 : (Int64 × Int32 × Int32) → Option (Int64 × Int32 × (Nat → Int64) × (Nat → Int32))) (v5 : Int64) (v7 : Int32) (v8 : Int32) : Option (Int64 × Int32 × (Nat → Int64) × (Nat → Int32)) :=
  if (64 : Int32) ≤ v8 then
    j_X6_takeOut_46 N v1 v5 v7 sp_unlike a_prime a_times
  else
    if v1 ≤ (1 : Int64) then
      j_X6_takeOut_46 N v1 v5 v7 sp_unlike a_prime a_times
    else
      if v1 = 0 then
        none
      else
        if (v5 - v5 / v1 * v1) = (0 : Int64) then
          xl (v5 / v1) fun y8z =>
          xl (v7 + (1 : Int32)) fun y9z =>
          xl (v8 + (1 : Int32)) fun y10z =>
          k_9 (y8z, y9z, y10z)
        else
          j_X6_takeOut_46 N v1 v5 v7 sp_unlike a_prime a_times
def l_X6_takeOut_9 (N : Nat) (v1 : Int64) (sp_unlike : Int32) (a_prime : Nat → Int64) (a_times : Nat → Int32) (n : Nat) (z : Int64 × Int32 × Int32) : Option (Int64 × Int32 × (Nat → Int64) × (Nat → Int32)) := lp (fun k z => s_X6_takeOut_9 N v1 sp_unlike a_prime a_times k z.1 z.2.1 z.2.2) n z
set_option maxRecDepth 100000 in
set_option maxHeartbeats 4000000 in
theorem k_X6_takeOut_9 {p : Program} {l : Launch} {e : Env} {s : State} {m : MethodId} {args : Array Value} {below : List Frame} {meth : Method} {c : Code} {dC : Nat → ClassId} {dI : Nat → Nat → Nat} {cyI cyJ cyZ : ClassId} {A : Nat → Prop} (C0 : mC p s m meth c args cX6_takeOut (some .long) 9 RX6 wsX6_takeOut (gK dC dI cyI cyJ cyZ) A) (N : Nat) (res : Int64 × Int32 × (Nat → Int64) × (Nat → Int32)) (q_Sp : Nat) (q_prime : Nat) (q_times : Nat) (q_Pr : Nat) (q_parts : Nat) (v1 : Int64) (sp_unlike : Int32) (sp_number : Int64) (sp_partsKept : Int32) (sp_partsNumber : Int64) (a_prime : Nat → Int64) (a_times : Nat → Int32) : ∀ (n : Nat) (v5 : Int64) (v7 : Int32) (v8 : Int32), l_X6_takeOut_9 N v1 sp_unlike a_prime a_times n (v5, v7, v8) = some res → ∀ (H : Heap) (locs : List Loc), va_P (dC, dI) vwCl (wd0 cyI cyJ cyZ q_Sp q_prime q_times q_Pr q_parts sp_unlike sp_number sp_partsKept sp_partsNumber a_prime a_times) H → va_D A (wd0 cyI cyJ cyZ q_Sp q_prime q_times q_Pr q_parts sp_unlike sp_number sp_partsKept sp_partsNumber a_prime a_times) → va_S A s.heap H locs → ∀ (ls : Array Slot), lv_has ls 9 [(0, .ref q_Sp), (1, .long v1), (5, .long v5), (7, .int v7), (8, .int v8)] → W p l e (headSpec wsX6_takeOut rm_X6_takeOut).room s m args below meth c H locs 0 0 (MQ below (va_Ql (fun (r : Int64) (_ : Unit) => r = res.1) (bW dC dI (fun (u : Unit) => (wd0 cyI cyJ cyZ q_Sp q_prime q_times q_Pr q_parts res.2.1 sp_number sp_partsKept sp_partsNumber res.2.2.1 res.2.2.2)) A) A) args s 0 0 A) (F0 m 9 ls []) := by
  obtain ⟨hx, hb, hr, hml, hown, hts, hlocks, hG, hA⟩ := id C0
  have hK := hG.1
  intro n
  induction n with
  | zero =>
    intro v5 v7 v8 h
    cases h
  | succ n ih =>
    intro v5 v7 v8 h H locs hP hD hS ls hl
    have h : s_X6_takeOut_9 N v1 sp_unlike a_prime a_times (l_X6_takeOut_9 N v1 sp_unlike a_prime a_times n) v5 v7 v8 = some res := h
    unfold s_X6_takeOut_9 at h
    refine lv_iload hx hb dX6_takeOut_9 (lv_at hl 4 rfl) ?_
    refine lv_bipush (v := (64 : Int32)) hx hb dX6_takeOut_11 (by decide) ?_
    refine lv_icmp_ge (tgt := 46) hx hb dX6_takeOut_13 (by decide) (fun c1z => ?_) (fun c1z => ?_)
    · have h := xt h c1z
      exact k_X6_takeOut_46 C0 N res q_Sp q_prime q_times q_Pr q_parts v1 v5 v7 sp_unlike sp_number sp_partsKept sp_partsNumber a_prime a_times  h _ _ hP hD hS _ (lv_sub hl [0, 1, 2, 3] rfl)
    · have h := xf h c1z
      refine lv_lload_n hx hb dX6_takeOut_16 rfl (lv_at hl 1 rfl) ?_
      refine lv_lconst (v := (1 : Int64)) hx hb dX6_takeOut_17 (by decide) ?_
      refine W.lcmp hx hb dX6_takeOut_18 ?_
      refine lv_if_le (tgt := 46) hx hb dX6_takeOut_19 (by decide) (fun c5z => ?_) (fun c5z => ?_)
      · have c5z := (lg_cmp_le _ _).mp c5z
        have h := xt h c5z
        exact k_X6_takeOut_46 C0 N res q_Sp q_prime q_times q_Pr q_parts v1 v5 v7 sp_unlike sp_number sp_partsKept sp_partsNumber a_prime a_times  h _ _ hP hD hS _ (lv_sub hl [0, 1, 2, 3] rfl)
      · have c5z := fun z => c5z ((lg_cmp_le _ _).mpr z)
        have h := xf h c5z
        refine lv_lload hx hb dX6_takeOut_22 (lv_at hl 2 rfl) ?_
        refine lv_lload_n hx hb dX6_takeOut_24 rfl (lv_at hl 1 rfl) ?_
        obtain ⟨b6z, h⟩ := xn h
        refine lv_lrem hx hb dX6_takeOut_25 b6z ?_
        refine lv_lconst (v := (0 : Int64)) hx hb dX6_takeOut_26 (by decide) ?_
        refine W.lcmp hx hb dX6_takeOut_27 ?_
        refine lv_if_ne (tgt := 46) hx hb dX6_takeOut_28 (by decide) (fun c7z => ?_) (fun c7z => ?_)
        · have c7z := fun z => c7z ((lg_cmp_eq _ _).mpr z)
          have h := xf h c7z
          exact k_X6_takeOut_46 C0 N res q_Sp q_prime q_times q_Pr q_parts v1 v5 v7 sp_unlike sp_number sp_partsKept sp_partsNumber a_prime a_times  h _ _ hP hD hS _ (lv_sub hl [0, 1, 2, 3] rfl)
        · have c7z := (lg_cmp_eq _ _).mp c7z
          have h := xt h c7z
          refine lv_lload hx hb dX6_takeOut_31 (lv_at hl 2 rfl) ?_
          refine lv_lload_n hx hb dX6_takeOut_33 rfl (lv_at hl 1 rfl) ?_
          refine lv_ldiv hx hb dX6_takeOut_34 b6z ?_
          refine lv_topl (fun y8z ey8z => ?_)
          have h := xl_at h ey8z
          refine lv_lstore (lv' := [(5, .long y8z), (0, .ref q_Sp), (1, .long v1), (7, .int v7), (8, .int v8)]) hx hb dX6_takeOut_35 hl (by decide) rfl (fun ls hl => ?_)
          obtain ⟨y9z, ey9z⟩ : ∃ z : Int32, z = v7 + (1 : Int32) := ⟨_, rfl⟩
          have h := xl_at h ey9z
          refine lv_iinc (v := y9z) (lv' := [(7, .int y9z), (5, .long y8z), (0, .ref q_Sp), (1, .long v1), (8, .int v8)]) hx hb dX6_takeOut_37 hl (k := 3) rfl (by rw [ey9z]; rfl) (by decide) rfl (fun ls hl => ?_)
          obtain ⟨y10z, ey10z⟩ : ∃ z : Int32, z = v8 + (1 : Int32) := ⟨_, rfl⟩
          have h := xl_at h ey10z
          refine lv_iinc (v := y10z) (lv' := [(8, .int y10z), (7, .int y9z), (5, .long y8z), (0, .ref q_Sp), (1, .long v1)]) hx hb dX6_takeOut_40 hl (k := 4) rfl (by rw [ey10z]; rfl) (by decide) rfl (fun ls hl => ?_)
          refine lv_goto (tgt := 9) hx hb dX6_takeOut_43 (by decide) ?_
          exact ih y8z y9z y10z h _ _ hP hD hS _ (lv_sub hl [3, 4, 2, 1, 0] rfl)
def f_X6_takeOut (N : Nat) (v1 : Int64) (v3 : Int64) (sp_unlike : Int32) (a_prime : Nat → Int64) (a_times : Nat → Int32) : Option (Int64 × Int32 × (Nat → Int64) × (Nat → Int32)) :=
  l_X6_takeOut_9 N v1 sp_unlike a_prime a_times N (v3, (0 : Int32), (0 : Int32))
set_option maxRecDepth 100000 in
set_option maxHeartbeats 4000000 in
theorem k_X6_takeOut_0 {p : Program} {l : Launch} {e : Env} {s : State} {m : MethodId} {args : Array Value} {below : List Frame} {meth : Method} {c : Code} {dC : Nat → ClassId} {dI : Nat → Nat → Nat} {cyI cyJ cyZ : ClassId} {A : Nat → Prop} (C0 : mC p s m meth c args cX6_takeOut (some .long) 9 RX6 wsX6_takeOut (gK dC dI cyI cyJ cyZ) A) (N : Nat) (res : Int64 × Int32 × (Nat → Int64) × (Nat → Int32)) (q_Sp : Nat) (q_prime : Nat) (q_times : Nat) (q_Pr : Nat) (q_parts : Nat) (v1 : Int64) (v3 : Int64) (sp_unlike : Int32) (sp_number : Int64) (sp_partsKept : Int32) (sp_partsNumber : Int64) (a_prime : Nat → Int64) (a_times : Nat → Int32) (h : f_X6_takeOut N v1 v3 sp_unlike a_prime a_times = some res) : ∀ (H : Heap) (locs : List Loc), va_P (dC, dI) vwCl (wd0 cyI cyJ cyZ q_Sp q_prime q_times q_Pr q_parts sp_unlike sp_number sp_partsKept sp_partsNumber a_prime a_times) H → va_D A (wd0 cyI cyJ cyZ q_Sp q_prime q_times q_Pr q_parts sp_unlike sp_number sp_partsKept sp_partsNumber a_prime a_times) → va_S A s.heap H locs → ∀ (ls : Array Slot), lv_has ls 9 [(0, .ref q_Sp), (1, .long v1), (3, .long v3)] → W p l e (headSpec wsX6_takeOut rm_X6_takeOut).room s m args below meth c H locs 0 0 (MQ below (va_Ql (fun (r : Int64) (_ : Unit) => r = res.1) (bW dC dI (fun (u : Unit) => (wd0 cyI cyJ cyZ q_Sp q_prime q_times q_Pr q_parts res.2.1 sp_number sp_partsKept sp_partsNumber res.2.2.1 res.2.2.2)) A) A) args s 0 0 A) (F0 m 0 ls []) := by
  obtain ⟨hx, hb, hr, hml, hown, hts, hlocks, hG, hA⟩ := id C0
  have hK := hG.1
  intro H locs hP hD hS ls hl
  unfold f_X6_takeOut at h
  refine lv_lload_n hx hb dX6_takeOut_0 rfl (lv_at hl 2 rfl) ?_
  refine lv_lstore (lv' := [(5, .long v3), (0, .ref q_Sp), (1, .long v1), (3, .long v3)]) hx hb dX6_takeOut_1 hl (by decide) rfl (fun ls hl => ?_)
  refine lv_iconst (v := (0 : Int32)) hx hb dX6_takeOut_3 (by decide) ?_
  refine lv_istore (lv' := [(7, .int (0 : Int32)), (5, .long v3), (0, .ref q_Sp), (1, .long v1), (3, .long v3)]) hx hb dX6_takeOut_4 hl (by decide) rfl (fun ls hl => ?_)
  refine lv_iconst (v := (0 : Int32)) hx hb dX6_takeOut_6 (by decide) ?_
  refine lv_istore (lv' := [(8, .int (0 : Int32)), (7, .int (0 : Int32)), (5, .long v3), (0, .ref q_Sp), (1, .long v1), (3, .long v3)]) hx hb dX6_takeOut_7 hl (by decide) rfl (fun ls hl => ?_)
  exact k_X6_takeOut_9 C0 N res q_Sp q_prime q_times q_Pr q_parts v1 sp_unlike sp_number sp_partsKept sp_partsNumber a_prime a_times N v3 (0 : Int32) (0 : Int32) h _ _ hP hD hS _ (lv_sub hl [3, 4, 2, 1, 0] rfl)
set_option maxRecDepth 100000 in
set_option maxHeartbeats 4000000 in
theorem c_X6_takeOut (l : Launch) (dC : Nat → ClassId) (dI : Nat → Nat → Nat) (cyI cyJ cyZ : ClassId) (N : Nat) (res : Int64 × Int32 × (Nat → Int64) × (Nat → Int32)) (sz : Nat) (q_Sp : Nat) (q_prime : Nat) (q_times : Nat) (q_Pr : Nat) (q_parts : Nat) (v1 : Int64) (v3 : Int64) (sp_unlike : Int32) (sp_number : Int64) (sp_partsKept : Int32) (sp_partsNumber : Int64) (a_prime : Nat → Int64) (a_times : Nat → Int32) (h : f_X6_takeOut N v1 v3 sp_unlike a_prime a_times = some res) : Met l yX6_takeOut wsX6_takeOut rm_X6_takeOut (pC dC dI cyI cyJ cyZ [.ref q_Sp, .long v1, .long v3] sz (wd0 cyI cyJ cyZ q_Sp q_prime q_times q_Pr q_parts sp_unlike sp_number sp_partsKept sp_partsNumber a_prime a_times)) (va_Ql (fun (r : Int64) (_ : Unit) => r = res.1) (bW dC dI (fun (u : Unit) => (wd0 cyI cyJ cyZ q_Sp q_prime q_times q_Pr q_parts res.2.1 sp_number sp_partsKept sp_partsNumber res.2.2.1 res.2.2.2)) (va_A (wd0 cyI cyJ cyZ q_Sp q_prime q_times q_Pr q_parts sp_unlike sp_number sp_partsKept sp_partsNumber a_prime a_times) sz)) (va_A (wd0 cyI cyJ cyZ q_Sp q_prime q_times q_Pr q_parts sp_unlike sp_number sp_partsKept sp_partsNumber a_prime a_times) sz)) 0 0 (va_A (wd0 cyI cyJ cyZ q_Sp q_prime q_times q_Pr q_parts sp_unlike sp_number sp_partsKept sp_partsNumber a_prime a_times) sz) := by
  refine Met.ofW (cc := cX6_takeOut) (maxL := 9) (ret := (some .long)) (by decide) rfl ?_
  intro p e s m args below meth c s₁ B hml hv
  obtain ⟨rfl, hsz, hP, hG, hD0⟩ := hv
  have hx := B.exec
  have hb := B.bytes
  have hr := B.returns
  have hts := atoms_spec (ws := wsX6_takeOut) B.pre
  have hown : s.vm.findClass RX6 = some m.cls := findClass_of_methodNamed B.named
  have hlocks := B.notSynchronized
  subst hsz
  have hD := hD0.self (sz := s.heap.size)
  generalize hAe : va_A (wd0 cyI cyJ cyZ q_Sp q_prime q_times q_Pr q_parts sp_unlike sp_number sp_partsKept sp_partsNumber a_prime a_times) s.heap.size = A at hD ⊢
  have hA : ∀ q : Nat, s.heap.size ≤ q → A q := fun q h => by rw [← hAe]; exact Or.inr h
  have hS : va_S A s.heap s.heap [] := va_S.rf
  have hl := lv_entry ([.ref q_Sp, .long v1, .long v3]) (n := 9) (Nat.le_of_ble_eq_true rfl)
  rw [lg_entry_eq]
  generalize (lg_sl ([.ref q_Sp, .long v1, .long v3]) ++ List.replicate (9 - (lg_sl ([.ref q_Sp, .long v1, .long v3])).length) Slot.unset).toArray = ls at hl ⊢
  have hl : lv_has ls 9 [(0, .ref q_Sp), (1, .long v1), (3, .long v3)] := hl
  exact k_X6_takeOut_0 ⟨hx, hb, hr, hml, hown, hts, hlocks, hG, hA⟩ N res q_Sp q_prime q_times q_Pr q_parts v1 v3 sp_unlike sp_number sp_partsKept sp_partsNumber a_prime a_times  h _ _ hP hD hS _ hl
/-- the cells Pr, Sp, list, prime, times -/
abbrev wd1 (cyI cyJ cyZ : ClassId) (q_Pr : Nat) (q_Sp : Nat) (q_list : Nat) (q_prime : Nat) (q_times : Nat) (q_Sc : Nat) (q_parts : Nat) (sp_unlike : Int32) (sp_number : Int64) (sp_partsKept : Int32) (sp_partsNumber : Int64) (n_list : Nat) (a_list : Nat → Int32) (a_prime : Nat → Int64) (a_times : Nat → Int32) : va_W := [(q_Pr, .inr (3, [.ref q_Sc, .ref q_list])), (q_Sp, .inr (6, [.ref q_Pr, .ref q_prime, .ref q_times, .int sp_unlike, .long sp_number, .ref q_parts, .int sp_partsKept, .long sp_partsNumber])), (q_list, .inl (cyI, n_list, .inl a_list)), (q_prime, .inl (cyJ, 12, .inr (.inl a_prime))), (q_times, .inl (cyI, 12, .inl a_times))]
abbrev rm_X6_splitUp : Room := { frames := 1, cells := 0, slots := 0, locals := 28 }
theorem hd_X6_splitUp : yX6_splitUp.cls ≠ "java/lang/invoke/MethodHandle" ∧ yX6_splitUp.cls ≠ "java/lang/invoke/VarHandle" ∧ (parseMethodDescriptor yX6_splitUp.desc).map (fun d => d.parameters.length) = some 1 := by decide +kernel
theorem iw_X6_splitUp_X3 : ∀ w ∈ wsX30, w ∈ wsX6_splitUp := List.forall_mem_cons.mpr ⟨List.mem_of_getElem? (i := 20) rfl, List.forall_mem_cons.mpr ⟨List.mem_of_getElem? (i := 21) rfl, fun _ h => absurd h List.not_mem_nil⟩⟩
theorem iw_X6_splitUp_X6 : ∀ w ∈ wsX60, w ∈ wsX6_splitUp := List.forall_mem_cons.mpr ⟨List.mem_of_getElem? (i := 12) rfl, List.forall_mem_cons.mpr ⟨List.mem_of_getElem? (i := 13) rfl, List.forall_mem_cons.mpr ⟨List.mem_of_getElem? (i := 14) rfl, List.forall_mem_cons.mpr ⟨List.mem_of_getElem? (i := 15) rfl, List.forall_mem_cons.mpr ⟨List.mem_of_getElem? (i := 16) rfl, List.forall_mem_cons.mpr ⟨List.mem_of_getElem? (i := 17) rfl, List.forall_mem_cons.mpr ⟨List.mem_of_getElem? (i := 18) rfl, List.forall_mem_cons.mpr ⟨List.mem_of_getElem? (i := 19) rfl, fun _ h => absurd h List.not_mem_nil⟩⟩⟩⟩⟩⟩⟩⟩
def j_X6_splitUp_97 (N : Nat) (v4 : Int64) (sp_unlike : Int32) (sp_number : Int64) (a_prime : Nat → Int64) (a_times : Nat → Int32) : Option (Int32 × Int64 × (Nat → Int64) × (Nat → Int32)) :=
  if v4 ≤ (1 : Int64) then
    some (sp_unlike, sp_number, a_prime, a_times)
  else
    Option.bind (f_X6_takeOut N v4 v4 sp_unlike a_prime a_times) fun r4z =>
    some (r4z.2.1, sp_number, r4z.2.2.1, r4z.2.2.2)
set_option maxRecDepth 100000 in
set_option maxHeartbeats 4000000 in
theorem k_X6_splitUp_97 {p : Program} {l : Launch} {e : Env} {s : State} {m : MethodId} {args : Array Value} {below : List Frame} {meth : Method} {c : Code} {dC : Nat → ClassId} {dI : Nat → Nat → Nat} {cyI cyJ cyZ : ClassId} {A : Nat → Prop} (C0 : mC p s m meth c args cX6_splitUp none 9 RX6 wsX6_splitUp (gK dC dI cyI cyJ cyZ) A) (N : Nat) (res : Int32 × Int64 × (Nat → Int64) × (Nat → Int32)) (q_Pr : Nat) (q_Sp : Nat) (q_list : Nat) (q_prime : Nat) (q_times : Nat) (q_Sc : Nat) (q_parts : Nat) (v4 : Int64) (sp_unlike : Int32) (sp_number : Int64) (sp_partsKept : Int32) (sp_partsNumber : Int64) (n_list : Nat) (a_list : Nat → Int32) (a_prime : Nat → Int64) (a_times : Nat → Int32) (h : j_X6_splitUp_97 N v4 sp_unlike sp_number a_prime a_times = some res) : ∀ (H : Heap) (locs : List Loc), va_P (dC, dI) vwCl (wd1 cyI cyJ cyZ q_Pr q_Sp q_list q_prime q_times q_Sc q_parts sp_unlike sp_number sp_partsKept sp_partsNumber n_list a_list a_prime a_times) H → va_D A (wd1 cyI cyJ cyZ q_Pr q_Sp q_list q_prime q_times q_Sc q_parts sp_unlike sp_number sp_partsKept sp_partsNumber n_list a_list a_prime a_times) → va_S A s.heap H locs → ∀ (ls : Array Slot), lv_has ls 9 [(0, .ref q_Sp), (4, .long v4)] → W p l e (headSpec wsX6_splitUp rm_X6_splitUp).room s m args below meth c H locs 0 0 (MQ below (va_Qv (fun (_ : Unit) => True) (bW dC dI (fun (u : Unit) => (wd1 cyI cyJ cyZ q_Pr q_Sp q_list q_prime q_times q_Sc q_parts res.1 res.2.1 sp_partsKept sp_partsNumber n_list a_list res.2.2.1 res.2.2.2)) A) A) args s 0 0 A) (F0 m 97 ls []) := by
  obtain ⟨hx, hb, hr, hml, hown, hts, hlocks, hG, hA⟩ := id C0
  have hK := hG.1
  intro H locs hP hD hS ls hl
  unfold j_X6_splitUp_97 at h
  refine lv_lload hx hb dX6_splitUp_97 (lv_at hl 1 rfl) ?_
  refine lv_lconst (v := (1 : Int64)) hx hb dX6_splitUp_99 (by decide) ?_
  refine W.lcmp hx hb dX6_splitUp_100 ?_
  refine lv_if_le (tgt := 113) hx hb dX6_splitUp_101 (by decide) (fun c3z => ?_) (fun c3z => ?_)
  · have c3z := (lg_cmp_le _ _).mp c3z
    have h := xt h c3z
    obtain rfl := Option.some.inj h
    exact W.vret hx hb hr (fun t ht hW => ⟨⟨(), rfl, trivial, by rw [ht]; exact hP, hD⟩, hS.F ht⟩) hS.2.2 dX6_splitUp_113 hlocks
  · have c3z := fun z => c3z ((lg_cmp_le _ _).mpr z)
    have h := xf h c3z
    refine lv_aload_n hx hb dX6_splitUp_104 rfl (lv_at hl 0 rfl) ?_
    refine lv_lload hx hb dX6_splitUp_105 (lv_at hl 1 rfl) ?_
    refine lv_lload hx hb dX6_splitUp_107 (lv_at hl 1 rfl) ?_
    obtain ⟨r4z, hr4z, h⟩ := xb_at h
    have hPc := hP.sub (ws' := (wd0 cyI cyJ cyZ q_Sp q_prime q_times q_Pr q_parts sp_unlike sp_number sp_partsKept sp_partsNumber a_prime a_times)) [1, 3, 4] rfl
    have hDc := hD.sub (ws' := (wd0 cyI cyJ cyZ q_Sp q_prime q_times q_Pr q_parts sp_unlike sp_number sp_partsKept sp_partsNumber a_prime a_times)) [1, 3, 4] (by decide) rfl
    refine cal_l [1, 3, 4] [0, 2] (va_runV (As := [.long v4, .long v4]) (rest := []) ⟨hx, hb, hml, hown, hts⟩ (c_X6_takeOut l dC dI cyI cyJ cyZ N r4z H.size q_Sp q_prime q_times q_Pr q_parts v4 v4 sp_unlike sp_number sp_partsKept sp_partsNumber a_prime a_times hr4z) (cwV 2 hts gX6_splitUp_X6_takeOut rfl rfl rfl ⟨rfl, hd_X6_takeOut⟩ ⟨Nat.le_of_ble_eq_true rfl, Nat.le_of_ble_eq_true rfl⟩) ⟨pC.blind, va_recv hK hPc (ci := 6) (q0 := 0) rfl rfl, pC.pre hPc hG hDc⟩ rfl rfl hl.1 rfl (lv_room (Nat.le_of_ble_eq_true rfl)) dX6_splitUp_109 ⟨Nat.zero_le _, Nat.zero_le _⟩) hP hD hS hA rfl rfl rfl (by decide) (fun x6z u5z H locs hw hP hD hS => ?_)
    obtain rfl := hw.symm
    have hP : va_P (dC, dI) vwCl (wd1 cyI cyJ cyZ q_Pr q_Sp q_list q_prime q_times q_Sc q_parts r4z.2.1 sp_number sp_partsKept sp_partsNumber n_list a_list r4z.2.2.1 r4z.2.2.2) H := hP.sub [0, 2, 1, 3, 4] rfl
    have hD : va_D A (wd1 cyI cyJ cyZ q_Pr q_Sp q_list q_prime q_times q_Sc q_parts r4z.2.1 sp_number sp_partsKept sp_partsNumber n_list a_list r4z.2.2.1 r4z.2.2.2) := hD.sub [0, 2, 1, 3, 4] (by decide) rfl
    refine lv_pop2_2 hx hb dX6_splitUp_112 rfl ?_
    obtain rfl := Option.some.inj h
    exact W.vret hx hb hr (fun t ht hW => ⟨⟨(), rfl, trivial, by rw [ht]; exact hP, hD⟩, hS.F ht⟩) hS.2.2 dX6_splitUp_113 hlocks
def s_X6_splitUp_34 (N : Nat) (sp_number : Int64) (n_list : Nat) (a_list : Nat → Int32) (k_34 : (Int64 × Int32 × Int32 × (Nat → Int64) × (Nat → Int32)) → Option (Int32 × Int64 × (Nat → Int64) × (Nat → Int32))) (v4 : Int64) (v6 : Int32) (sp_unlike : Int32) (a_prime : Nat → Int64) (a_times : Nat → Int32) : Option (Int32 × Int64 × (Nat → Int64) × (Nat → Int32)) :=
  if (nI n_list) ≤ v6 then
    j_X6_splitUp_97 N v4 sp_unlike sp_number a_prime a_times
  else
    if v6 < 0 ∨ n_list ≤ v6.toNatClampNeg then
      none
    else
      xl ((a_list v6.toNatClampNeg).toInt64) fun y8z =>
      if y8z < (2 : Int64) then
        j_X6_splitUp_97 N v4 sp_unlike sp_number a_prime a_times
      else
        if (y8z * y8z) ≤ v4 then
          if y8z = 0 then
            none
          else
            if (v4 - v4 / y8z * y8z) = (0 : Int64) then
              Option.bind (f_X6_takeOut N y8z v4 sp_unlike a_prime a_times) fun r14z =>
              xl (v6 + (1 : Int32)) fun y17z =>
              k_34 (r14z.1, y17z, r14z.2.1, r14z.2.2.1, r14z.2.2.2)
            else
              xl (v6 + (1 : Int32)) fun y13z =>
              k_34 (v4, y13z, sp_unlike, a_prime, a_times)
        else
          j_X6_splitUp_97 N v4 sp_unlike sp_number a_prime a_times
def l_X6_splitUp_34 (N : Nat) (sp_number : Int64) (n_list : Nat) (a_list : Nat → Int32) (n : Nat) (z : Int64 × Int32 × Int32 × (Nat → Int64) × (Nat → Int32)) : Option (Int32 × Int64 × (Nat → Int64) × (Nat → Int32)) := lp (fun k z => s_X6_splitUp_34 N sp_number n_list a_list k z.1 z.2.1 z.2.2.1 z.2.2.2.1 z.2.2.2.2) n z
set_option maxRecDepth 100000 in
set_option maxHeartbeats 4000000 in
theorem k_X6_splitUp_34 {p : Program} {l : Launch} {e : Env} {s : State} {m : MethodId} {args : Array Value} {below : List Frame} {meth : Method} {c : Code} {dC : Nat → ClassId} {dI : Nat → Nat → Nat} {cyI cyJ cyZ : ClassId} {A : Nat → Prop} (C0 : mC p s m meth c args cX6_splitUp none 9 RX6 wsX6_splitUp (gK dC dI cyI cyJ cyZ) A) (N : Nat) (res : Int32 × Int64 × (Nat → Int64) × (Nat → Int32)) (q_Pr : Nat) (q_Sp : Nat) (q_list : Nat) (q_prime : Nat) (q_times : Nat) (q_Sc : Nat) (q_parts : Nat) (sp_number : Int64) (sp_partsKept : Int32) (sp_partsNumber : Int64) (n_list : Nat) (a_list : Nat → Int32) : ∀ (n : Nat) (v4 : Int64) (v6 : Int32) (sp_unlike : Int32) (a_prime : Nat → Int64) (a_times : Nat → Int32), l_X6_splitUp_34 N sp_number n_list a_list n (v4, v6, sp_unlike, a_prime, a_times) = some res → ∀ (H : Heap) (locs : List Loc), va_P (dC, dI) vwCl (wd1 cyI cyJ cyZ q_Pr q_Sp q_list q_prime q_times q_Sc q_parts sp_unlike sp_number sp_partsKept sp_partsNumber n_list a_list a_prime a_times) H → va_D A (wd1 cyI cyJ cyZ q_Pr q_Sp q_list q_prime q_times q_Sc q_parts sp_unlike sp_number sp_partsKept sp_partsNumber n_list a_list a_prime a_times) → va_S A s.heap H locs → ∀ (ls : Array Slot), lv_has ls 9 [(0, .ref q_Sp), (3, .ref q_list), (4, .long v4), (6, .int v6)] → W p l e (headSpec wsX6_splitUp rm_X6_splitUp).room s m args below meth c H locs 0 0 (MQ below (va_Qv (fun (_ : Unit) => True) (bW dC dI (fun (u : Unit) => (wd1 cyI cyJ cyZ q_Pr q_Sp q_list q_prime q_times q_Sc q_parts res.1 res.2.1 sp_partsKept sp_partsNumber n_list a_list res.2.2.1 res.2.2.2)) A) A) args s 0 0 A) (F0 m 34 ls []) := by
  obtain ⟨hx, hb, hr, hml, hown, hts, hlocks, hG, hA⟩ := id C0
  have hK := hG.1
  intro n
  induction n with
  | zero =>
    intro v4 v6 sp_unlike a_prime a_times h
    cases h
  | succ n ih =>
    intro v4 v6 sp_unlike a_prime a_times h H locs hP hD hS ls hl
    have h : s_X6_splitUp_34 N sp_number n_list a_list (l_X6_splitUp_34 N sp_number n_list a_list n) v4 v6 sp_unlike a_prime a_times = some res := h
    unfold s_X6_splitUp_34 at h
    refine lv_iload hx hb dX6_splitUp_34 (lv_at hl 3 rfl) ?_
    refine lv_aload_n hx hb dX6_splitUp_36 rfl (lv_at hl 1 rfl) ?_
    refine va_alen (v := nI n_list) hx hb hK hP 2 0 rfl rfl rfl dX6_splitUp_37 ?_
    refine lv_icmp_ge (tgt := 97) hx hb dX6_splitUp_38 (by decide) (fun c2z => ?_) (fun c2z => ?_)
    · have h := xt h c2z
      exact k_X6_splitUp_97 C0 N res q_Pr q_Sp q_list q_prime q_times q_Sc q_parts v4 sp_unlike sp_number sp_partsKept sp_partsNumber n_list a_list a_prime a_times  h _ _ hP hD hS _ (lv_sub hl [0, 2] rfl)
    · have h := xf h c2z
      refine lv_aload_n hx hb dX6_splitUp_41 rfl (lv_at hl 1 rfl) ?_
      refine lv_iload hx hb dX6_splitUp_42 (lv_at hl 3 rfl) ?_
      obtain ⟨b7z, h⟩ := xn h
      refine va_iald hx hb hK hP 2 0 rfl rfl b7z dX6_splitUp_44 ?_
      refine lv_i2l (v := (a_list v6.toNatClampNeg).toInt64) hx hb dX6_splitUp_45 rfl ?_
      refine lv_topl (fun y8z ey8z => ?_)
      have h := xl_at h ey8z
      refine lv_lstore (lv' := [(7, .long y8z), (0, .ref q_Sp), (3, .ref q_list), (4, .long v4), (6, .int v6)]) hx hb dX6_splitUp_46 hl (by decide) rfl (fun ls hl => ?_)
      refine lv_lload hx hb dX6_splitUp_48 (lv_at hl 0 rfl) ?_
      refine lv_ldc2 (v := (2 : Int64)) hx hb hown (hts (.constantLong RX6 45 (2)) (List.mem_of_getElem? (i := 4) rfl)) dX6_splitUp_50 ?_
      refine W.lcmp hx hb dX6_splitUp_53 ?_
      refine lv_if_lt (tgt := 97) hx hb dX6_splitUp_54 (by decide) (fun c9z => ?_) (fun c9z => ?_)
      · have c9z := (lg_cmp_lt _ _).mp c9z
        have h := xt h c9z
        exact k_X6_splitUp_97 C0 N res q_Pr q_Sp q_list q_prime q_times q_Sc q_parts v4 sp_unlike sp_number sp_partsKept sp_partsNumber n_list a_list a_prime a_times  h _ _ hP hD hS _ (lv_sub hl [1, 3] rfl)
      · have c9z := fun z => c9z ((lg_cmp_lt _ _).mpr z)
        have h := xf h c9z
        refine lv_lload hx hb dX6_splitUp_57 (lv_at hl 0 rfl) ?_
        refine lv_lload hx hb dX6_splitUp_59 (lv_at hl 0 rfl) ?_
        refine lv_lmul hx hb dX6_splitUp_61 ?_
        refine lv_lload hx hb dX6_splitUp_62 (lv_at hl 3 rfl) ?_
        refine W.lcmp hx hb dX6_splitUp_64 ?_
        refine lv_if_le (tgt := 71) hx hb dX6_splitUp_65 (by decide) (fun c10z => ?_) (fun c10z => ?_)
        · have c10z := (lg_cmp_le _ _).mp c10z
          have h := xt h c10z
          refine lv_lload hx hb dX6_splitUp_71 (lv_at hl 3 rfl) ?_
          refine lv_lload hx hb dX6_splitUp_73 (lv_at hl 0 rfl) ?_
          obtain ⟨b11z, h⟩ := xn h
          refine lv_lrem hx hb dX6_splitUp_75 b11z ?_
          refine lv_lconst (v := (0 : Int64)) hx hb dX6_splitUp_76 (by decide) ?_
          refine W.lcmp hx hb dX6_splitUp_77 ?_
          refine lv_if_ne (tgt := 91) hx hb dX6_splitUp_78 (by decide) (fun c12z => ?_) (fun c12z => ?_)
          · have c12z := fun z => c12z ((lg_cmp_eq _ _).mpr z)
            have h := xf h c12z
            obtain ⟨y13z, ey13z⟩ : ∃ z : Int32, z = v6 + (1 : Int32) := ⟨_, rfl⟩
            have h := xl_at h ey13z
            refine lv_iinc (v := y13z) (lv' := [(6, .int y13z), (7, .long y8z), (0, .ref q_Sp), (3, .ref q_list), (4, .long v4)]) hx hb dX6_splitUp_91 hl (k := 4) rfl (by rw [ey13z]; rfl) (by decide) rfl (fun ls hl => ?_)
            refine lv_goto (tgt := 34) hx hb dX6_splitUp_94 (by decide) ?_
            exact ih v4 y13z sp_unlike a_prime a_times h _ _ hP hD hS _ (lv_sub hl [2, 3, 4, 0] rfl)
          · have c12z := (lg_cmp_eq _ _).mp c12z
            have h := xt h c12z
            refine lv_aload_n hx hb dX6_splitUp_81 rfl (lv_at hl 1 rfl) ?_
            refine lv_lload hx hb dX6_splitUp_82 (lv_at hl 0 rfl) ?_
            refine lv_lload hx hb dX6_splitUp_84 (lv_at hl 3 rfl) ?_
            obtain ⟨r14z, hr14z, h⟩ := xb_at h
            have hPc := hP.sub (ws' := (wd0 cyI cyJ cyZ q_Sp q_prime q_times q_Pr q_parts sp_unlike sp_number sp_partsKept sp_partsNumber a_prime a_times)) [1, 3, 4] rfl
            have hDc := hD.sub (ws' := (wd0 cyI cyJ cyZ q_Sp q_prime q_times q_Pr q_parts sp_unlike sp_number sp_partsKept sp_partsNumber a_prime a_times)) [1, 3, 4] (by decide) rfl
            refine cal_l [1, 3, 4] [0, 2] (va_runV (As := [.long y8z, .long v4]) (rest := []) ⟨hx, hb, hml, hown, hts⟩ (c_X6_takeOut l dC dI cyI cyJ cyZ N r14z H.size q_Sp q_prime q_times q_Pr q_parts y8z v4 sp_unlike sp_number sp_partsKept sp_partsNumber a_prime a_times hr14z) (cwV 2 hts gX6_splitUp_X6_takeOut rfl rfl rfl ⟨rfl, hd_X6_takeOut⟩ ⟨Nat.le_of_ble_eq_true rfl, Nat.le_of_ble_eq_true rfl⟩) ⟨pC.blind, va_recv hK hPc (ci := 6) (q0 := 0) rfl rfl, pC.pre hPc hG hDc⟩ rfl rfl hl.1 rfl (lv_room (Nat.le_of_ble_eq_true rfl)) dX6_splitUp_86 ⟨Nat.zero_le _, Nat.zero_le _⟩) hP hD hS hA rfl rfl rfl (by decide) (fun x16z u15z H locs hw hP hD hS => ?_)
            obtain rfl := hw.symm
            have hP : va_P (dC, dI) vwCl (wd1 cyI cyJ cyZ q_Pr q_Sp q_list q_prime q_times q_Sc q_parts r14z.2.1 sp_number sp_partsKept sp_partsNumber n_list a_list r14z.2.2.1 r14z.2.2.2) H := hP.sub [0, 2, 1, 3, 4] rfl
            have hD : va_D A (wd1 cyI cyJ cyZ q_Pr q_Sp q_list q_prime q_times q_Sc q_parts r14z.2.1 sp_number sp_partsKept sp_partsNumber n_list a_list r14z.2.2.1 r14z.2.2.2) := hD.sub [0, 2, 1, 3, 4] (by decide) rfl
            refine lv_lstore (lv' := [(4, .long r14z.1), (7, .long y8z), (0, .ref q_Sp), (3, .ref q_list), (6, .int v6)]) hx hb dX6_splitUp_89 hl (by decide) rfl (fun ls hl => ?_)
            obtain ⟨y17z, ey17z⟩ : ∃ z : Int32, z = v6 + (1 : Int32) := ⟨_, rfl⟩
            have h := xl_at h ey17z
            refine lv_iinc (v := y17z) (lv' := [(6, .int y17z), (4, .long r14z.1), (7, .long y8z), (0, .ref q_Sp), (3, .ref q_list)]) hx hb dX6_splitUp_91 hl (k := 4) rfl (by rw [ey17z]; rfl) (by decide) rfl (fun ls hl => ?_)
            refine lv_goto (tgt := 34) hx hb dX6_splitUp_94 (by decide) ?_
            exact ih r14z.1 y17z r14z.2.1 r14z.2.2.1 r14z.2.2.2 h _ _ hP hD hS _ (lv_sub hl [3, 4, 1, 0] rfl)
        · have c10z := fun z => c10z ((lg_cmp_le _ _).mpr z)
          have h := xf h c10z
          refine lv_goto (tgt := 97) hx hb dX6_splitUp_68 (by decide) ?_
          exact k_X6_splitUp_97 C0 N res q_Pr q_Sp q_list q_prime q_times q_Sc q_parts v4 sp_unlike sp_number sp_partsKept sp_partsNumber n_list a_list a_prime a_times  h _ _ hP hD hS _ (lv_sub hl [1, 3] rfl)
def f_X6_splitUp (N : Nat) (v1 : Int64) (sp_unlike : Int32) (sp_number : Int64) (n_list : Nat) (a_list : Nat → Int32) (a_prime : Nat → Int64) (a_times : Nat → Int32) : Option (Int32 × Int64 × (Nat → Int64) × (Nat → Int32)) :=
  if v1 = sp_number then
    some (sp_unlike, sp_number, a_prime, a_times)
  else
    l_X6_splitUp_34 N v1 n_list a_list N (v1, (0 : Int32), (0 : Int32), a_prime, a_times)
set_option maxRecDepth 100000 in
set_option maxHeartbeats 4000000 in
theorem k_X6_splitUp_0 {p : Program} {l : Launch} {e : Env} {s : State} {m : MethodId} {args : Array Value} {below : List Frame} {meth : Method} {c : Code} {dC : Nat → ClassId} {dI : Nat → Nat → Nat} {cyI cyJ cyZ : ClassId} {A : Nat → Prop} (C0 : mC p s m meth c args cX6_splitUp none 9 RX6 wsX6_splitUp (gK dC dI cyI cyJ cyZ) A) (N : Nat) (res : Int32 × Int64 × (Nat → Int64) × (Nat → Int32)) (q_Pr : Nat) (q_Sp : Nat) (q_list : Nat) (q_prime : Nat) (q_times : Nat) (q_Sc : Nat) (q_parts : Nat) (v1 : Int64) (sp_unlike : Int32) (sp_number : Int64) (sp_partsKept : Int32) (sp_partsNumber : Int64) (n_list : Nat) (a_list : Nat → Int32) (a_prime : Nat → Int64) (a_times : Nat → Int32) (h : f_X6_splitUp N v1 sp_unlike sp_number n_list a_list a_prime a_times = some res) : ∀ (H : Heap) (locs : List Loc), va_P (dC, dI) vwCl (wd1 cyI cyJ cyZ q_Pr q_Sp q_list q_prime q_times q_Sc q_parts sp_unlike sp_number sp_partsKept sp_partsNumber n_list a_list a_prime a_times) H → va_D A (wd1 cyI cyJ cyZ q_Pr q_Sp q_list q_prime q_times q_Sc q_parts sp_unlike sp_number sp_partsKept sp_partsNumber n_list a_list a_prime a_times) → va_S A s.heap H locs → ∀ (ls : Array Slot), lv_has ls 9 [(0, .ref q_Sp), (1, .long v1)] → W p l e (headSpec wsX6_splitUp rm_X6_splitUp).room s m args below meth c H locs 0 0 (MQ below (va_Qv (fun (_ : Unit) => True) (bW dC dI (fun (u : Unit) => (wd1 cyI cyJ cyZ q_Pr q_Sp q_list q_prime q_times q_Sc q_parts res.1 res.2.1 sp_partsKept sp_partsNumber n_list a_list res.2.2.1 res.2.2.2)) A) A) args s 0 0 A) (F0 m 0 ls []) := by
  obtain ⟨hx, hb, hr, hml, hown, hts, hlocks, hG, hA⟩ := id C0
  have hK := hG.1
  intro H locs hP hD hS ls hl
  unfold f_X6_splitUp at h
  refine lv_lload_n hx hb dX6_splitUp_0 rfl (lv_at hl 1 rfl) ?_
  refine lv_aload_n hx hb dX6_splitUp_1 rfl (lv_at hl 0 rfl) ?_
  refine va_get (D := (dC, dI)) (ci := 6) (v := .long sp_number) (C := RX6) (T := TX6) (N := 8) hx hb hts iw_X6_splitUp_X6 hown hK hP 1 rfl rfl 4 (by decide) (hts (.fieldLink RX6 23 "GoesInto$Split" "number" "J") (List.mem_of_getElem? (i := 1) rfl)) (fun _ h9 => h9) rfl dX6_splitUp_2 ?_
  refine W.lcmp hx hb dX6_splitUp_5 ?_
  refine lv_if_ne (tgt := 10) hx hb dX6_splitUp_6 (by decide) (fun c1z => ?_) (fun c1z => ?_)
  · have c1z := fun z => c1z ((lg_cmp_eq _ _).mpr z)
    have h := xf h c1z
    refine lv_aload_n hx hb dX6_splitUp_10 rfl (lv_at hl 0 rfl) ?_
    refine lv_lload_n hx hb dX6_splitUp_11 rfl (lv_at hl 1 rfl) ?_
    refine va_put (D := (dC, dI)) (ci := 6) (v := .long v1) (ty := .long) (C := RX6) (T := TX6) (N := 8) hx hb hts iw_X6_splitUp_X6 tyX6 tyX6_ok nmX6 hown hK hP hD hS 1 rfl rfl 4 (by decide) (hts (.fieldLink RX6 23 "GoesInto$Split" "number" "J") (List.mem_of_getElem? (i := 1) rfl)) (fun _ h9 => h9) rfl (tyX6_ok 4 (by decide)) rfl rfl (Nat.le_of_ble_eq_true rfl) dX6_splitUp_12 (fun H locs hP hD hS => ?_)
    have hP : va_P (dC, dI) vwCl (wd1 cyI cyJ cyZ q_Pr q_Sp q_list q_prime q_times q_Sc q_parts sp_unlike v1 sp_partsKept sp_partsNumber n_list a_list a_prime a_times) H := hP
    have hD : va_D A (wd1 cyI cyJ cyZ q_Pr q_Sp q_list q_prime q_times q_Sc q_parts sp_unlike v1 sp_partsKept sp_partsNumber n_list a_list a_prime a_times) := hD
    refine lv_aload_n hx hb dX6_splitUp_15 rfl (lv_at hl 0 rfl) ?_
    refine lv_iconst (v := (0 : Int32)) hx hb dX6_splitUp_16 (by decide) ?_
    refine va_put (D := (dC, dI)) (ci := 6) (v := .int (0 : Int32)) (ty := .int) (C := RX6) (T := TX6) (N := 8) hx hb hts iw_X6_splitUp_X6 tyX6 tyX6_ok nmX6 hown hK hP hD hS 1 rfl rfl 3 (by decide) (hts (.fieldLink RX6 19 "GoesInto$Split" "unlike" "I") (List.mem_of_getElem? (i := 2) rfl)) (fun _ h9 => h9) rfl (tyX6_ok 3 (by decide)) rfl rfl (Nat.le_of_ble_eq_true rfl) dX6_splitUp_17 (fun H locs hP hD hS => ?_)
    have hP : va_P (dC, dI) vwCl (wd1 cyI cyJ cyZ q_Pr q_Sp q_list q_prime q_times q_Sc q_parts (0 : Int32) v1 sp_partsKept sp_partsNumber n_list a_list a_prime a_times) H := hP
    have hD : va_D A (wd1 cyI cyJ cyZ q_Pr q_Sp q_list q_prime q_times q_Sc q_parts (0 : Int32) v1 sp_partsKept sp_partsNumber n_list a_list a_prime a_times) := hD
    refine lv_aload_n hx hb dX6_splitUp_20 rfl (lv_at hl 0 rfl) ?_
    refine va_get (D := (dC, dI)) (ci := 6) (v := .ref q_Pr) (C := RX6) (T := TX6) (N := 8) hx hb hts iw_X6_splitUp_X6 hown hK hP 1 rfl rfl 0 (by decide) (hts (.fieldLink RX6 36 "GoesInto$Split" "primes" "LGoesInto$Primes;") (List.mem_of_getElem? (i := 3) rfl)) (fun _ h9 => h9) rfl dX6_splitUp_21 ?_
    refine va_getN (D := (dC, dI)) (ci := 3) (v := .ref q_list) (C := RX3) (T := TX3) (N := 2) (host := "GoesInto") hx hb hts iw_X6_splitUp_X3 hown hK hP 0 rfl rfl 1 (by decide) (va_Nw.use rfl hG.2.2.2.2.2.2.2.2.2.1) (fun _ h9 => h9) rfl dX6_splitUp_24 ?_
    refine lv_astore_n (lv' := [(3, .ref q_list), (0, .ref q_Sp), (1, .long v1)]) hx hb dX6_splitUp_27 rfl hl (by decide) rfl (fun ls hl => ?_)
    refine lv_lload_n hx hb dX6_splitUp_28 rfl (lv_at hl 2 rfl) ?_
    refine lv_lstore (lv' := [(4, .long v1), (3, .ref q_list), (0, .ref q_Sp), (1, .long v1)]) hx hb dX6_splitUp_29 hl (by decide) rfl (fun ls hl => ?_)
    refine lv_iconst (v := (0 : Int32)) hx hb dX6_splitUp_31 (by decide) ?_
    refine lv_istore (lv' := [(6, .int (0 : Int32)), (4, .long v1), (3, .ref q_list), (0, .ref q_Sp), (1, .long v1)]) hx hb dX6_splitUp_32 hl (by decide) rfl (fun ls hl => ?_)
    exact k_X6_splitUp_34 C0 N res q_Pr q_Sp q_list q_prime q_times q_Sc q_parts v1 sp_partsKept sp_partsNumber n_list a_list N v1 (0 : Int32) (0 : Int32) a_prime a_times h _ _ hP hD hS _ (lv_sub hl [3, 2, 1, 0] rfl)
  · have c1z := (lg_cmp_eq _ _).mp c1z
    have h := xt h c1z
    obtain rfl := Option.some.inj h
    exact W.vret hx hb hr (fun t ht hW => ⟨⟨(), rfl, trivial, by rw [ht]; exact hP, hD⟩, hS.F ht⟩) hS.2.2 dX6_splitUp_9 hlocks
set_option maxRecDepth 100000 in
set_option maxHeartbeats 4000000 in
theorem c_X6_splitUp (l : Launch) (dC : Nat → ClassId) (dI : Nat → Nat → Nat) (cyI cyJ cyZ : ClassId) (N : Nat) (res : Int32 × Int64 × (Nat → Int64) × (Nat → Int32)) (sz : Nat) (q_Pr : Nat) (q_Sp : Nat) (q_list : Nat) (q_prime : Nat) (q_times : Nat) (q_Sc : Nat) (q_parts : Nat) (v1 : Int64) (sp_unlike : Int32) (sp_number : Int64) (sp_partsKept : Int32) (sp_partsNumber : Int64) (n_list : Nat) (a_list : Nat → Int32) (a_prime : Nat → Int64) (a_times : Nat → Int32) (h : f_X6_splitUp N v1 sp_unlike sp_number n_list a_list a_prime a_times = some res) : Met l yX6_splitUp wsX6_splitUp rm_X6_splitUp (pC dC dI cyI cyJ cyZ [.ref q_Sp, .long v1] sz (wd1 cyI cyJ cyZ q_Pr q_Sp q_list q_prime q_times q_Sc q_parts sp_unlike sp_number sp_partsKept sp_partsNumber n_list a_list a_prime a_times)) (va_Qv (fun (_ : Unit) => True) (bW dC dI (fun (u : Unit) => (wd1 cyI cyJ cyZ q_Pr q_Sp q_list q_prime q_times q_Sc q_parts res.1 res.2.1 sp_partsKept sp_partsNumber n_list a_list res.2.2.1 res.2.2.2)) (va_A (wd1 cyI cyJ cyZ q_Pr q_Sp q_list q_prime q_times q_Sc q_parts sp_unlike sp_number sp_partsKept sp_partsNumber n_list a_list a_prime a_times) sz)) (va_A (wd1 cyI cyJ cyZ q_Pr q_Sp q_list q_prime q_times q_Sc q_parts sp_unlike sp_number sp_partsKept sp_partsNumber n_list a_list a_prime a_times) sz)) 0 0 (va_A (wd1 cyI cyJ cyZ q_Pr q_Sp q_list q_prime q_times q_Sc q_parts sp_unlike sp_number sp_partsKept sp_partsNumber n_list a_list a_prime a_times) sz) := by
  refine Met.ofW (cc := cX6_splitUp) (maxL := 9) (ret := none) (by decide) rfl ?_
  intro p e s m args below meth c s₁ B hml hv
  obtain ⟨rfl, hsz, hP, hG, hD0⟩ := hv
  have hx := B.exec
  have hb := B.bytes
  have hr := B.returns
  have hts := atoms_spec (ws := wsX6_splitUp) B.pre
  have hown : s.vm.findClass RX6 = some m.cls := findClass_of_methodNamed B.named
  have hlocks := B.notSynchronized
  subst hsz
  have hD := hD0.self (sz := s.heap.size)
  generalize hAe : va_A (wd1 cyI cyJ cyZ q_Pr q_Sp q_list q_prime q_times q_Sc q_parts sp_unlike sp_number sp_partsKept sp_partsNumber n_list a_list a_prime a_times) s.heap.size = A at hD ⊢
  have hA : ∀ q : Nat, s.heap.size ≤ q → A q := fun q h => by rw [← hAe]; exact Or.inr h
  have hS : va_S A s.heap s.heap [] := va_S.rf
  have hl := lv_entry ([.ref q_Sp, .long v1]) (n := 9) (Nat.le_of_ble_eq_true rfl)
  rw [lg_entry_eq]
  generalize (lg_sl ([.ref q_Sp, .long v1]) ++ List.replicate (9 - (lg_sl ([.ref q_Sp, .long v1])).length) Slot.unset).toArray = ls at hl ⊢
  have hl : lv_has ls 9 [(0, .ref q_Sp), (1, .long v1)] := hl
  exact k_X6_splitUp_0 ⟨hx, hb, hr, hml, hown, hts, hlocks, hG, hA⟩ N res q_Pr q_Sp q_list q_prime q_times q_Sc q_parts v1 sp_unlike sp_number sp_partsKept sp_partsNumber n_list a_list a_prime a_times  h _ _ hP hD hS _ hl
abbrev rm_X6_sumOfAll : Room := { frames := 0, cells := 0, slots := 0, locals := 0 }
theorem hd_X6_sumOfAll : yX6_sumOfAll.cls ≠ "java/lang/invoke/MethodHandle" ∧ yX6_sumOfAll.cls ≠ "java/lang/invoke/VarHandle" ∧ (parseMethodDescriptor yX6_sumOfAll.desc).map (fun d => d.parameters.length) = some 0 := by decide +kernel
theorem iw_X6_sumOfAll_X6 : ∀ w ∈ wsX60, w ∈ wsX6_sumOfAll := List.forall_mem_cons.mpr ⟨List.mem_of_getElem? (i := 4) rfl, List.forall_mem_cons.mpr ⟨List.mem_of_getElem? (i := 5) rfl, List.forall_mem_cons.mpr ⟨List.mem_of_getElem? (i := 6) rfl, List.forall_mem_cons.mpr ⟨List.mem_of_getElem? (i := 7) rfl, List.forall_mem_cons.mpr ⟨List.mem_of_getElem? (i := 8) rfl, List.forall_mem_cons.mpr ⟨List.mem_of_getElem? (i := 9) rfl, List.forall_mem_cons.mpr ⟨List.mem_of_getElem? (i := 10) rfl, List.forall_mem_cons.mpr ⟨List.mem_of_getElem? (i := 11) rfl, fun _ h => absurd h List.not_mem_nil⟩⟩⟩⟩⟩⟩⟩⟩
def j_X6_sumOfAll_54 (N : Nat) (k_4 : (Int64 × Int32) → Option (Int64)) (v1 : Int64) (v3 : Int32) (v4 : Int64) : Option (Int64) :=
  xl (v1 * v4) fun y5z =>
  xl (v3 + (1 : Int32)) fun y6z =>
  k_4 (y5z, y6z)
set_option maxRecDepth 100000 in
set_option maxHeartbeats 4000000 in
theorem k_X6_sumOfAll_54 {p : Program} {l : Launch} {e : Env} {s : State} {m : MethodId} {args : Array Value} {below : List Frame} {meth : Method} {c : Code} {dC : Nat → ClassId} {dI : Nat → Nat → Nat} {cyI cyJ cyZ : ClassId} {A : Nat → Prop} (C0 : mC p s m meth c args cX6_sumOfAll (some .long) 7 RX6 wsX6_sumOfAll (gK dC dI cyI cyJ cyZ) A) (N : Nat) (res : Int64) (q_Sp : Nat) (q_prime : Nat) (q_times : Nat) (q_Pr : Nat) (q_parts : Nat) (v4 : Int64) (sp_unlike : Int32) (sp_number : Int64) (sp_partsKept : Int32) (sp_partsNumber : Int64) (a_prime : Nat → Int64) (a_times : Nat → Int32) (k_4 : (Int64 × Int32) → Option (Int64)) (hk_4 : ∀ (v1 : Int64) (v3 : Int32), k_4 (v1, v3) = some res → ∀ (H : Heap) (locs : List Loc), va_P (dC, dI) vwCl (wd0 cyI cyJ cyZ q_Sp q_prime q_times q_Pr q_parts sp_unlike sp_number sp_partsKept sp_partsNumber a_prime a_times) H → va_D A (wd0 cyI cyJ cyZ q_Sp q_prime q_times q_Pr q_parts sp_unlike sp_number sp_partsKept sp_partsNumber a_prime a_times) → va_S A s.heap H locs → ∀ (ls : Array Slot), lv_has ls 7 [(0, .ref q_Sp), (1, .long v1), (3, .int v3)] → W p l e (headSpec wsX6_sumOfAll rm_X6_sumOfAll).room s m args below meth c H locs 0 0 (MQ below (va_Ql (fun (r : Int64) (_ : Unit) => r = res) (bW dC dI (fun (u : Unit) => (wd0 cyI cyJ cyZ q_Sp q_prime q_times q_Pr q_parts sp_unlike sp_number sp_partsKept sp_partsNumber a_prime a_times)) A) A) args s 0 0 A) (F0 m 4 ls [])) (v1 : Int64) (v3 : Int32) (h : j_X6_sumOfAll_54 N k_4 v1 v3 v4 = some res) : ∀ (H : Heap) (locs : List Loc), va_P (dC, dI) vwCl (wd0 cyI cyJ cyZ q_Sp q_prime q_times q_Pr q_parts sp_unlike sp_number sp_partsKept sp_partsNumber a_prime a_times) H → va_D A (wd0 cyI cyJ cyZ q_Sp q_prime q_times q_Pr q_parts sp_unlike sp_number sp_partsKept sp_partsNumber a_prime a_times) → va_S A s.heap H locs → ∀ (ls : Array Slot), lv_has ls 7 [(0, .ref q_Sp), (1, .long v1), (3, .int v3), (4, .long v4)] → W p l e (headSpec wsX6_sumOfAll rm_X6_sumOfAll).room s m args below meth c H locs 0 0 (MQ below (va_Ql (fun (r : Int64) (_ : Unit) => r = res) (bW dC dI (fun (u : Unit) => (wd0 cyI cyJ cyZ q_Sp q_prime q_times q_Pr q_parts sp_unlike sp_number sp_partsKept sp_partsNumber a_prime a_times)) A) A) args s 0 0 A) (F0 m 54 ls []) := by
  obtain ⟨hx, hb, hr, hml, hown, hts, hlocks, hG, hA⟩ := id C0
  have hK := hG.1
  intro H locs hP hD hS ls hl
  unfold j_X6_sumOfAll_54 at h
  refine lv_lload_n hx hb dX6_sumOfAll_54 rfl (lv_at hl 1 rfl) ?_
  refine lv_lload hx hb dX6_sumOfAll_55 (lv_at hl 3 rfl) ?_
  refine lv_lmul hx hb dX6_sumOfAll_57 ?_
  refine lv_topl (fun y5z ey5z => ?_)
  have h := xl_at h ey5z
  refine lv_lstore_n (lv' := [(1, .long y5z), (0, .ref q_Sp), (3, .int v3), (4, .long v4)]) hx hb dX6_sumOfAll_58 rfl hl (by decide) rfl (fun ls hl => ?_)
  obtain ⟨y6z, ey6z⟩ : ∃ z : Int32, z = v3 + (1 : Int32) := ⟨_, rfl⟩
  have h := xl_at h ey6z
  refine lv_iinc (v := y6z) (lv' := [(3, .int y6z), (1, .long y5z), (0, .ref q_Sp), (4, .long v4)]) hx hb dX6_sumOfAll_59 hl (k := 2) rfl (by rw [ey6z]; rfl) (by decide) rfl (fun ls hl => ?_)
  refine lv_goto (tgt := 4) hx hb dX6_sumOfAll_62 (by decide) ?_
  exact hk_4 y5z y6z h _ _ hP hD hS _ (lv_sub hl [2, 1, 0] rfl)
def s_X6_sumOfAll_24 (N : Nat) (k_4 : (Int64 × Int32) → Option (Int64)) (v1 : Int64) (v3 : Int32) (a_prime : Nat → Int64) (a_times : Nat → Int32) (k_24 : (Int64 × Int32) → Option (Int64)) (v4 : Int64) (v6 : Int32) : Option (Int64) :=
  if v3 < 0 ∨ 12 ≤ v3.toNatClampNeg then
    none
  else
    if (a_times v3.toNatClampNeg) ≤ v6 then
      j_X6_sumOfAll_54 N k_4 v1 v3 v4
    else
      xl ((v4 * (a_prime v3.toNatClampNeg)) + (1 : Int64)) fun y7z =>
      xl (v6 + (1 : Int32)) fun y8z =>
      k_24 (y7z, y8z)
def l_X6_sumOfAll_24 (N : Nat) (k_4 : (Int64 × Int32) → Option (Int64)) (v1 : Int64) (v3 : Int32) (a_prime : Nat → Int64) (a_times : Nat → Int32) (n : Nat) (z : Int64 × Int32) : Option (Int64) := lp (fun k z => s_X6_sumOfAll_24 N k_4 v1 v3 a_prime a_times k z.1 z.2) n z
set_option maxRecDepth 100000 in
set_option maxHeartbeats 4000000 in
theorem k_X6_sumOfAll_24 {p : Program} {l : Launch} {e : Env} {s : State} {m : MethodId} {args : Array Value} {below : List Frame} {meth : Method} {c : Code} {dC : Nat → ClassId} {dI : Nat → Nat → Nat} {cyI cyJ cyZ : ClassId} {A : Nat → Prop} (C0 : mC p s m meth c args cX6_sumOfAll (some .long) 7 RX6 wsX6_sumOfAll (gK dC dI cyI cyJ cyZ) A) (N : Nat) (res : Int64) (q_Sp : Nat) (q_prime : Nat) (q_times : Nat) (q_Pr : Nat) (q_parts : Nat) (sp_unlike : Int32) (sp_number : Int64) (sp_partsKept : Int32) (sp_partsNumber : Int64) (a_prime : Nat → Int64) (a_times : Nat → Int32) (k_4 : (Int64 × Int32) → Option (Int64)) (hk_4 : ∀ (v1 : Int64) (v3 : Int32), k_4 (v1, v3) = some res → ∀ (H : Heap) (locs : List Loc), va_P (dC, dI) vwCl (wd0 cyI cyJ cyZ q_Sp q_prime q_times q_Pr q_parts sp_unlike sp_number sp_partsKept sp_partsNumber a_prime a_times) H → va_D A (wd0 cyI cyJ cyZ q_Sp q_prime q_times q_Pr q_parts sp_unlike sp_number sp_partsKept sp_partsNumber a_prime a_times) → va_S A s.heap H locs → ∀ (ls : Array Slot), lv_has ls 7 [(0, .ref q_Sp), (1, .long v1), (3, .int v3)] → W p l e (headSpec wsX6_sumOfAll rm_X6_sumOfAll).room s m args below meth c H locs 0 0 (MQ below (va_Ql (fun (r : Int64) (_ : Unit) => r = res) (bW dC dI (fun (u : Unit) => (wd0 cyI cyJ cyZ q_Sp q_prime q_times q_Pr q_parts sp_unlike sp_number sp_partsKept sp_partsNumber a_prime a_times)) A) A) args s 0 0 A) (F0 m 4 ls [])) (v1 : Int64) (v3 : Int32) : ∀ (n : Nat) (v4 : Int64) (v6 : Int32), l_X6_sumOfAll_24 N k_4 v1 v3 a_prime a_times n (v4, v6) = some res → ∀ (H : Heap) (locs : List Loc), va_P (dC, dI) vwCl (wd0 cyI cyJ cyZ q_Sp q_prime q_times q_Pr q_parts sp_unlike sp_number sp_partsKept sp_partsNumber a_prime a_times) H → va_D A (wd0 cyI cyJ cyZ q_Sp q_prime q_times q_Pr q_parts sp_unlike sp_number sp_partsKept sp_partsNumber a_prime a_times) → va_S A s.heap H locs → ∀ (ls : Array Slot), lv_has ls 7 [(0, .ref q_Sp), (1, .long v1), (3, .int v3), (4, .long v4), (6, .int v6)] → W p l e (headSpec wsX6_sumOfAll rm_X6_sumOfAll).room s m args below meth c H locs 0 0 (MQ below (va_Ql (fun (r : Int64) (_ : Unit) => r = res) (bW dC dI (fun (u : Unit) => (wd0 cyI cyJ cyZ q_Sp q_prime q_times q_Pr q_parts sp_unlike sp_number sp_partsKept sp_partsNumber a_prime a_times)) A) A) args s 0 0 A) (F0 m 24 ls []) := by
  obtain ⟨hx, hb, hr, hml, hown, hts, hlocks, hG, hA⟩ := id C0
  have hK := hG.1
  intro n
  induction n with
  | zero =>
    intro v4 v6 h
    cases h
  | succ n ih =>
    intro v4 v6 h H locs hP hD hS ls hl
    have h : s_X6_sumOfAll_24 N k_4 v1 v3 a_prime a_times (l_X6_sumOfAll_24 N k_4 v1 v3 a_prime a_times n) v4 v6 = some res := h
    unfold s_X6_sumOfAll_24 at h
    refine lv_iload hx hb dX6_sumOfAll_24 (lv_at hl 4 rfl) ?_
    refine lv_aload_n hx hb dX6_sumOfAll_26 rfl (lv_at hl 0 rfl) ?_
    refine va_get (D := (dC, dI)) (ci := 6) (v := .ref q_times) (C := RX6) (T := TX6) (N := 8) hx hb hts iw_X6_sumOfAll_X6 hown hK hP 0 rfl rfl 2 (by decide) (hts (.fieldLink RX6 15 "GoesInto$Split" "times" "[I") (List.mem_of_getElem? (i := 2) rfl)) (fun _ h9 => h9) rfl dX6_sumOfAll_27 ?_
    refine lv_iload_n hx hb dX6_sumOfAll_30 rfl (lv_at hl 2 rfl) ?_
    obtain ⟨b3z, h⟩ := xn h
    refine va_iald hx hb hK hP 2 0 rfl rfl b3z dX6_sumOfAll_31 ?_
    refine lv_icmp_ge (tgt := 54) hx hb dX6_sumOfAll_32 (by decide) (fun c4z => ?_) (fun c4z => ?_)
    · have h := xt h c4z
      exact k_X6_sumOfAll_54 C0 N res q_Sp q_prime q_times q_Pr q_parts v4 sp_unlike sp_number sp_partsKept sp_partsNumber a_prime a_times k_4 hk_4 v1 v3  h _ _ hP hD hS _ (lv_sub hl [0, 1, 2, 3] rfl)
    · have h := xf h c4z
      refine lv_lload hx hb dX6_sumOfAll_35 (lv_at hl 3 rfl) ?_
      refine lv_aload_n hx hb dX6_sumOfAll_37 rfl (lv_at hl 0 rfl) ?_
      refine va_get (D := (dC, dI)) (ci := 6) (v := .ref q_prime) (C := RX6) (T := TX6) (N := 8) hx hb hts iw_X6_sumOfAll_X6 hown hK hP 0 rfl rfl 1 (by decide) (hts (.fieldLink RX6 11 "GoesInto$Split" "prime" "[J") (List.mem_of_getElem? (i := 3) rfl)) (fun _ h9 => h9) rfl dX6_sumOfAll_38 ?_
      refine lv_iload_n hx hb dX6_sumOfAll_41 rfl (lv_at hl 2 rfl) ?_
      refine va_lald hx hb hK hP 1 1 rfl rfl b3z dX6_sumOfAll_42 ?_
      refine lv_lmul hx hb dX6_sumOfAll_43 ?_
      refine lv_lconst (v := (1 : Int64)) hx hb dX6_sumOfAll_44 (by decide) ?_
      refine lv_ladd hx hb dX6_sumOfAll_45 ?_
      refine lv_topl (fun y7z ey7z => ?_)
      have h := xl_at h ey7z
      refine lv_lstore (lv' := [(4, .long y7z), (0, .ref q_Sp), (1, .long v1), (3, .int v3), (6, .int v6)]) hx hb dX6_sumOfAll_46 hl (by decide) rfl (fun ls hl => ?_)
      obtain ⟨y8z, ey8z⟩ : ∃ z : Int32, z = v6 + (1 : Int32) := ⟨_, rfl⟩
      have h := xl_at h ey8z
      refine lv_iinc (v := y8z) (lv' := [(6, .int y8z), (4, .long y7z), (0, .ref q_Sp), (1, .long v1), (3, .int v3)]) hx hb dX6_sumOfAll_48 hl (k := 4) rfl (by rw [ey8z]; rfl) (by decide) rfl (fun ls hl => ?_)
      refine lv_goto (tgt := 24) hx hb dX6_sumOfAll_51 (by decide) ?_
      exact ih y7z y8z h _ _ hP hD hS _ (lv_sub hl [2, 3, 4, 1, 0] rfl)
def s_X6_sumOfAll_4 (N : Nat) (sp_unlike : Int32) (a_prime : Nat → Int64) (a_times : Nat → Int32) (k_4 : (Int64 × Int32) → Option (Int64)) (v1 : Int64) (v3 : Int32) : Option (Int64) :=
  if sp_unlike ≤ v3 then
    some v1
  else
    if (12 : Int32) ≤ v3 then
      some v1
    else
      l_X6_sumOfAll_24 N k_4 v1 v3 a_prime a_times N ((1 : Int64), (0 : Int32))
def l_X6_sumOfAll_4 (N : Nat) (sp_unlike : Int32) (a_prime : Nat → Int64) (a_times : Nat → Int32) (n : Nat) (z : Int64 × Int32) : Option (Int64) := lp (fun k z => s_X6_sumOfAll_4 N sp_unlike a_prime a_times k z.1 z.2) n z
set_option maxRecDepth 100000 in
set_option maxHeartbeats 4000000 in
theorem k_X6_sumOfAll_4 {p : Program} {l : Launch} {e : Env} {s : State} {m : MethodId} {args : Array Value} {below : List Frame} {meth : Method} {c : Code} {dC : Nat → ClassId} {dI : Nat → Nat → Nat} {cyI cyJ cyZ : ClassId} {A : Nat → Prop} (C0 : mC p s m meth c args cX6_sumOfAll (some .long) 7 RX6 wsX6_sumOfAll (gK dC dI cyI cyJ cyZ) A) (N : Nat) (res : Int64) (q_Sp : Nat) (q_prime : Nat) (q_times : Nat) (q_Pr : Nat) (q_parts : Nat) (sp_unlike : Int32) (sp_number : Int64) (sp_partsKept : Int32) (sp_partsNumber : Int64) (a_prime : Nat → Int64) (a_times : Nat → Int32) : ∀ (n : Nat) (v1 : Int64) (v3 : Int32), l_X6_sumOfAll_4 N sp_unlike a_prime a_times n (v1, v3) = some res → ∀ (H : Heap) (locs : List Loc), va_P (dC, dI) vwCl (wd0 cyI cyJ cyZ q_Sp q_prime q_times q_Pr q_parts sp_unlike sp_number sp_partsKept sp_partsNumber a_prime a_times) H → va_D A (wd0 cyI cyJ cyZ q_Sp q_prime q_times q_Pr q_parts sp_unlike sp_number sp_partsKept sp_partsNumber a_prime a_times) → va_S A s.heap H locs → ∀ (ls : Array Slot), lv_has ls 7 [(0, .ref q_Sp), (1, .long v1), (3, .int v3)] → W p l e (headSpec wsX6_sumOfAll rm_X6_sumOfAll).room s m args below meth c H locs 0 0 (MQ below (va_Ql (fun (r : Int64) (_ : Unit) => r = res) (bW dC dI (fun (u : Unit) => (wd0 cyI cyJ cyZ q_Sp q_prime q_times q_Pr q_parts sp_unlike sp_number sp_partsKept sp_partsNumber a_prime a_times)) A) A) args s 0 0 A) (F0 m 4 ls []) := by
  obtain ⟨hx, hb, hr, hml, hown, hts, hlocks, hG, hA⟩ := id C0
  have hK := hG.1
  intro n
  induction n with
  | zero =>
    intro v1 v3 h
    cases h
  | succ n ih =>
    intro v1 v3 h H locs hP hD hS ls hl
    have h : s_X6_sumOfAll_4 N sp_unlike a_prime a_times (l_X6_sumOfAll_4 N sp_unlike a_prime a_times n) v1 v3 = some res := h
    unfold s_X6_sumOfAll_4 at h
    refine lv_iload_n hx hb dX6_sumOfAll_4 rfl (lv_at hl 2 rfl) ?_
    refine lv_aload_n hx hb dX6_sumOfAll_5 rfl (lv_at hl 0 rfl) ?_
    refine va_get (D := (dC, dI)) (ci := 6) (v := .int sp_unlike) (C := RX6) (T := TX6) (N := 8) hx hb hts iw_X6_sumOfAll_X6 hown hK hP 0 rfl rfl 3 (by decide) (hts (.fieldLink RX6 19 "GoesInto$Split" "unlike" "I") (List.mem_of_getElem? (i := 1) rfl)) (fun _ h9 => h9) rfl dX6_sumOfAll_6 ?_
    refine lv_icmp_ge (tgt := 65) hx hb dX6_sumOfAll_9 (by decide) (fun c1z => ?_) (fun c1z => ?_)
    · have h := xt h c1z
      refine lv_lload_n hx hb dX6_sumOfAll_65 rfl (lv_at hl 1 rfl) ?_
      obtain rfl := Option.some.inj h
      exact W.lret (v := v1) hx hb hr (fun t ht hW => ⟨⟨_, (), rfl, rfl, by rw [ht]; exact hP, hD⟩, hS.F ht⟩) hS.2.2 dX6_sumOfAll_66 hlocks
    · have h := xf h c1z
      refine lv_iload_n hx hb dX6_sumOfAll_12 rfl (lv_at hl 2 rfl) ?_
      refine lv_bipush (v := (12 : Int32)) hx hb dX6_sumOfAll_13 (by decide) ?_
      refine lv_icmp_ge (tgt := 65) hx hb dX6_sumOfAll_15 (by decide) (fun c2z => ?_) (fun c2z => ?_)
      · have h := xt h c2z
        refine lv_lload_n hx hb dX6_sumOfAll_65 rfl (lv_at hl 1 rfl) ?_
        obtain rfl := Option.some.inj h
        exact W.lret (v := v1) hx hb hr (fun t ht hW => ⟨⟨_, (), rfl, rfl, by rw [ht]; exact hP, hD⟩, hS.F ht⟩) hS.2.2 dX6_sumOfAll_66 hlocks
      · have h := xf h c2z
        refine lv_lconst (v := (1 : Int64)) hx hb dX6_sumOfAll_18 (by decide) ?_
        refine lv_lstore (lv' := [(4, .long (1 : Int64)), (0, .ref q_Sp), (1, .long v1), (3, .int v3)]) hx hb dX6_sumOfAll_19 hl (by decide) rfl (fun ls hl => ?_)
        refine lv_iconst (v := (0 : Int32)) hx hb dX6_sumOfAll_21 (by decide) ?_
        refine lv_istore (lv' := [(6, .int (0 : Int32)), (4, .long (1 : Int64)), (0, .ref q_Sp), (1, .long v1), (3, .int v3)]) hx hb dX6_sumOfAll_22 hl (by decide) rfl (fun ls hl => ?_)
        exact k_X6_sumOfAll_24 C0 N res q_Sp q_prime q_times q_Pr q_parts sp_unlike sp_number sp_partsKept sp_partsNumber a_prime a_times _ ih v1 v3 N (1 : Int64) (0 : Int32) h _ _ hP hD hS _ (lv_sub hl [2, 3, 4, 1, 0] rfl)
def f_X6_sumOfAll (N : Nat) (sp_unlike : Int32) (a_prime : Nat → Int64) (a_times : Nat → Int32) : Option (Int64) :=
  l_X6_sumOfAll_4 N sp_unlike a_prime a_times N ((1 : Int64), (0 : Int32))
set_option maxRecDepth 100000 in
set_option maxHeartbeats 4000000 in
theorem k_X6_sumOfAll_0 {p : Program} {l : Launch} {e : Env} {s : State} {m : MethodId} {args : Array Value} {below : List Frame} {meth : Method} {c : Code} {dC : Nat → ClassId} {dI : Nat → Nat → Nat} {cyI cyJ cyZ : ClassId} {A : Nat → Prop} (C0 : mC p s m meth c args cX6_sumOfAll (some .long) 7 RX6 wsX6_sumOfAll (gK dC dI cyI cyJ cyZ) A) (N : Nat) (res : Int64) (q_Sp : Nat) (q_prime : Nat) (q_times : Nat) (q_Pr : Nat) (q_parts : Nat) (sp_unlike : Int32) (sp_number : Int64) (sp_partsKept : Int32) (sp_partsNumber : Int64) (a_prime : Nat → Int64) (a_times : Nat → Int32) (h : f_X6_sumOfAll N sp_unlike a_prime a_times = some res) : ∀ (H : Heap) (locs : List Loc), va_P (dC, dI) vwCl (wd0 cyI cyJ cyZ q_Sp q_prime q_times q_Pr q_parts sp_unlike sp_number sp_partsKept sp_partsNumber a_prime a_times) H → va_D A (wd0 cyI cyJ cyZ q_Sp q_prime q_times q_Pr q_parts sp_unlike sp_number sp_partsKept sp_partsNumber a_prime a_times) → va_S A s.heap H locs → ∀ (ls : Array Slot), lv_has ls 7 [(0, .ref q_Sp)] → W p l e (headSpec wsX6_sumOfAll rm_X6_sumOfAll).room s m args below meth c H locs 0 0 (MQ below (va_Ql (fun (r : Int64) (_ : Unit) => r = res) (bW dC dI (fun (u : Unit) => (wd0 cyI cyJ cyZ q_Sp q_prime q_times q_Pr q_parts sp_unlike sp_number sp_partsKept sp_partsNumber a_prime a_times)) A) A) args s 0 0 A) (F0 m 0 ls []) := by
  obtain ⟨hx, hb, hr, hml, hown, hts, hlocks, hG, hA⟩ := id C0
  have hK := hG.1
  intro H locs hP hD hS ls hl
  unfold f_X6_sumOfAll at h
  refine lv_lconst (v := (1 : Int64)) hx hb dX6_sumOfAll_0 (by decide) ?_
  refine lv_lstore_n (lv' := [(1, .long (1 : Int64)), (0, .ref q_Sp)]) hx hb dX6_sumOfAll_1 rfl hl (by decide) rfl (fun ls hl => ?_)
  refine lv_iconst (v := (0 : Int32)) hx hb dX6_sumOfAll_2 (by decide) ?_
  refine lv_istore_n (lv' := [(3, .int (0 : Int32)), (1, .long (1 : Int64)), (0, .ref q_Sp)]) hx hb dX6_sumOfAll_3 rfl hl (by decide) rfl (fun ls hl => ?_)
  exact k_X6_sumOfAll_4 C0 N res q_Sp q_prime q_times q_Pr q_parts sp_unlike sp_number sp_partsKept sp_partsNumber a_prime a_times N (1 : Int64) (0 : Int32) h _ _ hP hD hS _ (lv_sub hl [2, 1, 0] rfl)
set_option maxRecDepth 100000 in
set_option maxHeartbeats 4000000 in
theorem c_X6_sumOfAll (l : Launch) (dC : Nat → ClassId) (dI : Nat → Nat → Nat) (cyI cyJ cyZ : ClassId) (N : Nat) (res : Int64) (sz : Nat) (q_Sp : Nat) (q_prime : Nat) (q_times : Nat) (q_Pr : Nat) (q_parts : Nat) (sp_unlike : Int32) (sp_number : Int64) (sp_partsKept : Int32) (sp_partsNumber : Int64) (a_prime : Nat → Int64) (a_times : Nat → Int32) (h : f_X6_sumOfAll N  sp_unlike a_prime a_times = some res) : Met l yX6_sumOfAll wsX6_sumOfAll rm_X6_sumOfAll (pC dC dI cyI cyJ cyZ [.ref q_Sp] sz (wd0 cyI cyJ cyZ q_Sp q_prime q_times q_Pr q_parts sp_unlike sp_number sp_partsKept sp_partsNumber a_prime a_times)) (va_Ql (fun (r : Int64) (_ : Unit) => r = res) (bW dC dI (fun (u : Unit) => (wd0 cyI cyJ cyZ q_Sp q_prime q_times q_Pr q_parts sp_unlike sp_number sp_partsKept sp_partsNumber a_prime a_times)) (va_A (wd0 cyI cyJ cyZ q_Sp q_prime q_times q_Pr q_parts sp_unlike sp_number sp_partsKept sp_partsNumber a_prime a_times) sz)) (va_A (wd0 cyI cyJ cyZ q_Sp q_prime q_times q_Pr q_parts sp_unlike sp_number sp_partsKept sp_partsNumber a_prime a_times) sz)) 0 0 (va_A (wd0 cyI cyJ cyZ q_Sp q_prime q_times q_Pr q_parts sp_unlike sp_number sp_partsKept sp_partsNumber a_prime a_times) sz) := by
  refine Met.ofW (cc := cX6_sumOfAll) (maxL := 7) (ret := (some .long)) (by decide) rfl ?_
  intro p e s m args below meth c s₁ B hml hv
  obtain ⟨rfl, hsz, hP, hG, hD0⟩ := hv
  have hx := B.exec
  have hb := B.bytes
  have hr := B.returns
  have hts := atoms_spec (ws := wsX6_sumOfAll) B.pre
  have hown : s.vm.findClass RX6 = some m.cls := findClass_of_methodNamed B.named
  have hlocks := B.notSynchronized
  subst hsz
  have hD := hD0.self (sz := s.heap.size)
  generalize hAe : va_A (wd0 cyI cyJ cyZ q_Sp q_prime q_times q_Pr q_parts sp_unlike sp_number sp_partsKept sp_partsNumber a_prime a_times) s.heap.size = A at hD ⊢
  have hA : ∀ q : Nat, s.heap.size ≤ q → A q := fun q h => by rw [← hAe]; exact Or.inr h
  have hS : va_S A s.heap s.heap [] := va_S.rf
  have hl := lv_entry ([.ref q_Sp]) (n := 7) (Nat.le_of_ble_eq_true rfl)
  rw [lg_entry_eq]
  generalize (lg_sl ([.ref q_Sp]) ++ List.replicate (7 - (lg_sl ([.ref q_Sp])).length) Slot.unset).toArray = ls at hl ⊢
  have hl : lv_has ls 7 [(0, .ref q_Sp)] := hl
  exact k_X6_sumOfAll_0 ⟨hx, hb, hr, hml, hown, hts, hlocks, hG, hA⟩ N res q_Sp q_prime q_times q_Pr q_parts sp_unlike sp_number sp_partsKept sp_partsNumber a_prime a_times  h _ _ hP hD hS _ hl
abbrev rm_X6_sumOfApart : Room := { frames := 0, cells := 0, slots := 0, locals := 0 }
theorem hd_X6_sumOfApart : yX6_sumOfApart.cls ≠ "java/lang/invoke/MethodHandle" ∧ yX6_sumOfApart.cls ≠ "java/lang/invoke/VarHandle" ∧ (parseMethodDescriptor yX6_sumOfApart.desc).map (fun d => d.parameters.length) = some 0 := by decide +kernel
theorem iw_X6_sumOfApart_X6 : ∀ w ∈ wsX60, w ∈ wsX6_sumOfApart := List.forall_mem_cons.mpr ⟨List.mem_of_getElem? (i := 4) rfl, List.forall_mem_cons.mpr ⟨List.mem_of_getElem? (i := 5) rfl, List.forall_mem_cons.mpr ⟨List.mem_of_getElem? (i := 6) rfl, List.forall_mem_cons.mpr ⟨List.mem_of_getElem? (i := 7) rfl, List.forall_mem_cons.mpr ⟨List.mem_of_getElem? (i := 8) rfl, List.forall_mem_cons.mpr ⟨List.mem_of_getElem? (i := 9) rfl, List.forall_mem_cons.mpr ⟨List.mem_of_getElem? (i := 10) rfl, List.forall_mem_cons.mpr ⟨List.mem_of_getElem? (i := 11) rfl, fun _ h => absurd h List.not_mem_nil⟩⟩⟩⟩⟩⟩⟩⟩
def j_X6_sumOfApart_52 (N : Nat) (k_4 : (Int64 × Int32) → Option (Int64)) (v1 : Int64) (v3 : Int32) (v4 : Int64) : Option (Int64) :=
  xl (v1 * (v4 + (1 : Int64))) fun y5z =>
  xl (v3 + (1 : Int32)) fun y6z =>
  k_4 (y5z, y6z)
set_option maxRecDepth 100000 in
set_option maxHeartbeats 4000000 in
theorem k_X6_sumOfApart_52 {p : Program} {l : Launch} {e : Env} {s : State} {m : MethodId} {args : Array Value} {below : List Frame} {meth : Method} {c : Code} {dC : Nat → ClassId} {dI : Nat → Nat → Nat} {cyI cyJ cyZ : ClassId} {A : Nat → Prop} (C0 : mC p s m meth c args cX6_sumOfApart (some .long) 7 RX6 wsX6_sumOfApart (gK dC dI cyI cyJ cyZ) A) (N : Nat) (res : Int64) (q_Sp : Nat) (q_prime : Nat) (q_times : Nat) (q_Pr : Nat) (q_parts : Nat) (v4 : Int64) (sp_unlike : Int32) (sp_number : Int64) (sp_partsKept : Int32) (sp_partsNumber : Int64) (a_prime : Nat → Int64) (a_times : Nat → Int32) (k_4 : (Int64 × Int32) → Option (Int64)) (hk_4 : ∀ (v1 : Int64) (v3 : Int32), k_4 (v1, v3) = some res → ∀ (H : Heap) (locs : List Loc), va_P (dC, dI) vwCl (wd0 cyI cyJ cyZ q_Sp q_prime q_times q_Pr q_parts sp_unlike sp_number sp_partsKept sp_partsNumber a_prime a_times) H → va_D A (wd0 cyI cyJ cyZ q_Sp q_prime q_times q_Pr q_parts sp_unlike sp_number sp_partsKept sp_partsNumber a_prime a_times) → va_S A s.heap H locs → ∀ (ls : Array Slot), lv_has ls 7 [(0, .ref q_Sp), (1, .long v1), (3, .int v3)] → W p l e (headSpec wsX6_sumOfApart rm_X6_sumOfApart).room s m args below meth c H locs 0 0 (MQ below (va_Ql (fun (r : Int64) (_ : Unit) => r = res) (bW dC dI (fun (u : Unit) => (wd0 cyI cyJ cyZ q_Sp q_prime q_times q_Pr q_parts sp_unlike sp_number sp_partsKept sp_partsNumber a_prime a_times)) A) A) args s 0 0 A) (F0 m 4 ls [])) (v1 : Int64) (v3 : Int32) (h : j_X6_sumOfApart_52 N k_4 v1 v3 v4 = some res) : ∀ (H : Heap) (locs : List Loc), va_P (dC, dI) vwCl (wd0 cyI cyJ cyZ q_Sp q_prime q_times q_Pr q_parts sp_unlike sp_number sp_partsKept sp_partsNumber a_prime a_times) H → va_D A (wd0 cyI cyJ cyZ q_Sp q_prime q_times q_Pr q_parts sp_unlike sp_number sp_partsKept sp_partsNumber a_prime a_times) → va_S A s.heap H locs → ∀ (ls : Array Slot), lv_has ls 7 [(0, .ref q_Sp), (1, .long v1), (3, .int v3), (4, .long v4)] → W p l e (headSpec wsX6_sumOfApart rm_X6_sumOfApart).room s m args below meth c H locs 0 0 (MQ below (va_Ql (fun (r : Int64) (_ : Unit) => r = res) (bW dC dI (fun (u : Unit) => (wd0 cyI cyJ cyZ q_Sp q_prime q_times q_Pr q_parts sp_unlike sp_number sp_partsKept sp_partsNumber a_prime a_times)) A) A) args s 0 0 A) (F0 m 52 ls []) := by
  obtain ⟨hx, hb, hr, hml, hown, hts, hlocks, hG, hA⟩ := id C0
  have hK := hG.1
  intro H locs hP hD hS ls hl
  unfold j_X6_sumOfApart_52 at h
  refine lv_lload_n hx hb dX6_sumOfApart_52 rfl (lv_at hl 1 rfl) ?_
  refine lv_lload hx hb dX6_sumOfApart_53 (lv_at hl 3 rfl) ?_
  refine lv_lconst (v := (1 : Int64)) hx hb dX6_sumOfApart_55 (by decide) ?_
  refine lv_ladd hx hb dX6_sumOfApart_56 ?_
  refine lv_lmul hx hb dX6_sumOfApart_57 ?_
  refine lv_topl (fun y5z ey5z => ?_)
  have h := xl_at h ey5z
  refine lv_lstore_n (lv' := [(1, .long y5z), (0, .ref q_Sp), (3, .int v3), (4, .long v4)]) hx hb dX6_sumOfApart_58 rfl hl (by decide) rfl (fun ls hl => ?_)
  obtain ⟨y6z, ey6z⟩ : ∃ z : Int32, z = v3 + (1 : Int32) := ⟨_, rfl⟩
  have h := xl_at h ey6z
  refine lv_iinc (v := y6z) (lv' := [(3, .int y6z), (1, .long y5z), (0, .ref q_Sp), (4, .long v4)]) hx hb dX6_sumOfApart_59 hl (k := 2) rfl (by rw [ey6z]; rfl) (by decide) rfl (fun ls hl => ?_)
  refine lv_goto (tgt := 4) hx hb dX6_sumOfApart_62 (by decide) ?_
  exact hk_4 y5z y6z h _ _ hP hD hS _ (lv_sub hl [2, 1, 0] rfl)
def s_X6_sumOfApart_24 (N : Nat) (k_4 : (Int64 × Int32) → Option (Int64)) (v1 : Int64) (v3 : Int32) (a_prime : Nat → Int64) (a_times : Nat → Int32) (k_24 : (Int64 × Int32) → Option (Int64)) (v4 : Int64) (v6 : Int32) : Option (Int64) :=
  if v3 < 0 ∨ 12 ≤ v3.toNatClampNeg then
    none
  else
    if (a_times v3.toNatClampNeg) ≤ v6 then
      j_X6_sumOfApart_52 N k_4 v1 v3 v4
    else
      xl (v4 * (a_prime v3.toNatClampNeg)) fun y7z =>
      xl (v6 + (1 : Int32)) fun y8z =>
      k_24 (y7z, y8z)
def l_X6_sumOfApart_24 (N : Nat) (k_4 : (Int64 × Int32) → Option (Int64)) (v1 : Int64) (v3 : Int32) (a_prime : Nat → Int64) (a_times : Nat → Int32) (n : Nat) (z : Int64 × Int32) : Option (Int64) := lp (fun k z => s_X6_sumOfApart_24 N k_4 v1 v3 a_prime a_times k z.1 z.2) n z
set_option maxRecDepth 100000 in
set_option maxHeartbeats 4000000 in
theorem k_X6_sumOfApart_24 {p : Program} {l : Launch} {e : Env} {s : State} {m : MethodId} {args : Array Value} {below : List Frame} {meth : Method} {c : Code} {dC : Nat → ClassId} {dI : Nat → Nat → Nat} {cyI cyJ cyZ : ClassId} {A : Nat → Prop} (C0 : mC p s m meth c args cX6_sumOfApart (some .long) 7 RX6 wsX6_sumOfApart (gK dC dI cyI cyJ cyZ) A) (N : Nat) (res : Int64) (q_Sp : Nat) (q_prime : Nat) (q_times : Nat) (q_Pr : Nat) (q_parts : Nat) (sp_unlike : Int32) (sp_number : Int64) (sp_partsKept : Int32) (sp_partsNumber : Int64) (a_prime : Nat → Int64) (a_times : Nat → Int32) (k_4 : (Int64 × Int32) → Option (Int64)) (hk_4 : ∀ (v1 : Int64) (v3 : Int32), k_4 (v1, v3) = some res → ∀ (H : Heap) (locs : List Loc), va_P (dC, dI) vwCl (wd0 cyI cyJ cyZ q_Sp q_prime q_times q_Pr q_parts sp_unlike sp_number sp_partsKept sp_partsNumber a_prime a_times) H → va_D A (wd0 cyI cyJ cyZ q_Sp q_prime q_times q_Pr q_parts sp_unlike sp_number sp_partsKept sp_partsNumber a_prime a_times) → va_S A s.heap H locs → ∀ (ls : Array Slot), lv_has ls 7 [(0, .ref q_Sp), (1, .long v1), (3, .int v3)] → W p l e (headSpec wsX6_sumOfApart rm_X6_sumOfApart).room s m args below meth c H locs 0 0 (MQ below (va_Ql (fun (r : Int64) (_ : Unit) => r = res) (bW dC dI (fun (u : Unit) => (wd0 cyI cyJ cyZ q_Sp q_prime q_times q_Pr q_parts sp_unlike sp_number sp_partsKept sp_partsNumber a_prime a_times)) A) A) args s 0 0 A) (F0 m 4 ls [])) (v1 : Int64) (v3 : Int32) : ∀ (n : Nat) (v4 : Int64) (v6 : Int32), l_X6_sumOfApart_24 N k_4 v1 v3 a_prime a_times n (v4, v6) = some res → ∀ (H : Heap) (locs : List Loc), va_P (dC, dI) vwCl (wd0 cyI cyJ cyZ q_Sp q_prime q_times q_Pr q_parts sp_unlike sp_number sp_partsKept sp_partsNumber a_prime a_times) H → va_D A (wd0 cyI cyJ cyZ q_Sp q_prime q_times q_Pr q_parts sp_unlike sp_number sp_partsKept sp_partsNumber a_prime a_times) → va_S A s.heap H locs → ∀ (ls : Array Slot), lv_has ls 7 [(0, .ref q_Sp), (1, .long v1), (3, .int v3), (4, .long v4), (6, .int v6)] → W p l e (headSpec wsX6_sumOfApart rm_X6_sumOfApart).room s m args below meth c H locs 0 0 (MQ below (va_Ql (fun (r : Int64) (_ : Unit) => r = res) (bW dC dI (fun (u : Unit) => (wd0 cyI cyJ cyZ q_Sp q_prime q_times q_Pr q_parts sp_unlike sp_number sp_partsKept sp_partsNumber a_prime a_times)) A) A) args s 0 0 A) (F0 m 24 ls []) := by
  obtain ⟨hx, hb, hr, hml, hown, hts, hlocks, hG, hA⟩ := id C0
  have hK := hG.1
  intro n
  induction n with
  | zero =>
    intro v4 v6 h
    cases h
  | succ n ih =>
    intro v4 v6 h H locs hP hD hS ls hl
    have h : s_X6_sumOfApart_24 N k_4 v1 v3 a_prime a_times (l_X6_sumOfApart_24 N k_4 v1 v3 a_prime a_times n) v4 v6 = some res := h
    unfold s_X6_sumOfApart_24 at h
    refine lv_iload hx hb dX6_sumOfApart_24 (lv_at hl 4 rfl) ?_
    refine lv_aload_n hx hb dX6_sumOfApart_26 rfl (lv_at hl 0 rfl) ?_
    refine va_get (D := (dC, dI)) (ci := 6) (v := .ref q_times) (C := RX6) (T := TX6) (N := 8) hx hb hts iw_X6_sumOfApart_X6 hown hK hP 0 rfl rfl 2 (by decide) (hts (.fieldLink RX6 15 "GoesInto$Split" "times" "[I") (List.mem_of_getElem? (i := 2) rfl)) (fun _ h9 => h9) rfl dX6_sumOfApart_27 ?_
    refine lv_iload_n hx hb dX6_sumOfApart_30 rfl (lv_at hl 2 rfl) ?_
    obtain ⟨b3z, h⟩ := xn h
    refine va_iald hx hb hK hP 2 0 rfl rfl b3z dX6_sumOfApart_31 ?_
    refine lv_icmp_ge (tgt := 52) hx hb dX6_sumOfApart_32 (by decide) (fun c4z => ?_) (fun c4z => ?_)
    · have h := xt h c4z
      exact k_X6_sumOfApart_52 C0 N res q_Sp q_prime q_times q_Pr q_parts v4 sp_unlike sp_number sp_partsKept sp_partsNumber a_prime a_times k_4 hk_4 v1 v3  h _ _ hP hD hS _ (lv_sub hl [0, 1, 2, 3] rfl)
    · have h := xf h c4z
      refine lv_lload hx hb dX6_sumOfApart_35 (lv_at hl 3 rfl) ?_
      refine lv_aload_n hx hb dX6_sumOfApart_37 rfl (lv_at hl 0 rfl) ?_
      refine va_get (D := (dC, dI)) (ci := 6) (v := .ref q_prime) (C := RX6) (T := TX6) (N := 8) hx hb hts iw_X6_sumOfApart_X6 hown hK hP 0 rfl rfl 1 (by decide) (hts (.fieldLink RX6 11 "GoesInto$Split" "prime" "[J") (List.mem_of_getElem? (i := 3) rfl)) (fun _ h9 => h9) rfl dX6_sumOfApart_38 ?_
      refine lv_iload_n hx hb dX6_sumOfApart_41 rfl (lv_at hl 2 rfl) ?_
      refine va_lald hx hb hK hP 1 1 rfl rfl b3z dX6_sumOfApart_42 ?_
      refine lv_lmul hx hb dX6_sumOfApart_43 ?_
      refine lv_topl (fun y7z ey7z => ?_)
      have h := xl_at h ey7z
      refine lv_lstore (lv' := [(4, .long y7z), (0, .ref q_Sp), (1, .long v1), (3, .int v3), (6, .int v6)]) hx hb dX6_sumOfApart_44 hl (by decide) rfl (fun ls hl => ?_)
      obtain ⟨y8z, ey8z⟩ : ∃ z : Int32, z = v6 + (1 : Int32) := ⟨_, rfl⟩
      have h := xl_at h ey8z
      refine lv_iinc (v := y8z) (lv' := [(6, .int y8z), (4, .long y7z), (0, .ref q_Sp), (1, .long v1), (3, .int v3)]) hx hb dX6_sumOfApart_46 hl (k := 4) rfl (by rw [ey8z]; rfl) (by decide) rfl (fun ls hl => ?_)
      refine lv_goto (tgt := 24) hx hb dX6_sumOfApart_49 (by decide) ?_
      exact ih y7z y8z h _ _ hP hD hS _ (lv_sub hl [2, 3, 4, 1, 0] rfl)
def s_X6_sumOfApart_4 (N : Nat) (sp_unlike : Int32) (a_prime : Nat → Int64) (a_times : Nat → Int32) (k_4 : (Int64 × Int32) → Option (Int64)) (v1 : Int64) (v3 : Int32) : Option (Int64) :=
  if sp_unlike ≤ v3 then
    some v1
  else
    if (12 : Int32) ≤ v3 then
      some v1
    else
      l_X6_sumOfApart_24 N k_4 v1 v3 a_prime a_times N ((1 : Int64), (0 : Int32))
def l_X6_sumOfApart_4 (N : Nat) (sp_unlike : Int32) (a_prime : Nat → Int64) (a_times : Nat → Int32) (n : Nat) (z : Int64 × Int32) : Option (Int64) := lp (fun k z => s_X6_sumOfApart_4 N sp_unlike a_prime a_times k z.1 z.2) n z
set_option maxRecDepth 100000 in
set_option maxHeartbeats 4000000 in
theorem k_X6_sumOfApart_4 {p : Program} {l : Launch} {e : Env} {s : State} {m : MethodId} {args : Array Value} {below : List Frame} {meth : Method} {c : Code} {dC : Nat → ClassId} {dI : Nat → Nat → Nat} {cyI cyJ cyZ : ClassId} {A : Nat → Prop} (C0 : mC p s m meth c args cX6_sumOfApart (some .long) 7 RX6 wsX6_sumOfApart (gK dC dI cyI cyJ cyZ) A) (N : Nat) (res : Int64) (q_Sp : Nat) (q_prime : Nat) (q_times : Nat) (q_Pr : Nat) (q_parts : Nat) (sp_unlike : Int32) (sp_number : Int64) (sp_partsKept : Int32) (sp_partsNumber : Int64) (a_prime : Nat → Int64) (a_times : Nat → Int32) : ∀ (n : Nat) (v1 : Int64) (v3 : Int32), l_X6_sumOfApart_4 N sp_unlike a_prime a_times n (v1, v3) = some res → ∀ (H : Heap) (locs : List Loc), va_P (dC, dI) vwCl (wd0 cyI cyJ cyZ q_Sp q_prime q_times q_Pr q_parts sp_unlike sp_number sp_partsKept sp_partsNumber a_prime a_times) H → va_D A (wd0 cyI cyJ cyZ q_Sp q_prime q_times q_Pr q_parts sp_unlike sp_number sp_partsKept sp_partsNumber a_prime a_times) → va_S A s.heap H locs → ∀ (ls : Array Slot), lv_has ls 7 [(0, .ref q_Sp), (1, .long v1), (3, .int v3)] → W p l e (headSpec wsX6_sumOfApart rm_X6_sumOfApart).room s m args below meth c H locs 0 0 (MQ below (va_Ql (fun (r : Int64) (_ : Unit) => r = res) (bW dC dI (fun (u : Unit) => (wd0 cyI cyJ cyZ q_Sp q_prime q_times q_Pr q_parts sp_unlike sp_number sp_partsKept sp_partsNumber a_prime a_times)) A) A) args s 0 0 A) (F0 m 4 ls []) := by
  obtain ⟨hx, hb, hr, hml, hown, hts, hlocks, hG, hA⟩ := id C0
  have hK := hG.1
  intro n
  induction n with
  | zero =>
    intro v1 v3 h
    cases h
  | succ n ih =>
    intro v1 v3 h H locs hP hD hS ls hl
    have h : s_X6_sumOfApart_4 N sp_unlike a_prime a_times (l_X6_sumOfApart_4 N sp_unlike a_prime a_times n) v1 v3 = some res := h
    unfold s_X6_sumOfApart_4 at h
    refine lv_iload_n hx hb dX6_sumOfApart_4 rfl (lv_at hl 2 rfl) ?_
    refine lv_aload_n hx hb dX6_sumOfApart_5 rfl (lv_at hl 0 rfl) ?_
    refine va_get (D := (dC, dI)) (ci := 6) (v := .int sp_unlike) (C := RX6) (T := TX6) (N := 8) hx hb hts iw_X6_sumOfApart_X6 hown hK hP 0 rfl rfl 3 (by decide) (hts (.fieldLink RX6 19 "GoesInto$Split" "unlike" "I") (List.mem_of_getElem? (i := 1) rfl)) (fun _ h9 => h9) rfl dX6_sumOfApart_6 ?_
    refine lv_icmp_ge (tgt := 65) hx hb dX6_sumOfApart_9 (by decide) (fun c1z => ?_) (fun c1z => ?_)
    · have h := xt h c1z
      refine lv_lload_n hx hb dX6_sumOfApart_65 rfl (lv_at hl 1 rfl) ?_
      obtain rfl := Option.some.inj h
      exact W.lret (v := v1) hx hb hr (fun t ht hW => ⟨⟨_, (), rfl, rfl, by rw [ht]; exact hP, hD⟩, hS.F ht⟩) hS.2.2 dX6_sumOfApart_66 hlocks
    · have h := xf h c1z
      refine lv_iload_n hx hb dX6_sumOfApart_12 rfl (lv_at hl 2 rfl) ?_
      refine lv_bipush (v := (12 : Int32)) hx hb dX6_sumOfApart_13 (by decide) ?_
      refine lv_icmp_ge (tgt := 65) hx hb dX6_sumOfApart_15 (by decide) (fun c2z => ?_) (fun c2z => ?_)
      · have h := xt h c2z
        refine lv_lload_n hx hb dX6_sumOfApart_65 rfl (lv_at hl 1 rfl) ?_
        obtain rfl := Option.some.inj h
        exact W.lret (v := v1) hx hb hr (fun t ht hW => ⟨⟨_, (), rfl, rfl, by rw [ht]; exact hP, hD⟩, hS.F ht⟩) hS.2.2 dX6_sumOfApart_66 hlocks
      · have h := xf h c2z
        refine lv_lconst (v := (1 : Int64)) hx hb dX6_sumOfApart_18 (by decide) ?_
        refine lv_lstore (lv' := [(4, .long (1 : Int64)), (0, .ref q_Sp), (1, .long v1), (3, .int v3)]) hx hb dX6_sumOfApart_19 hl (by decide) rfl (fun ls hl => ?_)
        refine lv_iconst (v := (0 : Int32)) hx hb dX6_sumOfApart_21 (by decide) ?_
        refine lv_istore (lv' := [(6, .int (0 : Int32)), (4, .long (1 : Int64)), (0, .ref q_Sp), (1, .long v1), (3, .int v3)]) hx hb dX6_sumOfApart_22 hl (by decide) rfl (fun ls hl => ?_)
        exact k_X6_sumOfApart_24 C0 N res q_Sp q_prime q_times q_Pr q_parts sp_unlike sp_number sp_partsKept sp_partsNumber a_prime a_times _ ih v1 v3 N (1 : Int64) (0 : Int32) h _ _ hP hD hS _ (lv_sub hl [2, 3, 4, 1, 0] rfl)
def f_X6_sumOfApart (N : Nat) (sp_unlike : Int32) (a_prime : Nat → Int64) (a_times : Nat → Int32) : Option (Int64) :=
  l_X6_sumOfApart_4 N sp_unlike a_prime a_times N ((1 : Int64), (0 : Int32))
set_option maxRecDepth 100000 in
set_option maxHeartbeats 4000000 in
theorem k_X6_sumOfApart_0 {p : Program} {l : Launch} {e : Env} {s : State} {m : MethodId} {args : Array Value} {below : List Frame} {meth : Method} {c : Code} {dC : Nat → ClassId} {dI : Nat → Nat → Nat} {cyI cyJ cyZ : ClassId} {A : Nat → Prop} (C0 : mC p s m meth c args cX6_sumOfApart (some .long) 7 RX6 wsX6_sumOfApart (gK dC dI cyI cyJ cyZ) A) (N : Nat) (res : Int64) (q_Sp : Nat) (q_prime : Nat) (q_times : Nat) (q_Pr : Nat) (q_parts : Nat) (sp_unlike : Int32) (sp_number : Int64) (sp_partsKept : Int32) (sp_partsNumber : Int64) (a_prime : Nat → Int64) (a_times : Nat → Int32) (h : f_X6_sumOfApart N sp_unlike a_prime a_times = some res) : ∀ (H : Heap) (locs : List Loc), va_P (dC, dI) vwCl (wd0 cyI cyJ cyZ q_Sp q_prime q_times q_Pr q_parts sp_unlike sp_number sp_partsKept sp_partsNumber a_prime a_times) H → va_D A (wd0 cyI cyJ cyZ q_Sp q_prime q_times q_Pr q_parts sp_unlike sp_number sp_partsKept sp_partsNumber a_prime a_times) → va_S A s.heap H locs → ∀ (ls : Array Slot), lv_has ls 7 [(0, .ref q_Sp)] → W p l e (headSpec wsX6_sumOfApart rm_X6_sumOfApart).room s m args below meth c H locs 0 0 (MQ below (va_Ql (fun (r : Int64) (_ : Unit) => r = res) (bW dC dI (fun (u : Unit) => (wd0 cyI cyJ cyZ q_Sp q_prime q_times q_Pr q_parts sp_unlike sp_number sp_partsKept sp_partsNumber a_prime a_times)) A) A) args s 0 0 A) (F0 m 0 ls []) := by
  obtain ⟨hx, hb, hr, hml, hown, hts, hlocks, hG, hA⟩ := id C0
  have hK := hG.1
  intro H locs hP hD hS ls hl
  unfold f_X6_sumOfApart at h
  refine lv_lconst (v := (1 : Int64)) hx hb dX6_sumOfApart_0 (by decide) ?_
  refine lv_lstore_n (lv' := [(1, .long (1 : Int64)), (0, .ref q_Sp)]) hx hb dX6_sumOfApart_1 rfl hl (by decide) rfl (fun ls hl => ?_)
  refine lv_iconst (v := (0 : Int32)) hx hb dX6_sumOfApart_2 (by decide) ?_
  refine lv_istore_n (lv' := [(3, .int (0 : Int32)), (1, .long (1 : Int64)), (0, .ref q_Sp)]) hx hb dX6_sumOfApart_3 rfl hl (by decide) rfl (fun ls hl => ?_)
  exact k_X6_sumOfApart_4 C0 N res q_Sp q_prime q_times q_Pr q_parts sp_unlike sp_number sp_partsKept sp_partsNumber a_prime a_times N (1 : Int64) (0 : Int32) h _ _ hP hD hS _ (lv_sub hl [2, 1, 0] rfl)
set_option maxRecDepth 100000 in
set_option maxHeartbeats 4000000 in
theorem c_X6_sumOfApart (l : Launch) (dC : Nat → ClassId) (dI : Nat → Nat → Nat) (cyI cyJ cyZ : ClassId) (N : Nat) (res : Int64) (sz : Nat) (q_Sp : Nat) (q_prime : Nat) (q_times : Nat) (q_Pr : Nat) (q_parts : Nat) (sp_unlike : Int32) (sp_number : Int64) (sp_partsKept : Int32) (sp_partsNumber : Int64) (a_prime : Nat → Int64) (a_times : Nat → Int32) (h : f_X6_sumOfApart N  sp_unlike a_prime a_times = some res) : Met l yX6_sumOfApart wsX6_sumOfApart rm_X6_sumOfApart (pC dC dI cyI cyJ cyZ [.ref q_Sp] sz (wd0 cyI cyJ cyZ q_Sp q_prime q_times q_Pr q_parts sp_unlike sp_number sp_partsKept sp_partsNumber a_prime a_times)) (va_Ql (fun (r : Int64) (_ : Unit) => r = res) (bW dC dI (fun (u : Unit) => (wd0 cyI cyJ cyZ q_Sp q_prime q_times q_Pr q_parts sp_unlike sp_number sp_partsKept sp_partsNumber a_prime a_times)) (va_A (wd0 cyI cyJ cyZ q_Sp q_prime q_times q_Pr q_parts sp_unlike sp_number sp_partsKept sp_partsNumber a_prime a_times) sz)) (va_A (wd0 cyI cyJ cyZ q_Sp q_prime q_times q_Pr q_parts sp_unlike sp_number sp_partsKept sp_partsNumber a_prime a_times) sz)) 0 0 (va_A (wd0 cyI cyJ cyZ q_Sp q_prime q_times q_Pr q_parts sp_unlike sp_number sp_partsKept sp_partsNumber a_prime a_times) sz) := by
  refine Met.ofW (cc := cX6_sumOfApart) (maxL := 7) (ret := (some .long)) (by decide) rfl ?_
  intro p e s m args below meth c s₁ B hml hv
  obtain ⟨rfl, hsz, hP, hG, hD0⟩ := hv
  have hx := B.exec
  have hb := B.bytes
  have hr := B.returns
  have hts := atoms_spec (ws := wsX6_sumOfApart) B.pre
  have hown : s.vm.findClass RX6 = some m.cls := findClass_of_methodNamed B.named
  have hlocks := B.notSynchronized
  subst hsz
  have hD := hD0.self (sz := s.heap.size)
  generalize hAe : va_A (wd0 cyI cyJ cyZ q_Sp q_prime q_times q_Pr q_parts sp_unlike sp_number sp_partsKept sp_partsNumber a_prime a_times) s.heap.size = A at hD ⊢
  have hA : ∀ q : Nat, s.heap.size ≤ q → A q := fun q h => by rw [← hAe]; exact Or.inr h
  have hS : va_S A s.heap s.heap [] := va_S.rf
  have hl := lv_entry ([.ref q_Sp]) (n := 7) (Nat.le_of_ble_eq_true rfl)
  rw [lg_entry_eq]
  generalize (lg_sl ([.ref q_Sp]) ++ List.replicate (7 - (lg_sl ([.ref q_Sp])).length) Slot.unset).toArray = ls at hl ⊢
  have hl : lv_has ls 7 [(0, .ref q_Sp)] := hl
  exact k_X6_sumOfApart_0 ⟨hx, hb, hr, hml, hown, hts, hlocks, hG, hA⟩ N res q_Sp q_prime q_times q_Pr q_parts sp_unlike sp_number sp_partsKept sp_partsNumber a_prime a_times  h _ _ hP hD hS _ hl
abbrev rm_X6_summed : Room := { frames := 2, cells := 0, slots := 0, locals := 56 }
theorem hd_X6_summed : yX6_summed.cls ≠ "java/lang/invoke/MethodHandle" ∧ yX6_summed.cls ≠ "java/lang/invoke/VarHandle" ∧ (parseMethodDescriptor yX6_summed.desc).map (fun d => d.parameters.length) = some 2 := by decide +kernel
theorem iw_X6_summed_X3 : ∀ w ∈ wsX30, w ∈ wsX6_summed := List.forall_mem_cons.mpr ⟨List.mem_of_getElem? (i := 32) rfl, List.forall_mem_cons.mpr ⟨List.mem_of_getElem? (i := 33) rfl, fun _ h => absurd h List.not_mem_nil⟩⟩
theorem iw_X6_summed_X6 : ∀ w ∈ wsX60, w ∈ wsX6_summed := List.forall_mem_cons.mpr ⟨List.mem_of_getElem? (i := 24) rfl, List.forall_mem_cons.mpr ⟨List.mem_of_getElem? (i := 25) rfl, List.forall_mem_cons.mpr ⟨List.mem_of_getElem? (i := 26) rfl, List.forall_mem_cons.mpr ⟨List.mem_of_getElem? (i := 27) rfl, List.forall_mem_cons.mpr ⟨List.mem_of_getElem? (i := 28) rfl, List.forall_mem_cons.mpr ⟨List.mem_of_getElem? (i := 29) rfl, List.forall_mem_cons.mpr ⟨List.mem_of_getElem? (i := 30) rfl, List.forall_mem_cons.mpr ⟨List.mem_of_getElem? (i := 31) rfl, fun _ h => absurd h List.not_mem_nil⟩⟩⟩⟩⟩⟩⟩⟩
def f_X6_summed (N : Nat) (v1 : Int32) (v2 : Int64) (sp_unlike : Int32) (sp_number : Int64) (n_list : Nat) (a_list : Nat → Int32) (a_prime : Nat → Int64) (a_times : Nat → Int32) : Option (Int64 × Int32 × Int64 × (Nat → Int64) × (Nat → Int32)) :=
  Option.bind (f_X6_splitUp N v2 sp_unlike sp_number n_list a_list a_prime a_times) fun r1z =>
  if v1 = (0 : Int32) then
    Option.bind (f_X6_sumOfAll N  r1z.1 r1z.2.2.1 r1z.2.2.2) fun r5z =>
    some (r5z, r1z.1, r1z.2.1, r1z.2.2.1, r1z.2.2.2)
  else
    if v1 = (1 : Int32) then
      Option.bind (f_X6_sumOfAll N  r1z.1 r1z.2.2.1 r1z.2.2.2) fun r9z =>
      some (r9z - v2, r1z.1, r1z.2.1, r1z.2.2.1, r1z.2.2.2)
    else
      if v1 = (2 : Int32) then
        Option.bind (f_X6_sumOfApart N  r1z.1 r1z.2.2.1 r1z.2.2.2) fun r13z =>
        some (r13z - v2, r1z.1, r1z.2.1, r1z.2.2.1, r1z.2.2.2)
      else
        if v2 = (1 : Int64) then
          some ((0 : Int64), r1z.1, r1z.2.1, r1z.2.2.1, r1z.2.2.2)
        else
          Option.bind (f_X6_sumOfAll N  r1z.1 r1z.2.2.1 r1z.2.2.2) fun r17z =>
          some ((r17z - v2) - (1 : Int64), r1z.1, r1z.2.1, r1z.2.2.1, r1z.2.2.2)
set_option maxRecDepth 100000 in
set_option maxHeartbeats 4000000 in
theorem k_X6_summed_0 {p : Program} {l : Launch} {e : Env} {s : State} {m : MethodId} {args : Array Value} {below : List Frame} {meth : Method} {c : Code} {dC : Nat → ClassId} {dI : Nat → Nat → Nat} {cyI cyJ cyZ : ClassId} {A : Nat → Prop} (C0 : mC p s m meth c args cX6_summed (some .long) 4 RX6 wsX6_summed (gK dC dI cyI cyJ cyZ) A) (N : Nat) (res : Int64 × Int32 × Int64 × (Nat → Int64) × (Nat → Int32)) (q_Pr : Nat) (q_Sp : Nat) (q_list : Nat) (q_prime : Nat) (q_times : Nat) (q_Sc : Nat) (q_parts : Nat) (v1 : Int32) (v2 : Int64) (sp_unlike : Int32) (sp_number : Int64) (sp_partsKept : Int32) (sp_partsNumber : Int64) (n_list : Nat) (a_list : Nat → Int32) (a_prime : Nat → Int64) (a_times : Nat → Int32) (h : f_X6_summed N v1 v2 sp_unlike sp_number n_list a_list a_prime a_times = some res) : ∀ (H : Heap) (locs : List Loc), va_P (dC, dI) vwCl (wd1 cyI cyJ cyZ q_Pr q_Sp q_list q_prime q_times q_Sc q_parts sp_unlike sp_number sp_partsKept sp_partsNumber n_list a_list a_prime a_times) H → va_D A (wd1 cyI cyJ cyZ q_Pr q_Sp q_list q_prime q_times q_Sc q_parts sp_unlike sp_number sp_partsKept sp_partsNumber n_list a_list a_prime a_times) → va_S A s.heap H locs → ∀ (ls : Array Slot), lv_has ls 4 [(0, .ref q_Sp), (1, .int v1), (2, .long v2)] → W p l e (headSpec wsX6_summed rm_X6_summed).room s m args below meth c H locs 0 0 (MQ below (va_Ql (fun (r : Int64) (_ : Unit) => r = res.1) (bW dC dI (fun (u : Unit) => (wd1 cyI cyJ cyZ q_Pr q_Sp q_list q_prime q_times q_Sc q_parts res.2.1 res.2.2.1 sp_partsKept sp_partsNumber n_list a_list res.2.2.2.1 res.2.2.2.2)) A) A) args s 0 0 A) (F0 m 0 ls []) := by
  obtain ⟨hx, hb, hr, hml, hown, hts, hlocks, hG, hA⟩ := id C0
  have hK := hG.1
  intro H locs hP hD hS ls hl
  unfold f_X6_summed at h
  refine lv_aload_n hx hb dX6_summed_0 rfl (lv_at hl 0 rfl) ?_
  refine lv_lload_n hx hb dX6_summed_1 rfl (lv_at hl 2 rfl) ?_
  obtain ⟨r1z, hr1z, h⟩ := xb_at h
  have hPc := hP.sub (ws' := (wd1 cyI cyJ cyZ q_Pr q_Sp q_list q_prime q_times q_Sc q_parts sp_unlike sp_number sp_partsKept sp_partsNumber n_list a_list a_prime a_times)) [0, 1, 2, 3, 4] rfl
  have hDc := hD.sub (ws' := (wd1 cyI cyJ cyZ q_Pr q_Sp q_list q_prime q_times q_Sc q_parts sp_unlike sp_number sp_partsKept sp_partsNumber n_list a_list a_prime a_times)) [0, 1, 2, 3, 4] (by decide) rfl
  refine cal_v [0, 1, 2, 3, 4] [] (va_runV (As := [.long v2]) (rest := []) ⟨hx, hb, hml, hown, hts⟩ (c_X6_splitUp l dC dI cyI cyJ cyZ N r1z H.size q_Pr q_Sp q_list q_prime q_times q_Sc q_parts v2 sp_unlike sp_number sp_partsKept sp_partsNumber n_list a_list a_prime a_times hr1z) (cwV 1 hts gX6_summed_X6_splitUp rfl rfl rfl ⟨rfl, hd_X6_splitUp⟩ ⟨Nat.le_of_ble_eq_true rfl, Nat.le_of_ble_eq_true rfl⟩) ⟨pC.blind, va_recv hK hPc (ci := 6) (q0 := 1) rfl rfl, pC.pre hPc hG hDc⟩ rfl rfl hl.1 rfl (lv_room (Nat.le_of_ble_eq_true rfl)) dX6_summed_2 ⟨Nat.zero_le _, Nat.zero_le _⟩) hP hD hS hA rfl rfl rfl (by decide) (fun u2z H locs _ hP hD hS => ?_)
  have hP : va_P (dC, dI) vwCl (wd1 cyI cyJ cyZ q_Pr q_Sp q_list q_prime q_times q_Sc q_parts r1z.1 r1z.2.1 sp_partsKept sp_partsNumber n_list a_list r1z.2.2.1 r1z.2.2.2) H := hP.sub [0, 1, 2, 3, 4] rfl
  have hD : va_D A (wd1 cyI cyJ cyZ q_Pr q_Sp q_list q_prime q_times q_Sc q_parts r1z.1 r1z.2.1 sp_partsKept sp_partsNumber n_list a_list r1z.2.2.1 r1z.2.2.2) := hD.sub [0, 1, 2, 3, 4] (by decide) rfl
  refine lv_iload_n hx hb dX6_summed_5 rfl (lv_at hl 1 rfl) ?_
  rcases Decidable.em (v1 = (0 : Int32)) with c4z | c4z
  · have h := xt h c4z
    refine lv_tableIn (tgt := 32) (off := 26) hx hb dX6_summed_6 (by rw [c4z]; decide) (by rw [c4z]; decide) (by rw [c4z]; decide +kernel) (by decide) ?_
    refine lv_aload_n hx hb dX6_summed_32 rfl (lv_at hl 0 rfl) ?_
    obtain ⟨r5z, hr5z, h⟩ := xb_at h
    have hPc := hP.sub (ws' := (wd0 cyI cyJ cyZ q_Sp q_prime q_times q_Pr q_parts r1z.1 r1z.2.1 sp_partsKept sp_partsNumber r1z.2.2.1 r1z.2.2.2)) [1, 3, 4] rfl
    have hDc := hD.sub (ws' := (wd0 cyI cyJ cyZ q_Sp q_prime q_times q_Pr q_parts r1z.1 r1z.2.1 sp_partsKept sp_partsNumber r1z.2.2.1 r1z.2.2.2)) [1, 3, 4] (by decide) rfl
    refine cal_l [1, 3, 4] [0, 2] (va_runV (As := []) (rest := []) ⟨hx, hb, hml, hown, hts⟩ (c_X6_sumOfAll l dC dI cyI cyJ cyZ N r5z H.size q_Sp q_prime q_times q_Pr q_parts  r1z.1 r1z.2.1 sp_partsKept sp_partsNumber r1z.2.2.1 r1z.2.2.2 hr5z) (cwV 0 hts gX6_summed_X6_sumOfAll rfl rfl rfl ⟨rfl, hd_X6_sumOfAll⟩ ⟨Nat.le_of_ble_eq_true rfl, Nat.le_of_ble_eq_true rfl⟩) ⟨pC.blind, va_recv hK hPc (ci := 6) (q0 := 0) rfl rfl, pC.pre hPc hG hDc⟩ rfl rfl hl.1 rfl (lv_room (Nat.le_of_ble_eq_true rfl)) dX6_summed_33 ⟨Nat.zero_le _, Nat.zero_le _⟩) hP hD hS hA rfl rfl rfl (by decide) (fun x7z u6z H locs hw hP hD hS => ?_)
    obtain rfl := hw.symm
    have hP : va_P (dC, dI) vwCl (wd1 cyI cyJ cyZ q_Pr q_Sp q_list q_prime q_times q_Sc q_parts r1z.1 r1z.2.1 sp_partsKept sp_partsNumber n_list a_list r1z.2.2.1 r1z.2.2.2) H := hP.sub [0, 2, 1, 3, 4] rfl
    have hD : va_D A (wd1 cyI cyJ cyZ q_Pr q_Sp q_list q_prime q_times q_Sc q_parts r1z.1 r1z.2.1 sp_partsKept sp_partsNumber n_list a_list r1z.2.2.1 r1z.2.2.2) := hD.sub [0, 2, 1, 3, 4] (by decide) rfl
    obtain rfl := Option.some.inj h
    exact W.lret (v := r5z) hx hb hr (fun t ht hW => ⟨⟨_, (), rfl, rfl, by rw [ht]; exact hP, hD⟩, hS.F ht⟩) hS.2.2 dX6_summed_36 hlocks
  · have h := xf h c4z
    rcases Decidable.em (v1 = (1 : Int32)) with c8z | c8z
    · have h := xt h c8z
      refine lv_tableIn (tgt := 37) (off := 31) hx hb dX6_summed_6 (by rw [c8z]; decide) (by rw [c8z]; decide) (by rw [c8z]; decide +kernel) (by decide) ?_
      refine lv_aload_n hx hb dX6_summed_37 rfl (lv_at hl 0 rfl) ?_
      obtain ⟨r9z, hr9z, h⟩ := xb_at h
      have hPc := hP.sub (ws' := (wd0 cyI cyJ cyZ q_Sp q_prime q_times q_Pr q_parts r1z.1 r1z.2.1 sp_partsKept sp_partsNumber r1z.2.2.1 r1z.2.2.2)) [1, 3, 4] rfl
      have hDc := hD.sub (ws' := (wd0 cyI cyJ cyZ q_Sp q_prime q_times q_Pr q_parts r1z.1 r1z.2.1 sp_partsKept sp_partsNumber r1z.2.2.1 r1z.2.2.2)) [1, 3, 4] (by decide) rfl
      refine cal_l [1, 3, 4] [0, 2] (va_runV (As := []) (rest := []) ⟨hx, hb, hml, hown, hts⟩ (c_X6_sumOfAll l dC dI cyI cyJ cyZ N r9z H.size q_Sp q_prime q_times q_Pr q_parts  r1z.1 r1z.2.1 sp_partsKept sp_partsNumber r1z.2.2.1 r1z.2.2.2 hr9z) (cwV 0 hts gX6_summed_X6_sumOfAll rfl rfl rfl ⟨rfl, hd_X6_sumOfAll⟩ ⟨Nat.le_of_ble_eq_true rfl, Nat.le_of_ble_eq_true rfl⟩) ⟨pC.blind, va_recv hK hPc (ci := 6) (q0 := 0) rfl rfl, pC.pre hPc hG hDc⟩ rfl rfl hl.1 rfl (lv_room (Nat.le_of_ble_eq_true rfl)) dX6_summed_38 ⟨Nat.zero_le _, Nat.zero_le _⟩) hP hD hS hA rfl rfl rfl (by decide) (fun x11z u10z H locs hw hP hD hS => ?_)
      obtain rfl := hw.symm
      have hP : va_P (dC, dI) vwCl (wd1 cyI cyJ cyZ q_Pr q_Sp q_list q_prime q_times q_Sc q_parts r1z.1 r1z.2.1 sp_partsKept sp_partsNumber n_list a_list r1z.2.2.1 r1z.2.2.2) H := hP.sub [0, 2, 1, 3, 4] rfl
      have hD : va_D A (wd1 cyI cyJ cyZ q_Pr q_Sp q_list q_prime q_times q_Sc q_parts r1z.1 r1z.2.1 sp_partsKept sp_partsNumber n_list a_list r1z.2.2.1 r1z.2.2.2) := hD.sub [0, 2, 1, 3, 4] (by decide) rfl
      refine lv_lload_n hx hb dX6_summed_41 rfl (lv_at hl 2 rfl) ?_
      refine lv_lsub hx hb dX6_summed_42 ?_
      obtain rfl := Option.some.inj h
      exact W.lret (v := r9z - v2) hx hb hr (fun t ht hW => ⟨⟨_, (), rfl, rfl, by rw [ht]; exact hP, hD⟩, hS.F ht⟩) hS.2.2 dX6_summed_43 hlocks
    · have h := xf h c8z
      rcases Decidable.em (v1 = (2 : Int32)) with c12z | c12z
      · have h := xt h c12z
        refine lv_tableIn (tgt := 44) (off := 38) hx hb dX6_summed_6 (by rw [c12z]; decide) (by rw [c12z]; decide) (by rw [c12z]; decide +kernel) (by decide) ?_
        refine lv_aload_n hx hb dX6_summed_44 rfl (lv_at hl 0 rfl) ?_
        obtain ⟨r13z, hr13z, h⟩ := xb_at h
        have hPc := hP.sub (ws' := (wd0 cyI cyJ cyZ q_Sp q_prime q_times q_Pr q_parts r1z.1 r1z.2.1 sp_partsKept sp_partsNumber r1z.2.2.1 r1z.2.2.2)) [1, 3, 4] rfl
        have hDc := hD.sub (ws' := (wd0 cyI cyJ cyZ q_Sp q_prime q_times q_Pr q_parts r1z.1 r1z.2.1 sp_partsKept sp_partsNumber r1z.2.2.1 r1z.2.2.2)) [1, 3, 4] (by decide) rfl
        refine cal_l [1, 3, 4] [0, 2] (va_runV (As := []) (rest := []) ⟨hx, hb, hml, hown, hts⟩ (c_X6_sumOfApart l dC dI cyI cyJ cyZ N r13z H.size q_Sp q_prime q_times q_Pr q_parts  r1z.1 r1z.2.1 sp_partsKept sp_partsNumber r1z.2.2.1 r1z.2.2.2 hr13z) (cwV 0 hts gX6_summed_X6_sumOfApart rfl rfl rfl ⟨rfl, hd_X6_sumOfApart⟩ ⟨Nat.le_of_ble_eq_true rfl, Nat.le_of_ble_eq_true rfl⟩) ⟨pC.blind, va_recv hK hPc (ci := 6) (q0 := 0) rfl rfl, pC.pre hPc hG hDc⟩ rfl rfl hl.1 rfl (lv_room (Nat.le_of_ble_eq_true rfl)) dX6_summed_45 ⟨Nat.zero_le _, Nat.zero_le _⟩) hP hD hS hA rfl rfl rfl (by decide) (fun x15z u14z H locs hw hP hD hS => ?_)
        obtain rfl := hw.symm
        have hP : va_P (dC, dI) vwCl (wd1 cyI cyJ cyZ q_Pr q_Sp q_list q_prime q_times q_Sc q_parts r1z.1 r1z.2.1 sp_partsKept sp_partsNumber n_list a_list r1z.2.2.1 r1z.2.2.2) H := hP.sub [0, 2, 1, 3, 4] rfl
        have hD : va_D A (wd1 cyI cyJ cyZ q_Pr q_Sp q_list q_prime q_times q_Sc q_parts r1z.1 r1z.2.1 sp_partsKept sp_partsNumber n_list a_list r1z.2.2.1 r1z.2.2.2) := hD.sub [0, 2, 1, 3, 4] (by decide) rfl
        refine lv_lload_n hx hb dX6_summed_48 rfl (lv_at hl 2 rfl) ?_
        refine lv_lsub hx hb dX6_summed_49 ?_
        obtain rfl := Option.some.inj h
        exact W.lret (v := r13z - v2) hx hb hr (fun t ht hW => ⟨⟨_, (), rfl, rfl, by rw [ht]; exact hP, hD⟩, hS.F ht⟩) hS.2.2 dX6_summed_50 hlocks
      · have h := xf h c12z
        have tc4z := lv_neT (a := 0) c4z (by decide)
        have tc8z := lv_neT (a := 1) c8z (by decide)
        have tc12z := lv_neT (a := 2) c12z (by decide)
        refine lv_tableOut (tgt := 51) hx hb dX6_summed_6 (by omega) (by decide) ?_
        refine lv_lload_n hx hb dX6_summed_51 rfl (lv_at hl 2 rfl) ?_
        refine lv_lconst (v := (1 : Int64)) hx hb dX6_summed_52 (by decide) ?_
        refine W.lcmp hx hb dX6_summed_53 ?_
        refine lv_if_ne (tgt := 61) hx hb dX6_summed_54 (by decide) (fun c16z => ?_) (fun c16z => ?_)
        · have c16z := fun z => c16z ((lg_cmp_eq _ _).mpr z)
          have h := xf h c16z
          refine lv_aload_n hx hb dX6_summed_61 rfl (lv_at hl 0 rfl) ?_
          obtain ⟨r17z, hr17z, h⟩ := xb_at h
          have hPc := hP.sub (ws' := (wd0 cyI cyJ cyZ q_Sp q_prime q_times q_Pr q_parts r1z.1 r1z.2.1 sp_partsKept sp_partsNumber r1z.2.2.1 r1z.2.2.2)) [1, 3, 4] rfl
          have hDc := hD.sub (ws' := (wd0 cyI cyJ cyZ q_Sp q_prime q_times q_Pr q_parts r1z.1 r1z.2.1 sp_partsKept sp_partsNumber r1z.2.2.1 r1z.2.2.2)) [1, 3, 4] (by decide) rfl
          refine cal_l [1, 3, 4] [0, 2] (va_runV (As := []) (rest := []) ⟨hx, hb, hml, hown, hts⟩ (c_X6_sumOfAll l dC dI cyI cyJ cyZ N r17z H.size q_Sp q_prime q_times q_Pr q_parts  r1z.1 r1z.2.1 sp_partsKept sp_partsNumber r1z.2.2.1 r1z.2.2.2 hr17z) (cwV 0 hts gX6_summed_X6_sumOfAll rfl rfl rfl ⟨rfl, hd_X6_sumOfAll⟩ ⟨Nat.le_of_ble_eq_true rfl, Nat.le_of_ble_eq_true rfl⟩) ⟨pC.blind, va_recv hK hPc (ci := 6) (q0 := 0) rfl rfl, pC.pre hPc hG hDc⟩ rfl rfl hl.1 rfl (lv_room (Nat.le_of_ble_eq_true rfl)) dX6_summed_62 ⟨Nat.zero_le _, Nat.zero_le _⟩) hP hD hS hA rfl rfl rfl (by decide) (fun x19z u18z H locs hw hP hD hS => ?_)
          obtain rfl := hw.symm
          have hP : va_P (dC, dI) vwCl (wd1 cyI cyJ cyZ q_Pr q_Sp q_list q_prime q_times q_Sc q_parts r1z.1 r1z.2.1 sp_partsKept sp_partsNumber n_list a_list r1z.2.2.1 r1z.2.2.2) H := hP.sub [0, 2, 1, 3, 4] rfl
          have hD : va_D A (wd1 cyI cyJ cyZ q_Pr q_Sp q_list q_prime q_times q_Sc q_parts r1z.1 r1z.2.1 sp_partsKept sp_partsNumber n_list a_list r1z.2.2.1 r1z.2.2.2) := hD.sub [0, 2, 1, 3, 4] (by decide) rfl
          refine lv_lload_n hx hb dX6_summed_65 rfl (lv_at hl 2 rfl) ?_
          refine lv_lsub hx hb dX6_summed_66 ?_
          refine lv_lconst (v := (1 : Int64)) hx hb dX6_summed_67 (by decide) ?_
          refine lv_lsub hx hb dX6_summed_68 ?_
          obtain rfl := Option.some.inj h
          exact W.lret (v := (r17z - v2) - (1 : Int64)) hx hb hr (fun t ht hW => ⟨⟨_, (), rfl, rfl, by rw [ht]; exact hP, hD⟩, hS.F ht⟩) hS.2.2 dX6_summed_69 hlocks
        · have c16z := (lg_cmp_eq _ _).mp c16z
          have h := xt h c16z
          refine lv_lconst (v := (0 : Int64)) hx hb dX6_summed_57 (by decide) ?_
          refine lv_goto (tgt := 69) hx hb dX6_summed_58 (by decide) ?_
          obtain rfl := Option.some.inj h
          exact W.lret (v := (0 : Int64)) hx hb hr (fun t ht hW => ⟨⟨_, (), rfl, rfl, by rw [ht]; exact hP, hD⟩, hS.F ht⟩) hS.2.2 dX6_summed_69 hlocks
set_option maxRecDepth 100000 in
set_option maxHeartbeats 4000000 in
theorem c_X6_summed (l : Launch) (dC : Nat → ClassId) (dI : Nat → Nat → Nat) (cyI cyJ cyZ : ClassId) (N : Nat) (res : Int64 × Int32 × Int64 × (Nat → Int64) × (Nat → Int32)) (sz : Nat) (q_Pr : Nat) (q_Sp : Nat) (q_list : Nat) (q_prime : Nat) (q_times : Nat) (q_Sc : Nat) (q_parts : Nat) (v1 : Int32) (v2 : Int64) (sp_unlike : Int32) (sp_number : Int64) (sp_partsKept : Int32) (sp_partsNumber : Int64) (n_list : Nat) (a_list : Nat → Int32) (a_prime : Nat → Int64) (a_times : Nat → Int32) (h : f_X6_summed N v1 v2 sp_unlike sp_number n_list a_list a_prime a_times = some res) : Met l yX6_summed wsX6_summed rm_X6_summed (pC dC dI cyI cyJ cyZ [.ref q_Sp, .int v1, .long v2] sz (wd1 cyI cyJ cyZ q_Pr q_Sp q_list q_prime q_times q_Sc q_parts sp_unlike sp_number sp_partsKept sp_partsNumber n_list a_list a_prime a_times)) (va_Ql (fun (r : Int64) (_ : Unit) => r = res.1) (bW dC dI (fun (u : Unit) => (wd1 cyI cyJ cyZ q_Pr q_Sp q_list q_prime q_times q_Sc q_parts res.2.1 res.2.2.1 sp_partsKept sp_partsNumber n_list a_list res.2.2.2.1 res.2.2.2.2)) (va_A (wd1 cyI cyJ cyZ q_Pr q_Sp q_list q_prime q_times q_Sc q_parts sp_unlike sp_number sp_partsKept sp_partsNumber n_list a_list a_prime a_times) sz)) (va_A (wd1 cyI cyJ cyZ q_Pr q_Sp q_list q_prime q_times q_Sc q_parts sp_unlike sp_number sp_partsKept sp_partsNumber n_list a_list a_prime a_times) sz)) 0 0 (va_A (wd1 cyI cyJ cyZ q_Pr q_Sp q_list q_prime q_times q_Sc q_parts sp_unlike sp_number sp_partsKept sp_partsNumber n_list a_list a_prime a_times) sz) := by
  refine Met.ofW (cc := cX6_summed) (maxL := 4) (ret := (some .long)) (by decide) rfl ?_
  intro p e s m args below meth c s₁ B hml hv
  obtain ⟨rfl, hsz, hP, hG, hD0⟩ := hv
  have hx := B.exec
  have hb := B.bytes
  have hr := B.returns
  have hts := atoms_spec (ws := wsX6_summed) B.pre
  have hown : s.vm.findClass RX6 = some m.cls := findClass_of_methodNamed B.named
  have hlocks := B.notSynchronized
  subst hsz
  have hD := hD0.self (sz := s.heap.size)
  generalize hAe : va_A (wd1 cyI cyJ cyZ q_Pr q_Sp q_list q_prime q_times q_Sc q_parts sp_unlike sp_number sp_partsKept sp_partsNumber n_list a_list a_prime a_times) s.heap.size = A at hD ⊢
  have hA : ∀ q : Nat, s.heap.size ≤ q → A q := fun q h => by rw [← hAe]; exact Or.inr h
  have hS : va_S A s.heap s.heap [] := va_S.rf
  have hl := lv_entry ([.ref q_Sp, .int v1, .long v2]) (n := 4) (Nat.le_of_ble_eq_true rfl)
  rw [lg_entry_eq]
  generalize (lg_sl ([.ref q_Sp, .int v1, .long v2]) ++ List.replicate (4 - (lg_sl ([.ref q_Sp, .int v1, .long v2])).length) Slot.unset).toArray = ls at hl ⊢
  have hl : lv_has ls 4 [(0, .ref q_Sp), (1, .int v1), (2, .long v2)] := hl
  exact k_X6_summed_0 ⟨hx, hb, hr, hml, hown, hts, hlocks, hG, hA⟩ N res q_Pr q_Sp q_list q_prime q_times q_Sc q_parts v1 v2 sp_unlike sp_number sp_partsKept sp_partsNumber n_list a_list a_prime a_times  h _ _ hP hD hS _ hl
/-- the cells Sp, times -/
abbrev wd2 (cyI cyJ cyZ : ClassId) (q_Sp : Nat) (q_times : Nat) (q_Pr : Nat) (q_prime : Nat) (q_parts : Nat) (sp_unlike : Int32) (sp_number : Int64) (sp_partsKept : Int32) (sp_partsNumber : Int64) (a_times : Nat → Int32) : va_W := [(q_Sp, .inr (6, [.ref q_Pr, .ref q_prime, .ref q_times, .int sp_unlike, .long sp_number, .ref q_parts, .int sp_partsKept, .long sp_partsNumber])), (q_times, .inl (cyI, 12, .inl a_times))]
abbrev rm_X6_howManyPrimes : Room := { frames := 0, cells := 0, slots := 0, locals := 0 }
theorem hd_X6_howManyPrimes : yX6_howManyPrimes.cls ≠ "java/lang/invoke/MethodHandle" ∧ yX6_howManyPrimes.cls ≠ "java/lang/invoke/VarHandle" ∧ (parseMethodDescriptor yX6_howManyPrimes.desc).map (fun d => d.parameters.length) = some 0 := by decide +kernel
theorem iw_X6_howManyPrimes_X6 : ∀ w ∈ wsX60, w ∈ wsX6_howManyPrimes := List.forall_mem_cons.mpr ⟨List.mem_of_getElem? (i := 3) rfl, List.forall_mem_cons.mpr ⟨List.mem_of_getElem? (i := 4) rfl, List.forall_mem_cons.mpr ⟨List.mem_of_getElem? (i := 5) rfl, List.forall_mem_cons.mpr ⟨List.mem_of_getElem? (i := 6) rfl, List.forall_mem_cons.mpr ⟨List.mem_of_getElem? (i := 7) rfl, List.forall_mem_cons.mpr ⟨List.mem_of_getElem? (i := 8) rfl, List.forall_mem_cons.mpr ⟨List.mem_of_getElem? (i := 9) rfl, List.forall_mem_cons.mpr ⟨List.mem_of_getElem? (i := 10) rfl, fun _ h => absurd h List.not_mem_nil⟩⟩⟩⟩⟩⟩⟩⟩
def s_X6_howManyPrimes_4 (N : Nat) (sp_unlike : Int32) (a_times : Nat → Int32) (k_4 : (Int32 × Int32) → Option (Int32)) (v1 : Int32) (v2 : Int32) : Option (Int32) :=
  if sp_unlike ≤ v2 then
    some v1
  else
    if (12 : Int32) ≤ v2 then
      some v1
    else
      if v2 < 0 ∨ 12 ≤ v2.toNatClampNeg then
        none
      else
        xl (v1 + (a_times v2.toNatClampNeg)) fun y4z =>
        xl (v2 + (1 : Int32)) fun y5z =>
        k_4 (y4z, y5z)
def l_X6_howManyPrimes_4 (N : Nat) (sp_unlike : Int32) (a_times : Nat → Int32) (n : Nat) (z : Int32 × Int32) : Option (Int32) := lp (fun k z => s_X6_howManyPrimes_4 N sp_unlike a_times k z.1 z.2) n z
set_option maxRecDepth 100000 in
set_option maxHeartbeats 4000000 in
theorem k_X6_howManyPrimes_4 {p : Program} {l : Launch} {e : Env} {s : State} {m : MethodId} {args : Array Value} {below : List Frame} {meth : Method} {c : Code} {dC : Nat → ClassId} {dI : Nat → Nat → Nat} {cyI cyJ cyZ : ClassId} {A : Nat → Prop} (C0 : mC p s m meth c args cX6_howManyPrimes (some .int) 3 RX6 wsX6_howManyPrimes (gK dC dI cyI cyJ cyZ) A) (N : Nat) (res : Int32) (q_Sp : Nat) (q_times : Nat) (q_Pr : Nat) (q_prime : Nat) (q_parts : Nat) (sp_unlike : Int32) (sp_number : Int64) (sp_partsKept : Int32) (sp_partsNumber : Int64) (a_times : Nat → Int32) : ∀ (n : Nat) (v1 : Int32) (v2 : Int32), l_X6_howManyPrimes_4 N sp_unlike a_times n (v1, v2) = some res → ∀ (H : Heap) (locs : List Loc), va_P (dC, dI) vwCl (wd2 cyI cyJ cyZ q_Sp q_times q_Pr q_prime q_parts sp_unlike sp_number sp_partsKept sp_partsNumber a_times) H → va_D A (wd2 cyI cyJ cyZ q_Sp q_times q_Pr q_prime q_parts sp_unlike sp_number sp_partsKept sp_partsNumber a_times) → va_S A s.heap H locs → ∀ (ls : Array Slot), lv_has ls 3 [(0, .ref q_Sp), (1, .int v1), (2, .int v2)] → W p l e (headSpec wsX6_howManyPrimes rm_X6_howManyPrimes).room s m args below meth c H locs 0 0 (MQ below (va_Qi (fun (r : Int32) (_ : Unit) => r = res) (bW dC dI (fun (u : Unit) => (wd2 cyI cyJ cyZ q_Sp q_times q_Pr q_prime q_parts sp_unlike sp_number sp_partsKept sp_partsNumber a_times)) A) A) args s 0 0 A) (F0 m 4 ls []) := by
  obtain ⟨hx, hb, hr, hml, hown, hts, hlocks, hG, hA⟩ := id C0
  have hK := hG.1
  intro n
  induction n with
  | zero =>
    intro v1 v2 h
    cases h
  | succ n ih =>
    intro v1 v2 h H locs hP hD hS ls hl
    have h : s_X6_howManyPrimes_4 N sp_unlike a_times (l_X6_howManyPrimes_4 N sp_unlike a_times n) v1 v2 = some res := h
    unfold s_X6_howManyPrimes_4 at h
    refine lv_iload_n hx hb dX6_howManyPrimes_4 rfl (lv_at hl 2 rfl) ?_
    refine lv_aload_n hx hb dX6_howManyPrimes_5 rfl (lv_at hl 0 rfl) ?_
    refine va_get (D := (dC, dI)) (ci := 6) (v := .int sp_unlike) (C := RX6) (T := TX6) (N := 8) hx hb hts iw_X6_howManyPrimes_X6 hown hK hP 0 rfl rfl 3 (by decide) (hts (.fieldLink RX6 19 "GoesInto$Split" "unlike" "I") (List.mem_of_getElem? (i := 1) rfl)) (fun _ h9 => h9) rfl dX6_howManyPrimes_6 ?_
    refine lv_icmp_ge (tgt := 33) hx hb dX6_howManyPrimes_9 (by decide) (fun c1z => ?_) (fun c1z => ?_)
    · have h := xt h c1z
      refine lv_iload_n hx hb dX6_howManyPrimes_33 rfl (lv_at hl 1 rfl) ?_
      obtain rfl := Option.some.inj h
      exact W.iret (v := v1) hx hb hr (fun t ht hW => ⟨⟨_, (), rfl, rfl, by rw [ht]; exact hP, hD⟩, hS.F ht⟩) hS.2.2 dX6_howManyPrimes_34 hlocks
    · have h := xf h c1z
      refine lv_iload_n hx hb dX6_howManyPrimes_12 rfl (lv_at hl 2 rfl) ?_
      refine lv_bipush (v := (12 : Int32)) hx hb dX6_howManyPrimes_13 (by decide) ?_
      refine lv_icmp_ge (tgt := 33) hx hb dX6_howManyPrimes_15 (by decide) (fun c2z => ?_) (fun c2z => ?_)
      · have h := xt h c2z
        refine lv_iload_n hx hb dX6_howManyPrimes_33 rfl (lv_at hl 1 rfl) ?_
        obtain rfl := Option.some.inj h
        exact W.iret (v := v1) hx hb hr (fun t ht hW => ⟨⟨_, (), rfl, rfl, by rw [ht]; exact hP, hD⟩, hS.F ht⟩) hS.2.2 dX6_howManyPrimes_34 hlocks
      · have h := xf h c2z
        refine lv_iload_n hx hb dX6_howManyPrimes_18 rfl (lv_at hl 1 rfl) ?_
        refine lv_aload_n hx hb dX6_howManyPrimes_19 rfl (lv_at hl 0 rfl) ?_
        refine va_get (D := (dC, dI)) (ci := 6) (v := .ref q_times) (C := RX6) (T := TX6) (N := 8) hx hb hts iw_X6_howManyPrimes_X6 hown hK hP 0 rfl rfl 2 (by decide) (hts (.fieldLink RX6 15 "GoesInto$Split" "times" "[I") (List.mem_of_getElem? (i := 2) rfl)) (fun _ h9 => h9) rfl dX6_howManyPrimes_20 ?_
        refine lv_iload_n hx hb dX6_howManyPrimes_23 rfl (lv_at hl 2 rfl) ?_
        obtain ⟨b3z, h⟩ := xn h
        refine va_iald hx hb hK hP 1 0 rfl rfl b3z dX6_howManyPrimes_24 ?_
        refine lv_iadd hx hb dX6_howManyPrimes_25 ?_
        refine lv_topi (fun y4z ey4z => ?_)
        have h := xl_at h ey4z
        refine lv_istore_n (lv' := [(1, .int y4z), (0, .ref q_Sp), (2, .int v2)]) hx hb dX6_howManyPrimes_26 rfl hl (by decide) rfl (fun ls hl => ?_)
        obtain ⟨y5z, ey5z⟩ : ∃ z : Int32, z = v2 + (1 : Int32) := ⟨_, rfl⟩
        have h := xl_at h ey5z
        refine lv_iinc (v := y5z) (lv' := [(2, .int y5z), (1, .int y4z), (0, .ref q_Sp)]) hx hb dX6_howManyPrimes_27 hl (k := 2) rfl (by rw [ey5z]; rfl) (by decide) rfl (fun ls hl => ?_)
        refine lv_goto (tgt := 4) hx hb dX6_howManyPrimes_30 (by decide) ?_
        exact ih y4z y5z h _ _ hP hD hS _ (lv_sub hl [2, 1, 0] rfl)
def f_X6_howManyPrimes (N : Nat) (sp_unlike : Int32) (a_times : Nat → Int32) : Option (Int32) :=
  l_X6_howManyPrimes_4 N sp_unlike a_times N ((0 : Int32), (0 : Int32))
set_option maxRecDepth 100000 in
set_option maxHeartbeats 4000000 in
theorem k_X6_howManyPrimes_0 {p : Program} {l : Launch} {e : Env} {s : State} {m : MethodId} {args : Array Value} {below : List Frame} {meth : Method} {c : Code} {dC : Nat → ClassId} {dI : Nat → Nat → Nat} {cyI cyJ cyZ : ClassId} {A : Nat → Prop} (C0 : mC p s m meth c args cX6_howManyPrimes (some .int) 3 RX6 wsX6_howManyPrimes (gK dC dI cyI cyJ cyZ) A) (N : Nat) (res : Int32) (q_Sp : Nat) (q_times : Nat) (q_Pr : Nat) (q_prime : Nat) (q_parts : Nat) (sp_unlike : Int32) (sp_number : Int64) (sp_partsKept : Int32) (sp_partsNumber : Int64) (a_times : Nat → Int32) (h : f_X6_howManyPrimes N sp_unlike a_times = some res) : ∀ (H : Heap) (locs : List Loc), va_P (dC, dI) vwCl (wd2 cyI cyJ cyZ q_Sp q_times q_Pr q_prime q_parts sp_unlike sp_number sp_partsKept sp_partsNumber a_times) H → va_D A (wd2 cyI cyJ cyZ q_Sp q_times q_Pr q_prime q_parts sp_unlike sp_number sp_partsKept sp_partsNumber a_times) → va_S A s.heap H locs → ∀ (ls : Array Slot), lv_has ls 3 [(0, .ref q_Sp)] → W p l e (headSpec wsX6_howManyPrimes rm_X6_howManyPrimes).room s m args below meth c H locs 0 0 (MQ below (va_Qi (fun (r : Int32) (_ : Unit) => r = res) (bW dC dI (fun (u : Unit) => (wd2 cyI cyJ cyZ q_Sp q_times q_Pr q_prime q_parts sp_unlike sp_number sp_partsKept sp_partsNumber a_times)) A) A) args s 0 0 A) (F0 m 0 ls []) := by
  obtain ⟨hx, hb, hr, hml, hown, hts, hlocks, hG, hA⟩ := id C0
  have hK := hG.1
  intro H locs hP hD hS ls hl
  unfold f_X6_howManyPrimes at h
  refine lv_iconst (v := (0 : Int32)) hx hb dX6_howManyPrimes_0 (by decide) ?_
  refine lv_istore_n (lv' := [(1, .int (0 : Int32)), (0, .ref q_Sp)]) hx hb dX6_howManyPrimes_1 rfl hl (by decide) rfl (fun ls hl => ?_)
  refine lv_iconst (v := (0 : Int32)) hx hb dX6_howManyPrimes_2 (by decide) ?_
  refine lv_istore_n (lv' := [(2, .int (0 : Int32)), (1, .int (0 : Int32)), (0, .ref q_Sp)]) hx hb dX6_howManyPrimes_3 rfl hl (by decide) rfl (fun ls hl => ?_)
  exact k_X6_howManyPrimes_4 C0 N res q_Sp q_times q_Pr q_prime q_parts sp_unlike sp_number sp_partsKept sp_partsNumber a_times N (0 : Int32) (0 : Int32) h _ _ hP hD hS _ (lv_sub hl [2, 1, 0] rfl)
set_option maxRecDepth 100000 in
set_option maxHeartbeats 4000000 in
theorem c_X6_howManyPrimes (l : Launch) (dC : Nat → ClassId) (dI : Nat → Nat → Nat) (cyI cyJ cyZ : ClassId) (N : Nat) (res : Int32) (sz : Nat) (q_Sp : Nat) (q_times : Nat) (q_Pr : Nat) (q_prime : Nat) (q_parts : Nat) (sp_unlike : Int32) (sp_number : Int64) (sp_partsKept : Int32) (sp_partsNumber : Int64) (a_times : Nat → Int32) (h : f_X6_howManyPrimes N  sp_unlike a_times = some res) : Met l yX6_howManyPrimes wsX6_howManyPrimes rm_X6_howManyPrimes (pC dC dI cyI cyJ cyZ [.ref q_Sp] sz (wd2 cyI cyJ cyZ q_Sp q_times q_Pr q_prime q_parts sp_unlike sp_number sp_partsKept sp_partsNumber a_times)) (va_Qi (fun (r : Int32) (_ : Unit) => r = res) (bW dC dI (fun (u : Unit) => (wd2 cyI cyJ cyZ q_Sp q_times q_Pr q_prime q_parts sp_unlike sp_number sp_partsKept sp_partsNumber a_times)) (va_A (wd2 cyI cyJ cyZ q_Sp q_times q_Pr q_prime q_parts sp_unlike sp_number sp_partsKept sp_partsNumber a_times) sz)) (va_A (wd2 cyI cyJ cyZ q_Sp q_times q_Pr q_prime q_parts sp_unlike sp_number sp_partsKept sp_partsNumber a_times) sz)) 0 0 (va_A (wd2 cyI cyJ cyZ q_Sp q_times q_Pr q_prime q_parts sp_unlike sp_number sp_partsKept sp_partsNumber a_times) sz) := by
  refine Met.ofW (cc := cX6_howManyPrimes) (maxL := 3) (ret := (some .int)) (by decide) rfl ?_
  intro p e s m args below meth c s₁ B hml hv
  obtain ⟨rfl, hsz, hP, hG, hD0⟩ := hv
  have hx := B.exec
  have hb := B.bytes
  have hr := B.returns
  have hts := atoms_spec (ws := wsX6_howManyPrimes) B.pre
  have hown : s.vm.findClass RX6 = some m.cls := findClass_of_methodNamed B.named
  have hlocks := B.notSynchronized
  subst hsz
  have hD := hD0.self (sz := s.heap.size)
  generalize hAe : va_A (wd2 cyI cyJ cyZ q_Sp q_times q_Pr q_prime q_parts sp_unlike sp_number sp_partsKept sp_partsNumber a_times) s.heap.size = A at hD ⊢
  have hA : ∀ q : Nat, s.heap.size ≤ q → A q := fun q h => by rw [← hAe]; exact Or.inr h
  have hS : va_S A s.heap s.heap [] := va_S.rf
  have hl := lv_entry ([.ref q_Sp]) (n := 3) (Nat.le_of_ble_eq_true rfl)
  rw [lg_entry_eq]
  generalize (lg_sl ([.ref q_Sp]) ++ List.replicate (3 - (lg_sl ([.ref q_Sp])).length) Slot.unset).toArray = ls at hl ⊢
  have hl : lv_has ls 3 [(0, .ref q_Sp)] := hl
  exact k_X6_howManyPrimes_0 ⟨hx, hb, hr, hml, hown, hts, hlocks, hG, hA⟩ N res q_Sp q_times q_Pr q_prime q_parts sp_unlike sp_number sp_partsKept sp_partsNumber a_times  h _ _ hP hD hS _ hl
abbrev rm_X6_primeAt : Room := { frames := 0, cells := 0, slots := 0, locals := 0 }
theorem hd_X6_primeAt : yX6_primeAt.cls ≠ "java/lang/invoke/MethodHandle" ∧ yX6_primeAt.cls ≠ "java/lang/invoke/VarHandle" ∧ (parseMethodDescriptor yX6_primeAt.desc).map (fun d => d.parameters.length) = some 1 := by decide +kernel
theorem iw_X6_primeAt_X6 : ∀ w ∈ wsX60, w ∈ wsX6_primeAt := List.forall_mem_cons.mpr ⟨List.mem_of_getElem? (i := 5) rfl, List.forall_mem_cons.mpr ⟨List.mem_of_getElem? (i := 6) rfl, List.forall_mem_cons.mpr ⟨List.mem_of_getElem? (i := 7) rfl, List.forall_mem_cons.mpr ⟨List.mem_of_getElem? (i := 8) rfl, List.forall_mem_cons.mpr ⟨List.mem_of_getElem? (i := 9) rfl, List.forall_mem_cons.mpr ⟨List.mem_of_getElem? (i := 10) rfl, List.forall_mem_cons.mpr ⟨List.mem_of_getElem? (i := 11) rfl, List.forall_mem_cons.mpr ⟨List.mem_of_getElem? (i := 12) rfl, fun _ h => absurd h List.not_mem_nil⟩⟩⟩⟩⟩⟩⟩⟩
def s_X6_primeAt_4 (N : Nat) (v1 : Int32) (sp_unlike : Int32) (a_prime : Nat → Int64) (a_times : Nat → Int32) (k_4 : (Int32 × Int32) → Option (Int64)) (v2 : Int32) (v3 : Int32) : Option (Int64) :=
  if sp_unlike ≤ v3 then
    some (-4 : Int64)
  else
    if (12 : Int32) ≤ v3 then
      some (-4 : Int64)
    else
      if v3 < 0 ∨ 12 ≤ v3.toNatClampNeg then
        none
      else
        xl (v2 + (a_times v3.toNatClampNeg)) fun y4z =>
        if y4z ≤ v1 then
          xl (v3 + (1 : Int32)) fun y6z =>
          k_4 (y4z, y6z)
        else
          some (a_prime v3.toNatClampNeg)
def l_X6_primeAt_4 (N : Nat) (v1 : Int32) (sp_unlike : Int32) (a_prime : Nat → Int64) (a_times : Nat → Int32) (n : Nat) (z : Int32 × Int32) : Option (Int64) := lp (fun k z => s_X6_primeAt_4 N v1 sp_unlike a_prime a_times k z.1 z.2) n z
set_option maxRecDepth 100000 in
set_option maxHeartbeats 4000000 in
theorem k_X6_primeAt_4 {p : Program} {l : Launch} {e : Env} {s : State} {m : MethodId} {args : Array Value} {below : List Frame} {meth : Method} {c : Code} {dC : Nat → ClassId} {dI : Nat → Nat → Nat} {cyI cyJ cyZ : ClassId} {A : Nat → Prop} (C0 : mC p s m meth c args cX6_primeAt (some .long) 4 RX6 wsX6_primeAt (gK dC dI cyI cyJ cyZ) A) (N : Nat) (res : Int64) (q_Sp : Nat) (q_prime : Nat) (q_times : Nat) (q_Pr : Nat) (q_parts : Nat) (v1 : Int32) (sp_unlike : Int32) (sp_number : Int64) (sp_partsKept : Int32) (sp_partsNumber : Int64) (a_prime : Nat → Int64) (a_times : Nat → Int32) : ∀ (n : Nat) (v2 : Int32) (v3 : Int32), l_X6_primeAt_4 N v1 sp_unlike a_prime a_times n (v2, v3) = some res → ∀ (H : Heap) (locs : List Loc), va_P (dC, dI) vwCl (wd0 cyI cyJ cyZ q_Sp q_prime q_times q_Pr q_parts sp_unlike sp_number sp_partsKept sp_partsNumber a_prime a_times) H → va_D A (wd0 cyI cyJ cyZ q_Sp q_prime q_times q_Pr q_parts sp_unlike sp_number sp_partsKept sp_partsNumber a_prime a_times) → va_S A s.heap H locs → ∀ (ls : Array Slot), lv_has ls 4 [(0, .ref q_Sp), (1, .int v1), (2, .int v2), (3, .int v3)] → W p l e (headSpec wsX6_primeAt rm_X6_primeAt).room s m args below meth c H locs 0 0 (MQ below (va_Ql (fun (r : Int64) (_ : Unit) => r = res) (bW dC dI (fun (u : Unit) => (wd0 cyI cyJ cyZ q_Sp q_prime q_times q_Pr q_parts sp_unlike sp_number sp_partsKept sp_partsNumber a_prime a_times)) A) A) args s 0 0 A) (F0 m 4 ls []) := by
  obtain ⟨hx, hb, hr, hml, hown, hts, hlocks, hG, hA⟩ := id C0
  have hK := hG.1
  intro n
  induction n with
  | zero =>
    intro v2 v3 h
    cases h
  | succ n ih =>
    intro v2 v3 h H locs hP hD hS ls hl
    have h : s_X6_primeAt_4 N v1 sp_unlike a_prime a_times (l_X6_primeAt_4 N v1 sp_unlike a_prime a_times n) v2 v3 = some res := h
    unfold s_X6_primeAt_4 at h
    refine lv_iload_n hx hb dX6_primeAt_4 rfl (lv_at hl 3 rfl) ?_
    refine lv_aload_n hx hb dX6_primeAt_5 rfl (lv_at hl 0 rfl) ?_
    refine va_get (D := (dC, dI)) (ci := 6) (v := .int sp_unlike) (C := RX6) (T := TX6) (N := 8) hx hb hts iw_X6_primeAt_X6 hown hK hP 0 rfl rfl 3 (by decide) (hts (.fieldLink RX6 19 "GoesInto$Split" "unlike" "I") (List.mem_of_getElem? (i := 1) rfl)) (fun _ h9 => h9) rfl dX6_primeAt_6 ?_
    refine lv_icmp_ge (tgt := 45) hx hb dX6_primeAt_9 (by decide) (fun c1z => ?_) (fun c1z => ?_)
    · have h := xt h c1z
      refine lv_ldc2 (v := (-4 : Int64)) hx hb hown (hts (.constantLong RX6 62 (-4)) (List.mem_of_getElem? (i := 4) rfl)) dX6_primeAt_45 ?_
      obtain rfl := Option.some.inj h
      exact W.lret (v := (-4 : Int64)) hx hb hr (fun t ht hW => ⟨⟨_, (), rfl, rfl, by rw [ht]; exact hP, hD⟩, hS.F ht⟩) hS.2.2 dX6_primeAt_48 hlocks
    · have h := xf h c1z
      refine lv_iload_n hx hb dX6_primeAt_12 rfl (lv_at hl 3 rfl) ?_
      refine lv_bipush (v := (12 : Int32)) hx hb dX6_primeAt_13 (by decide) ?_
      refine lv_icmp_ge (tgt := 45) hx hb dX6_primeAt_15 (by decide) (fun c2z => ?_) (fun c2z => ?_)
      · have h := xt h c2z
        refine lv_ldc2 (v := (-4 : Int64)) hx hb hown (hts (.constantLong RX6 62 (-4)) (List.mem_of_getElem? (i := 4) rfl)) dX6_primeAt_45 ?_
        obtain rfl := Option.some.inj h
        exact W.lret (v := (-4 : Int64)) hx hb hr (fun t ht hW => ⟨⟨_, (), rfl, rfl, by rw [ht]; exact hP, hD⟩, hS.F ht⟩) hS.2.2 dX6_primeAt_48 hlocks
      · have h := xf h c2z
        refine lv_iload_n hx hb dX6_primeAt_18 rfl (lv_at hl 2 rfl) ?_
        refine lv_aload_n hx hb dX6_primeAt_19 rfl (lv_at hl 0 rfl) ?_
        refine va_get (D := (dC, dI)) (ci := 6) (v := .ref q_times) (C := RX6) (T := TX6) (N := 8) hx hb hts iw_X6_primeAt_X6 hown hK hP 0 rfl rfl 2 (by decide) (hts (.fieldLink RX6 15 "GoesInto$Split" "times" "[I") (List.mem_of_getElem? (i := 2) rfl)) (fun _ h9 => h9) rfl dX6_primeAt_20 ?_
        refine lv_iload_n hx hb dX6_primeAt_23 rfl (lv_at hl 3 rfl) ?_
        obtain ⟨b3z, h⟩ := xn h
        refine va_iald hx hb hK hP 2 0 rfl rfl b3z dX6_primeAt_24 ?_
        refine lv_iadd hx hb dX6_primeAt_25 ?_
        refine lv_topi (fun y4z ey4z => ?_)
        have h := xl_at h ey4z
        refine lv_istore_n (lv' := [(2, .int y4z), (0, .ref q_Sp), (1, .int v1), (3, .int v3)]) hx hb dX6_primeAt_26 rfl hl (by decide) rfl (fun ls hl => ?_)
        refine lv_iload_n hx hb dX6_primeAt_27 rfl (lv_at hl 2 rfl) ?_
        refine lv_iload_n hx hb dX6_primeAt_28 rfl (lv_at hl 0 rfl) ?_
        refine lv_icmp_ge (tgt := 39) hx hb dX6_primeAt_29 (by decide) (fun c5z => ?_) (fun c5z => ?_)
        · have h := xt h c5z
          obtain ⟨y6z, ey6z⟩ : ∃ z : Int32, z = v3 + (1 : Int32) := ⟨_, rfl⟩
          have h := xl_at h ey6z
          refine lv_iinc (v := y6z) (lv' := [(3, .int y6z), (2, .int y4z), (0, .ref q_Sp), (1, .int v1)]) hx hb dX6_primeAt_39 hl (k := 3) rfl (by rw [ey6z]; rfl) (by decide) rfl (fun ls hl => ?_)
          refine lv_goto (tgt := 4) hx hb dX6_primeAt_42 (by decide) ?_
          exact ih y4z y6z h _ _ hP hD hS _ (lv_sub hl [2, 3, 1, 0] rfl)
        · have h := xf h c5z
          refine lv_aload_n hx hb dX6_primeAt_32 rfl (lv_at hl 1 rfl) ?_
          refine va_get (D := (dC, dI)) (ci := 6) (v := .ref q_prime) (C := RX6) (T := TX6) (N := 8) hx hb hts iw_X6_primeAt_X6 hown hK hP 0 rfl rfl 1 (by decide) (hts (.fieldLink RX6 11 "GoesInto$Split" "prime" "[J") (List.mem_of_getElem? (i := 3) rfl)) (fun _ h9 => h9) rfl dX6_primeAt_33 ?_
          refine lv_iload_n hx hb dX6_primeAt_36 rfl (lv_at hl 3 rfl) ?_
          refine va_lald hx hb hK hP 1 1 rfl rfl b3z dX6_primeAt_37 ?_
          obtain rfl := Option.some.inj h
          exact W.lret (v := a_prime v3.toNatClampNeg) hx hb hr (fun t ht hW => ⟨⟨_, (), rfl, rfl, by rw [ht]; exact hP, hD⟩, hS.F ht⟩) hS.2.2 dX6_primeAt_38 hlocks
def f_X6_primeAt (N : Nat) (v1 : Int32) (sp_unlike : Int32) (a_prime : Nat → Int64) (a_times : Nat → Int32) : Option (Int64) :=
  l_X6_primeAt_4 N v1 sp_unlike a_prime a_times N ((0 : Int32), (0 : Int32))
set_option maxRecDepth 100000 in
set_option maxHeartbeats 4000000 in
theorem k_X6_primeAt_0 {p : Program} {l : Launch} {e : Env} {s : State} {m : MethodId} {args : Array Value} {below : List Frame} {meth : Method} {c : Code} {dC : Nat → ClassId} {dI : Nat → Nat → Nat} {cyI cyJ cyZ : ClassId} {A : Nat → Prop} (C0 : mC p s m meth c args cX6_primeAt (some .long) 4 RX6 wsX6_primeAt (gK dC dI cyI cyJ cyZ) A) (N : Nat) (res : Int64) (q_Sp : Nat) (q_prime : Nat) (q_times : Nat) (q_Pr : Nat) (q_parts : Nat) (v1 : Int32) (sp_unlike : Int32) (sp_number : Int64) (sp_partsKept : Int32) (sp_partsNumber : Int64) (a_prime : Nat → Int64) (a_times : Nat → Int32) (h : f_X6_primeAt N v1 sp_unlike a_prime a_times = some res) : ∀ (H : Heap) (locs : List Loc), va_P (dC, dI) vwCl (wd0 cyI cyJ cyZ q_Sp q_prime q_times q_Pr q_parts sp_unlike sp_number sp_partsKept sp_partsNumber a_prime a_times) H → va_D A (wd0 cyI cyJ cyZ q_Sp q_prime q_times q_Pr q_parts sp_unlike sp_number sp_partsKept sp_partsNumber a_prime a_times) → va_S A s.heap H locs → ∀ (ls : Array Slot), lv_has ls 4 [(0, .ref q_Sp), (1, .int v1)] → W p l e (headSpec wsX6_primeAt rm_X6_primeAt).room s m args below meth c H locs 0 0 (MQ below (va_Ql (fun (r : Int64) (_ : Unit) => r = res) (bW dC dI (fun (u : Unit) => (wd0 cyI cyJ cyZ q_Sp q_prime q_times q_Pr q_parts sp_unlike sp_number sp_partsKept sp_partsNumber a_prime a_times)) A) A) args s 0 0 A) (F0 m 0 ls []) := by
  obtain ⟨hx, hb, hr, hml, hown, hts, hlocks, hG, hA⟩ := id C0
  have hK := hG.1
  intro H locs hP hD hS ls hl
  unfold f_X6_primeAt at h
  refine lv_iconst (v := (0 : Int32)) hx hb dX6_primeAt_0 (by decide) ?_
  refine lv_istore_n (lv' := [(2, .int (0 : Int32)), (0, .ref q_Sp), (1, .int v1)]) hx hb dX6_primeAt_1 rfl hl (by decide) rfl (fun ls hl => ?_)
  refine lv_iconst (v := (0 : Int32)) hx hb dX6_primeAt_2 (by decide) ?_
  refine lv_istore_n (lv' := [(3, .int (0 : Int32)), (2, .int (0 : Int32)), (0, .ref q_Sp), (1, .int v1)]) hx hb dX6_primeAt_3 rfl hl (by decide) rfl (fun ls hl => ?_)
  exact k_X6_primeAt_4 C0 N res q_Sp q_prime q_times q_Pr q_parts v1 sp_unlike sp_number sp_partsKept sp_partsNumber a_prime a_times N (0 : Int32) (0 : Int32) h _ _ hP hD hS _ (lv_sub hl [2, 3, 1, 0] rfl)
set_option maxRecDepth 100000 in
set_option maxHeartbeats 4000000 in
theorem c_X6_primeAt (l : Launch) (dC : Nat → ClassId) (dI : Nat → Nat → Nat) (cyI cyJ cyZ : ClassId) (N : Nat) (res : Int64) (sz : Nat) (q_Sp : Nat) (q_prime : Nat) (q_times : Nat) (q_Pr : Nat) (q_parts : Nat) (v1 : Int32) (sp_unlike : Int32) (sp_number : Int64) (sp_partsKept : Int32) (sp_partsNumber : Int64) (a_prime : Nat → Int64) (a_times : Nat → Int32) (h : f_X6_primeAt N v1 sp_unlike a_prime a_times = some res) : Met l yX6_primeAt wsX6_primeAt rm_X6_primeAt (pC dC dI cyI cyJ cyZ [.ref q_Sp, .int v1] sz (wd0 cyI cyJ cyZ q_Sp q_prime q_times q_Pr q_parts sp_unlike sp_number sp_partsKept sp_partsNumber a_prime a_times)) (va_Ql (fun (r : Int64) (_ : Unit) => r = res) (bW dC dI (fun (u : Unit) => (wd0 cyI cyJ cyZ q_Sp q_prime q_times q_Pr q_parts sp_unlike sp_number sp_partsKept sp_partsNumber a_prime a_times)) (va_A (wd0 cyI cyJ cyZ q_Sp q_prime q_times q_Pr q_parts sp_unlike sp_number sp_partsKept sp_partsNumber a_prime a_times) sz)) (va_A (wd0 cyI cyJ cyZ q_Sp q_prime q_times q_Pr q_parts sp_unlike sp_number sp_partsKept sp_partsNumber a_prime a_times) sz)) 0 0 (va_A (wd0 cyI cyJ cyZ q_Sp q_prime q_times q_Pr q_parts sp_unlike sp_number sp_partsKept sp_partsNumber a_prime a_times) sz) := by
  refine Met.ofW (cc := cX6_primeAt) (maxL := 4) (ret := (some .long)) (by decide) rfl ?_
  intro p e s m args below meth c s₁ B hml hv
  obtain ⟨rfl, hsz, hP, hG, hD0⟩ := hv
  have hx := B.exec
  have hb := B.bytes
  have hr := B.returns
  have hts := atoms_spec (ws := wsX6_primeAt) B.pre
  have hown : s.vm.findClass RX6 = some m.cls := findClass_of_methodNamed B.named
  have hlocks := B.notSynchronized
  subst hsz
  have hD := hD0.self (sz := s.heap.size)
  generalize hAe : va_A (wd0 cyI cyJ cyZ q_Sp q_prime q_times q_Pr q_parts sp_unlike sp_number sp_partsKept sp_partsNumber a_prime a_times) s.heap.size = A at hD ⊢
  have hA : ∀ q : Nat, s.heap.size ≤ q → A q := fun q h => by rw [← hAe]; exact Or.inr h
  have hS : va_S A s.heap s.heap [] := va_S.rf
  have hl := lv_entry ([.ref q_Sp, .int v1]) (n := 4) (Nat.le_of_ble_eq_true rfl)
  rw [lg_entry_eq]
  generalize (lg_sl ([.ref q_Sp, .int v1]) ++ List.replicate (4 - (lg_sl ([.ref q_Sp, .int v1])).length) Slot.unset).toArray = ls at hl ⊢
  have hl : lv_has ls 4 [(0, .ref q_Sp), (1, .int v1)] := hl
  exact k_X6_primeAt_0 ⟨hx, hb, hr, hml, hown, hts, hlocks, hG, hA⟩ N res q_Sp q_prime q_times q_Pr q_parts v1 sp_unlike sp_number sp_partsKept sp_partsNumber a_prime a_times  h _ _ hP hD hS _ hl
abbrev rm_X6_timesAt : Room := { frames := 0, cells := 0, slots := 0, locals := 0 }
theorem hd_X6_timesAt : yX6_timesAt.cls ≠ "java/lang/invoke/MethodHandle" ∧ yX6_timesAt.cls ≠ "java/lang/invoke/VarHandle" ∧ (parseMethodDescriptor yX6_timesAt.desc).map (fun d => d.parameters.length) = some 1 := by decide +kernel
theorem iw_X6_timesAt_X6 : ∀ w ∈ wsX60, w ∈ wsX6_timesAt := List.forall_mem_cons.mpr ⟨List.mem_of_getElem? (i := 3) rfl, List.forall_mem_cons.mpr ⟨List.mem_of_getElem? (i := 4) rfl, List.forall_mem_cons.mpr ⟨List.mem_of_getElem? (i := 5) rfl, List.forall_mem_cons.mpr ⟨List.mem_of_getElem? (i := 6) rfl, List.forall_mem_cons.mpr ⟨List.mem_of_getElem? (i := 7) rfl, List.forall_mem_cons.mpr ⟨List.mem_of_getElem? (i := 8) rfl, List.forall_mem_cons.mpr ⟨List.mem_of_getElem? (i := 9) rfl, List.forall_mem_cons.mpr ⟨List.mem_of_getElem? (i := 10) rfl, fun _ h => absurd h List.not_mem_nil⟩⟩⟩⟩⟩⟩⟩⟩
def f_X6_timesAt (N : Nat) (v1 : Int32) (sp_unlike : Int32) (a_times : Nat → Int32) : Option (Int32) :=
  if v1 < 0 then
    some (0 : Int32)
  else
    if sp_unlike ≤ v1 then
      some (0 : Int32)
    else
      if (12 : Int32) ≤ v1 then
        some (0 : Int32)
      else
        if v1 < 0 ∨ 12 ≤ v1.toNatClampNeg then
          none
        else
          some (a_times v1.toNatClampNeg)
set_option maxRecDepth 100000 in
set_option maxHeartbeats 4000000 in
theorem k_X6_timesAt_0 {p : Program} {l : Launch} {e : Env} {s : State} {m : MethodId} {args : Array Value} {below : List Frame} {meth : Method} {c : Code} {dC : Nat → ClassId} {dI : Nat → Nat → Nat} {cyI cyJ cyZ : ClassId} {A : Nat → Prop} (C0 : mC p s m meth c args cX6_timesAt (some .int) 2 RX6 wsX6_timesAt (gK dC dI cyI cyJ cyZ) A) (N : Nat) (res : Int32) (q_Sp : Nat) (q_times : Nat) (q_Pr : Nat) (q_prime : Nat) (q_parts : Nat) (v1 : Int32) (sp_unlike : Int32) (sp_number : Int64) (sp_partsKept : Int32) (sp_partsNumber : Int64) (a_times : Nat → Int32) (h : f_X6_timesAt N v1 sp_unlike a_times = some res) : ∀ (H : Heap) (locs : List Loc), va_P (dC, dI) vwCl (wd2 cyI cyJ cyZ q_Sp q_times q_Pr q_prime q_parts sp_unlike sp_number sp_partsKept sp_partsNumber a_times) H → va_D A (wd2 cyI cyJ cyZ q_Sp q_times q_Pr q_prime q_parts sp_unlike sp_number sp_partsKept sp_partsNumber a_times) → va_S A s.heap H locs → ∀ (ls : Array Slot), lv_has ls 2 [(0, .ref q_Sp), (1, .int v1)] → W p l e (headSpec wsX6_timesAt rm_X6_timesAt).room s m args below meth c H locs 0 0 (MQ below (va_Qi (fun (r : Int32) (_ : Unit) => r = res) (bW dC dI (fun (u : Unit) => (wd2 cyI cyJ cyZ q_Sp q_times q_Pr q_prime q_parts sp_unlike sp_number sp_partsKept sp_partsNumber a_times)) A) A) args s 0 0 A) (F0 m 0 ls []) := by
  obtain ⟨hx, hb, hr, hml, hown, hts, hlocks, hG, hA⟩ := id C0
  have hK := hG.1
  intro H locs hP hD hS ls hl
  unfold f_X6_timesAt at h
  refine lv_iload_n hx hb dX6_timesAt_0 rfl (lv_at hl 1 rfl) ?_
  refine lv_if_lt (tgt := 27) hx hb dX6_timesAt_1 (by decide) (fun c1z => ?_) (fun c1z => ?_)
  · have h := xt h c1z
    refine lv_iconst (v := (0 : Int32)) hx hb dX6_timesAt_27 (by decide) ?_
    obtain rfl := Option.some.inj h
    exact W.iret (v := (0 : Int32)) hx hb hr (fun t ht hW => ⟨⟨_, (), rfl, rfl, by rw [ht]; exact hP, hD⟩, hS.F ht⟩) hS.2.2 dX6_timesAt_28 hlocks
  · have h := xf h c1z
    refine lv_iload_n hx hb dX6_timesAt_4 rfl (lv_at hl 1 rfl) ?_
    refine lv_aload_n hx hb dX6_timesAt_5 rfl (lv_at hl 0 rfl) ?_
    refine va_get (D := (dC, dI)) (ci := 6) (v := .int sp_unlike) (C := RX6) (T := TX6) (N := 8) hx hb hts iw_X6_timesAt_X6 hown hK hP 0 rfl rfl 3 (by decide) (hts (.fieldLink RX6 19 "GoesInto$Split" "unlike" "I") (List.mem_of_getElem? (i := 1) rfl)) (fun _ h9 => h9) rfl dX6_timesAt_6 ?_
    refine lv_icmp_ge (tgt := 27) hx hb dX6_timesAt_9 (by decide) (fun c2z => ?_) (fun c2z => ?_)
    · have h := xt h c2z
      refine lv_iconst (v := (0 : Int32)) hx hb dX6_timesAt_27 (by decide) ?_
      obtain rfl := Option.some.inj h
      exact W.iret (v := (0 : Int32)) hx hb hr (fun t ht hW => ⟨⟨_, (), rfl, rfl, by rw [ht]; exact hP, hD⟩, hS.F ht⟩) hS.2.2 dX6_timesAt_28 hlocks
    · have h := xf h c2z
      refine lv_iload_n hx hb dX6_timesAt_12 rfl (lv_at hl 1 rfl) ?_
      refine lv_bipush (v := (12 : Int32)) hx hb dX6_timesAt_13 (by decide) ?_
      refine lv_icmp_ge (tgt := 27) hx hb dX6_timesAt_15 (by decide) (fun c3z => ?_) (fun c3z => ?_)
      · have h := xt h c3z
        refine lv_iconst (v := (0 : Int32)) hx hb dX6_timesAt_27 (by decide) ?_
        obtain rfl := Option.some.inj h
        exact W.iret (v := (0 : Int32)) hx hb hr (fun t ht hW => ⟨⟨_, (), rfl, rfl, by rw [ht]; exact hP, hD⟩, hS.F ht⟩) hS.2.2 dX6_timesAt_28 hlocks
      · have h := xf h c3z
        refine lv_aload_n hx hb dX6_timesAt_18 rfl (lv_at hl 0 rfl) ?_
        refine va_get (D := (dC, dI)) (ci := 6) (v := .ref q_times) (C := RX6) (T := TX6) (N := 8) hx hb hts iw_X6_timesAt_X6 hown hK hP 0 rfl rfl 2 (by decide) (hts (.fieldLink RX6 15 "GoesInto$Split" "times" "[I") (List.mem_of_getElem? (i := 2) rfl)) (fun _ h9 => h9) rfl dX6_timesAt_19 ?_
        refine lv_iload_n hx hb dX6_timesAt_22 rfl (lv_at hl 1 rfl) ?_
        obtain ⟨b4z, h⟩ := xn h
        refine va_iald hx hb hK hP 1 0 rfl rfl b4z dX6_timesAt_23 ?_
        refine lv_goto (tgt := 28) hx hb dX6_timesAt_24 (by decide) ?_
        obtain rfl := Option.some.inj h
        exact W.iret (v := a_times v1.toNatClampNeg) hx hb hr (fun t ht hW => ⟨⟨_, (), rfl, rfl, by rw [ht]; exact hP, hD⟩, hS.F ht⟩) hS.2.2 dX6_timesAt_28 hlocks
set_option maxRecDepth 100000 in
set_option maxHeartbeats 4000000 in
theorem c_X6_timesAt (l : Launch) (dC : Nat → ClassId) (dI : Nat → Nat → Nat) (cyI cyJ cyZ : ClassId) (N : Nat) (res : Int32) (sz : Nat) (q_Sp : Nat) (q_times : Nat) (q_Pr : Nat) (q_prime : Nat) (q_parts : Nat) (v1 : Int32) (sp_unlike : Int32) (sp_number : Int64) (sp_partsKept : Int32) (sp_partsNumber : Int64) (a_times : Nat → Int32) (h : f_X6_timesAt N v1 sp_unlike a_times = some res) : Met l yX6_timesAt wsX6_timesAt rm_X6_timesAt (pC dC dI cyI cyJ cyZ [.ref q_Sp, .int v1] sz (wd2 cyI cyJ cyZ q_Sp q_times q_Pr q_prime q_parts sp_unlike sp_number sp_partsKept sp_partsNumber a_times)) (va_Qi (fun (r : Int32) (_ : Unit) => r = res) (bW dC dI (fun (u : Unit) => (wd2 cyI cyJ cyZ q_Sp q_times q_Pr q_prime q_parts sp_unlike sp_number sp_partsKept sp_partsNumber a_times)) (va_A (wd2 cyI cyJ cyZ q_Sp q_times q_Pr q_prime q_parts sp_unlike sp_number sp_partsKept sp_partsNumber a_times) sz)) (va_A (wd2 cyI cyJ cyZ q_Sp q_times q_Pr q_prime q_parts sp_unlike sp_number sp_partsKept sp_partsNumber a_times) sz)) 0 0 (va_A (wd2 cyI cyJ cyZ q_Sp q_times q_Pr q_prime q_parts sp_unlike sp_number sp_partsKept sp_partsNumber a_times) sz) := by
  refine Met.ofW (cc := cX6_timesAt) (maxL := 2) (ret := (some .int)) (by decide) rfl ?_
  intro p e s m args below meth c s₁ B hml hv
  obtain ⟨rfl, hsz, hP, hG, hD0⟩ := hv
  have hx := B.exec
  have hb := B.bytes
  have hr := B.returns
  have hts := atoms_spec (ws := wsX6_timesAt) B.pre
  have hown : s.vm.findClass RX6 = some m.cls := findClass_of_methodNamed B.named
  have hlocks := B.notSynchronized
  subst hsz
  have hD := hD0.self (sz := s.heap.size)
  generalize hAe : va_A (wd2 cyI cyJ cyZ q_Sp q_times q_Pr q_prime q_parts sp_unlike sp_number sp_partsKept sp_partsNumber a_times) s.heap.size = A at hD ⊢
  have hA : ∀ q : Nat, s.heap.size ≤ q → A q := fun q h => by rw [← hAe]; exact Or.inr h
  have hS : va_S A s.heap s.heap [] := va_S.rf
  have hl := lv_entry ([.ref q_Sp, .int v1]) (n := 2) (Nat.le_of_ble_eq_true rfl)
  rw [lg_entry_eq]
  generalize (lg_sl ([.ref q_Sp, .int v1]) ++ List.replicate (2 - (lg_sl ([.ref q_Sp, .int v1])).length) Slot.unset).toArray = ls at hl ⊢
  have hl : lv_has ls 2 [(0, .ref q_Sp), (1, .int v1)] := hl
  exact k_X6_timesAt_0 ⟨hx, hb, hr, hml, hown, hts, hlocks, hG, hA⟩ N res q_Sp q_times q_Pr q_prime q_parts v1 sp_unlike sp_number sp_partsKept sp_partsNumber a_times  h _ _ hP hD hS _ hl
/-- the cells Sp, prime -/
abbrev wd3 (cyI cyJ cyZ : ClassId) (q_Sp : Nat) (q_prime : Nat) (q_Pr : Nat) (q_times : Nat) (q_parts : Nat) (sp_unlike : Int32) (sp_number : Int64) (sp_partsKept : Int32) (sp_partsNumber : Int64) (a_prime : Nat → Int64) : va_W := [(q_Sp, .inr (6, [.ref q_Pr, .ref q_prime, .ref q_times, .int sp_unlike, .long sp_number, .ref q_parts, .int sp_partsKept, .long sp_partsNumber])), (q_prime, .inl (cyJ, 12, .inr (.inl a_prime)))]
abbrev rm_X6_without : Room := { frames := 0, cells := 0, slots := 0, locals := 0 }
theorem hd_X6_without : yX6_without.cls ≠ "java/lang/invoke/MethodHandle" ∧ yX6_without.cls ≠ "java/lang/invoke/VarHandle" ∧ (parseMethodDescriptor yX6_without.desc).map (fun d => d.parameters.length) = some 1 := by decide +kernel
theorem iw_X6_without_X6 : ∀ w ∈ wsX60, w ∈ wsX6_without := List.forall_mem_cons.mpr ⟨List.mem_of_getElem? (i := 5) rfl, List.forall_mem_cons.mpr ⟨List.mem_of_getElem? (i := 6) rfl, List.forall_mem_cons.mpr ⟨List.mem_of_getElem? (i := 7) rfl, List.forall_mem_cons.mpr ⟨List.mem_of_getElem? (i := 8) rfl, List.forall_mem_cons.mpr ⟨List.mem_of_getElem? (i := 9) rfl, List.forall_mem_cons.mpr ⟨List.mem_of_getElem? (i := 10) rfl, List.forall_mem_cons.mpr ⟨List.mem_of_getElem? (i := 11) rfl, List.forall_mem_cons.mpr ⟨List.mem_of_getElem? (i := 12) rfl, fun _ h => absurd h List.not_mem_nil⟩⟩⟩⟩⟩⟩⟩⟩
def f_X6_without (N : Nat) (v1 : Int32) (sp_unlike : Int32) (sp_number : Int64) (a_prime : Nat → Int64) : Option (Int64) :=
  if v1 < 0 then
    some sp_number
  else
    if sp_unlike ≤ v1 then
      some sp_number
    else
      if (12 : Int32) ≤ v1 then
        some sp_number
      else
        if v1 < 0 ∨ 12 ≤ v1.toNatClampNeg then
          none
        else
          if (2 : Int64) ≤ (a_prime v1.toNatClampNeg) then
            xl (a_prime v1.toNatClampNeg) fun y6z =>
            if y6z = 0 then
              none
            else
              some (sp_number / y6z)
          else
            some sp_number
set_option maxRecDepth 100000 in
set_option maxHeartbeats 4000000 in
theorem k_X6_without_0 {p : Program} {l : Launch} {e : Env} {s : State} {m : MethodId} {args : Array Value} {below : List Frame} {meth : Method} {c : Code} {dC : Nat → ClassId} {dI : Nat → Nat → Nat} {cyI cyJ cyZ : ClassId} {A : Nat → Prop} (C0 : mC p s m meth c args cX6_without (some .long) 2 RX6 wsX6_without (gK dC dI cyI cyJ cyZ) A) (N : Nat) (res : Int64) (q_Sp : Nat) (q_prime : Nat) (q_Pr : Nat) (q_times : Nat) (q_parts : Nat) (v1 : Int32) (sp_unlike : Int32) (sp_number : Int64) (sp_partsKept : Int32) (sp_partsNumber : Int64) (a_prime : Nat → Int64) (h : f_X6_without N v1 sp_unlike sp_number a_prime = some res) : ∀ (H : Heap) (locs : List Loc), va_P (dC, dI) vwCl (wd3 cyI cyJ cyZ q_Sp q_prime q_Pr q_times q_parts sp_unlike sp_number sp_partsKept sp_partsNumber a_prime) H → va_D A (wd3 cyI cyJ cyZ q_Sp q_prime q_Pr q_times q_parts sp_unlike sp_number sp_partsKept sp_partsNumber a_prime) → va_S A s.heap H locs → ∀ (ls : Array Slot), lv_has ls 2 [(0, .ref q_Sp), (1, .int v1)] → W p l e (headSpec wsX6_without rm_X6_without).room s m args below meth c H locs 0 0 (MQ below (va_Ql (fun (r : Int64) (_ : Unit) => r = res) (bW dC dI (fun (u : Unit) => (wd3 cyI cyJ cyZ q_Sp q_prime q_Pr q_times q_parts sp_unlike sp_number sp_partsKept sp_partsNumber a_prime)) A) A) args s 0 0 A) (F0 m 0 ls []) := by
  obtain ⟨hx, hb, hr, hml, hown, hts, hlocks, hG, hA⟩ := id C0
  have hK := hG.1
  intro H locs hP hD hS ls hl
  unfold f_X6_without at h
  refine lv_iload_n hx hb dX6_without_0 rfl (lv_at hl 1 rfl) ?_
  refine lv_if_lt (tgt := 31) hx hb dX6_without_1 (by decide) (fun c1z => ?_) (fun c1z => ?_)
  · have h := xt h c1z
    refine lv_aload_n hx hb dX6_without_31 rfl (lv_at hl 0 rfl) ?_
    refine va_get (D := (dC, dI)) (ci := 6) (v := .long sp_number) (C := RX6) (T := TX6) (N := 8) hx hb hts iw_X6_without_X6 hown hK hP 0 rfl rfl 4 (by decide) (hts (.fieldLink RX6 23 "GoesInto$Split" "number" "J") (List.mem_of_getElem? (i := 4) rfl)) (fun _ h9 => h9) rfl dX6_without_32 ?_
    obtain rfl := Option.some.inj h
    exact W.lret (v := sp_number) hx hb hr (fun t ht hW => ⟨⟨_, (), rfl, rfl, by rw [ht]; exact hP, hD⟩, hS.F ht⟩) hS.2.2 dX6_without_35 hlocks
  · have h := xf h c1z
    refine lv_iload_n hx hb dX6_without_4 rfl (lv_at hl 1 rfl) ?_
    refine lv_aload_n hx hb dX6_without_5 rfl (lv_at hl 0 rfl) ?_
    refine va_get (D := (dC, dI)) (ci := 6) (v := .int sp_unlike) (C := RX6) (T := TX6) (N := 8) hx hb hts iw_X6_without_X6 hown hK hP 0 rfl rfl 3 (by decide) (hts (.fieldLink RX6 19 "GoesInto$Split" "unlike" "I") (List.mem_of_getElem? (i := 1) rfl)) (fun _ h9 => h9) rfl dX6_without_6 ?_
    refine lv_icmp_ge (tgt := 31) hx hb dX6_without_9 (by decide) (fun c2z => ?_) (fun c2z => ?_)
    · have h := xt h c2z
      refine lv_aload_n hx hb dX6_without_31 rfl (lv_at hl 0 rfl) ?_
      refine va_get (D := (dC, dI)) (ci := 6) (v := .long sp_number) (C := RX6) (T := TX6) (N := 8) hx hb hts iw_X6_without_X6 hown hK hP 0 rfl rfl 4 (by decide) (hts (.fieldLink RX6 23 "GoesInto$Split" "number" "J") (List.mem_of_getElem? (i := 4) rfl)) (fun _ h9 => h9) rfl dX6_without_32 ?_
      obtain rfl := Option.some.inj h
      exact W.lret (v := sp_number) hx hb hr (fun t ht hW => ⟨⟨_, (), rfl, rfl, by rw [ht]; exact hP, hD⟩, hS.F ht⟩) hS.2.2 dX6_without_35 hlocks
    · have h := xf h c2z
      refine lv_iload_n hx hb dX6_without_12 rfl (lv_at hl 1 rfl) ?_
      refine lv_bipush (v := (12 : Int32)) hx hb dX6_without_13 (by decide) ?_
      refine lv_icmp_ge (tgt := 31) hx hb dX6_without_15 (by decide) (fun c3z => ?_) (fun c3z => ?_)
      · have h := xt h c3z
        refine lv_aload_n hx hb dX6_without_31 rfl (lv_at hl 0 rfl) ?_
        refine va_get (D := (dC, dI)) (ci := 6) (v := .long sp_number) (C := RX6) (T := TX6) (N := 8) hx hb hts iw_X6_without_X6 hown hK hP 0 rfl rfl 4 (by decide) (hts (.fieldLink RX6 23 "GoesInto$Split" "number" "J") (List.mem_of_getElem? (i := 4) rfl)) (fun _ h9 => h9) rfl dX6_without_32 ?_
        obtain rfl := Option.some.inj h
        exact W.lret (v := sp_number) hx hb hr (fun t ht hW => ⟨⟨_, (), rfl, rfl, by rw [ht]; exact hP, hD⟩, hS.F ht⟩) hS.2.2 dX6_without_35 hlocks
      · have h := xf h c3z
        refine lv_aload_n hx hb dX6_without_18 rfl (lv_at hl 0 rfl) ?_
        refine va_get (D := (dC, dI)) (ci := 6) (v := .ref q_prime) (C := RX6) (T := TX6) (N := 8) hx hb hts iw_X6_without_X6 hown hK hP 0 rfl rfl 1 (by decide) (hts (.fieldLink RX6 11 "GoesInto$Split" "prime" "[J") (List.mem_of_getElem? (i := 2) rfl)) (fun _ h9 => h9) rfl dX6_without_19 ?_
        refine lv_iload_n hx hb dX6_without_22 rfl (lv_at hl 1 rfl) ?_
        obtain ⟨b4z, h⟩ := xn h
        refine va_lald hx hb hK hP 1 1 rfl rfl b4z dX6_without_23 ?_
        refine lv_ldc2 (v := (2 : Int64)) hx hb hown (hts (.constantLong RX6 45 (2)) (List.mem_of_getElem? (i := 3) rfl)) dX6_without_24 ?_
        refine W.lcmp hx hb dX6_without_27 ?_
        refine lv_if_ge (tgt := 36) hx hb dX6_without_28 (by decide) (fun c5z => ?_) (fun c5z => ?_)
        · have c5z := (lg_cmp_ge _ _).mp c5z
          have h := xt h c5z
          refine lv_aload_n hx hb dX6_without_36 rfl (lv_at hl 0 rfl) ?_
          refine va_get (D := (dC, dI)) (ci := 6) (v := .long sp_number) (C := RX6) (T := TX6) (N := 8) hx hb hts iw_X6_without_X6 hown hK hP 0 rfl rfl 4 (by decide) (hts (.fieldLink RX6 23 "GoesInto$Split" "number" "J") (List.mem_of_getElem? (i := 4) rfl)) (fun _ h9 => h9) rfl dX6_without_37 ?_
          refine lv_aload_n hx hb dX6_without_40 rfl (lv_at hl 0 rfl) ?_
          refine va_get (D := (dC, dI)) (ci := 6) (v := .ref q_prime) (C := RX6) (T := TX6) (N := 8) hx hb hts iw_X6_without_X6 hown hK hP 0 rfl rfl 1 (by decide) (hts (.fieldLink RX6 11 "GoesInto$Split" "prime" "[J") (List.mem_of_getElem? (i := 2) rfl)) (fun _ h9 => h9) rfl dX6_without_41 ?_
          refine lv_iload_n hx hb dX6_without_44 rfl (lv_at hl 1 rfl) ?_
          refine va_lald hx hb hK hP 1 1 rfl rfl b4z dX6_without_45 ?_
          refine lv_topl (fun y6z ey6z => ?_)
          have h := xl_at h ey6z
          obtain ⟨b7z, h⟩ := xn h
          refine lv_ldiv hx hb dX6_without_46 b7z ?_
          obtain rfl := Option.some.inj h
          exact W.lret (v := sp_number / y6z) hx hb hr (fun t ht hW => ⟨⟨_, (), rfl, rfl, by rw [ht]; exact hP, hD⟩, hS.F ht⟩) hS.2.2 dX6_without_47 hlocks
        · have c5z := fun z => c5z ((lg_cmp_ge _ _).mpr z)
          have h := xf h c5z
          refine lv_aload_n hx hb dX6_without_31 rfl (lv_at hl 0 rfl) ?_
          refine va_get (D := (dC, dI)) (ci := 6) (v := .long sp_number) (C := RX6) (T := TX6) (N := 8) hx hb hts iw_X6_without_X6 hown hK hP 0 rfl rfl 4 (by decide) (hts (.fieldLink RX6 23 "GoesInto$Split" "number" "J") (List.mem_of_getElem? (i := 4) rfl)) (fun _ h9 => h9) rfl dX6_without_32 ?_
          obtain rfl := Option.some.inj h
          exact W.lret (v := sp_number) hx hb hr (fun t ht hW => ⟨⟨_, (), rfl, rfl, by rw [ht]; exact hP, hD⟩, hS.F ht⟩) hS.2.2 dX6_without_35 hlocks
set_option maxRecDepth 100000 in
set_option maxHeartbeats 4000000 in
theorem c_X6_without (l : Launch) (dC : Nat → ClassId) (dI : Nat → Nat → Nat) (cyI cyJ cyZ : ClassId) (N : Nat) (res : Int64) (sz : Nat) (q_Sp : Nat) (q_prime : Nat) (q_Pr : Nat) (q_times : Nat) (q_parts : Nat) (v1 : Int32) (sp_unlike : Int32) (sp_number : Int64) (sp_partsKept : Int32) (sp_partsNumber : Int64) (a_prime : Nat → Int64) (h : f_X6_without N v1 sp_unlike sp_number a_prime = some res) : Met l yX6_without wsX6_without rm_X6_without (pC dC dI cyI cyJ cyZ [.ref q_Sp, .int v1] sz (wd3 cyI cyJ cyZ q_Sp q_prime q_Pr q_times q_parts sp_unlike sp_number sp_partsKept sp_partsNumber a_prime)) (va_Ql (fun (r : Int64) (_ : Unit) => r = res) (bW dC dI (fun (u : Unit) => (wd3 cyI cyJ cyZ q_Sp q_prime q_Pr q_times q_parts sp_unlike sp_number sp_partsKept sp_partsNumber a_prime)) (va_A (wd3 cyI cyJ cyZ q_Sp q_prime q_Pr q_times q_parts sp_unlike sp_number sp_partsKept sp_partsNumber a_prime) sz)) (va_A (wd3 cyI cyJ cyZ q_Sp q_prime q_Pr q_times q_parts sp_unlike sp_number sp_partsKept sp_partsNumber a_prime) sz)) 0 0 (va_A (wd3 cyI cyJ cyZ q_Sp q_prime q_Pr q_times q_parts sp_unlike sp_number sp_partsKept sp_partsNumber a_prime) sz) := by
  refine Met.ofW (cc := cX6_without) (maxL := 2) (ret := (some .long)) (by decide) rfl ?_
  intro p e s m args below meth c s₁ B hml hv
  obtain ⟨rfl, hsz, hP, hG, hD0⟩ := hv
  have hx := B.exec
  have hb := B.bytes
  have hr := B.returns
  have hts := atoms_spec (ws := wsX6_without) B.pre
  have hown : s.vm.findClass RX6 = some m.cls := findClass_of_methodNamed B.named
  have hlocks := B.notSynchronized
  subst hsz
  have hD := hD0.self (sz := s.heap.size)
  generalize hAe : va_A (wd3 cyI cyJ cyZ q_Sp q_prime q_Pr q_times q_parts sp_unlike sp_number sp_partsKept sp_partsNumber a_prime) s.heap.size = A at hD ⊢
  have hA : ∀ q : Nat, s.heap.size ≤ q → A q := fun q h => by rw [← hAe]; exact Or.inr h
  have hS : va_S A s.heap s.heap [] := va_S.rf
  have hl := lv_entry ([.ref q_Sp, .int v1]) (n := 2) (Nat.le_of_ble_eq_true rfl)
  rw [lg_entry_eq]
  generalize (lg_sl ([.ref q_Sp, .int v1]) ++ List.replicate (2 - (lg_sl ([.ref q_Sp, .int v1])).length) Slot.unset).toArray = ls at hl ⊢
  have hl : lv_has ls 2 [(0, .ref q_Sp), (1, .int v1)] := hl
  exact k_X6_without_0 ⟨hx, hb, hr, hml, hown, hts, hlocks, hG, hA⟩ N res q_Sp q_prime q_Pr q_times q_parts v1 sp_unlike sp_number sp_partsKept sp_partsNumber a_prime  h _ _ hP hD hS _ hl
abbrev rm_X6_howManyParts : Room := { frames := 0, cells := 0, slots := 0, locals := 0 }
theorem hd_X6_howManyParts : yX6_howManyParts.cls ≠ "java/lang/invoke/MethodHandle" ∧ yX6_howManyParts.cls ≠ "java/lang/invoke/VarHandle" ∧ (parseMethodDescriptor yX6_howManyParts.desc).map (fun d => d.parameters.length) = some 0 := by decide +kernel
theorem iw_X6_howManyParts_X6 : ∀ w ∈ wsX60, w ∈ wsX6_howManyParts := List.forall_mem_cons.mpr ⟨List.mem_of_getElem? (i := 3) rfl, List.forall_mem_cons.mpr ⟨List.mem_of_getElem? (i := 4) rfl, List.forall_mem_cons.mpr ⟨List.mem_of_getElem? (i := 5) rfl, List.forall_mem_cons.mpr ⟨List.mem_of_getElem? (i := 6) rfl, List.forall_mem_cons.mpr ⟨List.mem_of_getElem? (i := 7) rfl, List.forall_mem_cons.mpr ⟨List.mem_of_getElem? (i := 8) rfl, List.forall_mem_cons.mpr ⟨List.mem_of_getElem? (i := 9) rfl, List.forall_mem_cons.mpr ⟨List.mem_of_getElem? (i := 10) rfl, fun _ h => absurd h List.not_mem_nil⟩⟩⟩⟩⟩⟩⟩⟩
def s_X6_howManyParts_4 (N : Nat) (sp_unlike : Int32) (a_times : Nat → Int32) (k_4 : (Int32 × Int32) → Option (Int32)) (v1 : Int32) (v2 : Int32) : Option (Int32) :=
  if sp_unlike ≤ v2 then
    some v1
  else
    if (12 : Int32) ≤ v2 then
      some v1
    else
      if v2 < 0 ∨ 12 ≤ v2.toNatClampNeg then
        none
      else
        xl (v1 * ((a_times v2.toNatClampNeg) + (1 : Int32))) fun y4z =>
        xl (v2 + (1 : Int32)) fun y5z =>
        k_4 (y4z, y5z)
def l_X6_howManyParts_4 (N : Nat) (sp_unlike : Int32) (a_times : Nat → Int32) (n : Nat) (z : Int32 × Int32) : Option (Int32) := lp (fun k z => s_X6_howManyParts_4 N sp_unlike a_times k z.1 z.2) n z
set_option maxRecDepth 100000 in
set_option maxHeartbeats 4000000 in
theorem k_X6_howManyParts_4 {p : Program} {l : Launch} {e : Env} {s : State} {m : MethodId} {args : Array Value} {below : List Frame} {meth : Method} {c : Code} {dC : Nat → ClassId} {dI : Nat → Nat → Nat} {cyI cyJ cyZ : ClassId} {A : Nat → Prop} (C0 : mC p s m meth c args cX6_howManyParts (some .int) 3 RX6 wsX6_howManyParts (gK dC dI cyI cyJ cyZ) A) (N : Nat) (res : Int32) (q_Sp : Nat) (q_times : Nat) (q_Pr : Nat) (q_prime : Nat) (q_parts : Nat) (sp_unlike : Int32) (sp_number : Int64) (sp_partsKept : Int32) (sp_partsNumber : Int64) (a_times : Nat → Int32) : ∀ (n : Nat) (v1 : Int32) (v2 : Int32), l_X6_howManyParts_4 N sp_unlike a_times n (v1, v2) = some res → ∀ (H : Heap) (locs : List Loc), va_P (dC, dI) vwCl (wd2 cyI cyJ cyZ q_Sp q_times q_Pr q_prime q_parts sp_unlike sp_number sp_partsKept sp_partsNumber a_times) H → va_D A (wd2 cyI cyJ cyZ q_Sp q_times q_Pr q_prime q_parts sp_unlike sp_number sp_partsKept sp_partsNumber a_times) → va_S A s.heap H locs → ∀ (ls : Array Slot), lv_has ls 3 [(0, .ref q_Sp), (1, .int v1), (2, .int v2)] → W p l e (headSpec wsX6_howManyParts rm_X6_howManyParts).room s m args below meth c H locs 0 0 (MQ below (va_Qi (fun (r : Int32) (_ : Unit) => r = res) (bW dC dI (fun (u : Unit) => (wd2 cyI cyJ cyZ q_Sp q_times q_Pr q_prime q_parts sp_unlike sp_number sp_partsKept sp_partsNumber a_times)) A) A) args s 0 0 A) (F0 m 4 ls []) := by
  obtain ⟨hx, hb, hr, hml, hown, hts, hlocks, hG, hA⟩ := id C0
  have hK := hG.1
  intro n
  induction n with
  | zero =>
    intro v1 v2 h
    cases h
  | succ n ih =>
    intro v1 v2 h H locs hP hD hS ls hl
    have h : s_X6_howManyParts_4 N sp_unlike a_times (l_X6_howManyParts_4 N sp_unlike a_times n) v1 v2 = some res := h
    unfold s_X6_howManyParts_4 at h
    refine lv_iload_n hx hb dX6_howManyParts_4 rfl (lv_at hl 2 rfl) ?_
    refine lv_aload_n hx hb dX6_howManyParts_5 rfl (lv_at hl 0 rfl) ?_
    refine va_get (D := (dC, dI)) (ci := 6) (v := .int sp_unlike) (C := RX6) (T := TX6) (N := 8) hx hb hts iw_X6_howManyParts_X6 hown hK hP 0 rfl rfl 3 (by decide) (hts (.fieldLink RX6 19 "GoesInto$Split" "unlike" "I") (List.mem_of_getElem? (i := 1) rfl)) (fun _ h9 => h9) rfl dX6_howManyParts_6 ?_
    refine lv_icmp_ge (tgt := 35) hx hb dX6_howManyParts_9 (by decide) (fun c1z => ?_) (fun c1z => ?_)
    · have h := xt h c1z
      refine lv_iload_n hx hb dX6_howManyParts_35 rfl (lv_at hl 1 rfl) ?_
      obtain rfl := Option.some.inj h
      exact W.iret (v := v1) hx hb hr (fun t ht hW => ⟨⟨_, (), rfl, rfl, by rw [ht]; exact hP, hD⟩, hS.F ht⟩) hS.2.2 dX6_howManyParts_36 hlocks
    · have h := xf h c1z
      refine lv_iload_n hx hb dX6_howManyParts_12 rfl (lv_at hl 2 rfl) ?_
      refine lv_bipush (v := (12 : Int32)) hx hb dX6_howManyParts_13 (by decide) ?_
      refine lv_icmp_ge (tgt := 35) hx hb dX6_howManyParts_15 (by decide) (fun c2z => ?_) (fun c2z => ?_)
      · have h := xt h c2z
        refine lv_iload_n hx hb dX6_howManyParts_35 rfl (lv_at hl 1 rfl) ?_
        obtain rfl := Option.some.inj h
        exact W.iret (v := v1) hx hb hr (fun t ht hW => ⟨⟨_, (), rfl, rfl, by rw [ht]; exact hP, hD⟩, hS.F ht⟩) hS.2.2 dX6_howManyParts_36 hlocks
      · have h := xf h c2z
        refine lv_iload_n hx hb dX6_howManyParts_18 rfl (lv_at hl 1 rfl) ?_
        refine lv_aload_n hx hb dX6_howManyParts_19 rfl (lv_at hl 0 rfl) ?_
        refine va_get (D := (dC, dI)) (ci := 6) (v := .ref q_times) (C := RX6) (T := TX6) (N := 8) hx hb hts iw_X6_howManyParts_X6 hown hK hP 0 rfl rfl 2 (by decide) (hts (.fieldLink RX6 15 "GoesInto$Split" "times" "[I") (List.mem_of_getElem? (i := 2) rfl)) (fun _ h9 => h9) rfl dX6_howManyParts_20 ?_
        refine lv_iload_n hx hb dX6_howManyParts_23 rfl (lv_at hl 2 rfl) ?_
        obtain ⟨b3z, h⟩ := xn h
        refine va_iald hx hb hK hP 1 0 rfl rfl b3z dX6_howManyParts_24 ?_
        refine lv_iconst (v := (1 : Int32)) hx hb dX6_howManyParts_25 (by decide) ?_
        refine lv_iadd hx hb dX6_howManyParts_26 ?_
        refine lv_imul hx hb dX6_howManyParts_27 ?_
        refine lv_topi (fun y4z ey4z => ?_)
        have h := xl_at h ey4z
        refine lv_istore_n (lv' := [(1, .int y4z), (0, .ref q_Sp), (2, .int v2)]) hx hb dX6_howManyParts_28 rfl hl (by decide) rfl (fun ls hl => ?_)
        obtain ⟨y5z, ey5z⟩ : ∃ z : Int32, z = v2 + (1 : Int32) := ⟨_, rfl⟩
        have h := xl_at h ey5z
        refine lv_iinc (v := y5z) (lv' := [(2, .int y5z), (1, .int y4z), (0, .ref q_Sp)]) hx hb dX6_howManyParts_29 hl (k := 2) rfl (by rw [ey5z]; rfl) (by decide) rfl (fun ls hl => ?_)
        refine lv_goto (tgt := 4) hx hb dX6_howManyParts_32 (by decide) ?_
        exact ih y4z y5z h _ _ hP hD hS _ (lv_sub hl [2, 1, 0] rfl)
def f_X6_howManyParts (N : Nat) (sp_unlike : Int32) (a_times : Nat → Int32) : Option (Int32) :=
  l_X6_howManyParts_4 N sp_unlike a_times N ((1 : Int32), (0 : Int32))
set_option maxRecDepth 100000 in
set_option maxHeartbeats 4000000 in
theorem k_X6_howManyParts_0 {p : Program} {l : Launch} {e : Env} {s : State} {m : MethodId} {args : Array Value} {below : List Frame} {meth : Method} {c : Code} {dC : Nat → ClassId} {dI : Nat → Nat → Nat} {cyI cyJ cyZ : ClassId} {A : Nat → Prop} (C0 : mC p s m meth c args cX6_howManyParts (some .int) 3 RX6 wsX6_howManyParts (gK dC dI cyI cyJ cyZ) A) (N : Nat) (res : Int32) (q_Sp : Nat) (q_times : Nat) (q_Pr : Nat) (q_prime : Nat) (q_parts : Nat) (sp_unlike : Int32) (sp_number : Int64) (sp_partsKept : Int32) (sp_partsNumber : Int64) (a_times : Nat → Int32) (h : f_X6_howManyParts N sp_unlike a_times = some res) : ∀ (H : Heap) (locs : List Loc), va_P (dC, dI) vwCl (wd2 cyI cyJ cyZ q_Sp q_times q_Pr q_prime q_parts sp_unlike sp_number sp_partsKept sp_partsNumber a_times) H → va_D A (wd2 cyI cyJ cyZ q_Sp q_times q_Pr q_prime q_parts sp_unlike sp_number sp_partsKept sp_partsNumber a_times) → va_S A s.heap H locs → ∀ (ls : Array Slot), lv_has ls 3 [(0, .ref q_Sp)] → W p l e (headSpec wsX6_howManyParts rm_X6_howManyParts).room s m args below meth c H locs 0 0 (MQ below (va_Qi (fun (r : Int32) (_ : Unit) => r = res) (bW dC dI (fun (u : Unit) => (wd2 cyI cyJ cyZ q_Sp q_times q_Pr q_prime q_parts sp_unlike sp_number sp_partsKept sp_partsNumber a_times)) A) A) args s 0 0 A) (F0 m 0 ls []) := by
  obtain ⟨hx, hb, hr, hml, hown, hts, hlocks, hG, hA⟩ := id C0
  have hK := hG.1
  intro H locs hP hD hS ls hl
  unfold f_X6_howManyParts at h
  refine lv_iconst (v := (1 : Int32)) hx hb dX6_howManyParts_0 (by decide) ?_
  refine lv_istore_n (lv' := [(1, .int (1 : Int32)), (0, .ref q_Sp)]) hx hb dX6_howManyParts_1 rfl hl (by decide) rfl (fun ls hl => ?_)
  refine lv_iconst (v := (0 : Int32)) hx hb dX6_howManyParts_2 (by decide) ?_
  refine lv_istore_n (lv' := [(2, .int (0 : Int32)), (1, .int (1 : Int32)), (0, .ref q_Sp)]) hx hb dX6_howManyParts_3 rfl hl (by decide) rfl (fun ls hl => ?_)
  exact k_X6_howManyParts_4 C0 N res q_Sp q_times q_Pr q_prime q_parts sp_unlike sp_number sp_partsKept sp_partsNumber a_times N (1 : Int32) (0 : Int32) h _ _ hP hD hS _ (lv_sub hl [2, 1, 0] rfl)
set_option maxRecDepth 100000 in
set_option maxHeartbeats 4000000 in
theorem c_X6_howManyParts (l : Launch) (dC : Nat → ClassId) (dI : Nat → Nat → Nat) (cyI cyJ cyZ : ClassId) (N : Nat) (res : Int32) (sz : Nat) (q_Sp : Nat) (q_times : Nat) (q_Pr : Nat) (q_prime : Nat) (q_parts : Nat) (sp_unlike : Int32) (sp_number : Int64) (sp_partsKept : Int32) (sp_partsNumber : Int64) (a_times : Nat → Int32) (h : f_X6_howManyParts N  sp_unlike a_times = some res) : Met l yX6_howManyParts wsX6_howManyParts rm_X6_howManyParts (pC dC dI cyI cyJ cyZ [.ref q_Sp] sz (wd2 cyI cyJ cyZ q_Sp q_times q_Pr q_prime q_parts sp_unlike sp_number sp_partsKept sp_partsNumber a_times)) (va_Qi (fun (r : Int32) (_ : Unit) => r = res) (bW dC dI (fun (u : Unit) => (wd2 cyI cyJ cyZ q_Sp q_times q_Pr q_prime q_parts sp_unlike sp_number sp_partsKept sp_partsNumber a_times)) (va_A (wd2 cyI cyJ cyZ q_Sp q_times q_Pr q_prime q_parts sp_unlike sp_number sp_partsKept sp_partsNumber a_times) sz)) (va_A (wd2 cyI cyJ cyZ q_Sp q_times q_Pr q_prime q_parts sp_unlike sp_number sp_partsKept sp_partsNumber a_times) sz)) 0 0 (va_A (wd2 cyI cyJ cyZ q_Sp q_times q_Pr q_prime q_parts sp_unlike sp_number sp_partsKept sp_partsNumber a_times) sz) := by
  refine Met.ofW (cc := cX6_howManyParts) (maxL := 3) (ret := (some .int)) (by decide) rfl ?_
  intro p e s m args below meth c s₁ B hml hv
  obtain ⟨rfl, hsz, hP, hG, hD0⟩ := hv
  have hx := B.exec
  have hb := B.bytes
  have hr := B.returns
  have hts := atoms_spec (ws := wsX6_howManyParts) B.pre
  have hown : s.vm.findClass RX6 = some m.cls := findClass_of_methodNamed B.named
  have hlocks := B.notSynchronized
  subst hsz
  have hD := hD0.self (sz := s.heap.size)
  generalize hAe : va_A (wd2 cyI cyJ cyZ q_Sp q_times q_Pr q_prime q_parts sp_unlike sp_number sp_partsKept sp_partsNumber a_times) s.heap.size = A at hD ⊢
  have hA : ∀ q : Nat, s.heap.size ≤ q → A q := fun q h => by rw [← hAe]; exact Or.inr h
  have hS : va_S A s.heap s.heap [] := va_S.rf
  have hl := lv_entry ([.ref q_Sp]) (n := 3) (Nat.le_of_ble_eq_true rfl)
  rw [lg_entry_eq]
  generalize (lg_sl ([.ref q_Sp]) ++ List.replicate (3 - (lg_sl ([.ref q_Sp])).length) Slot.unset).toArray = ls at hl ⊢
  have hl : lv_has ls 3 [(0, .ref q_Sp)] := hl
  exact k_X6_howManyParts_0 ⟨hx, hb, hr, hml, hown, hts, hlocks, hG, hA⟩ N res q_Sp q_times q_Pr q_prime q_parts sp_unlike sp_number sp_partsKept sp_partsNumber a_times  h _ _ hP hD hS _ hl
/-- the cells PaJ -/
abbrev wd4 (cyI cyJ cyZ : ClassId) (q_PaJ : Nat) (n_PaJ : Nat) (a_PaJ : Nat → Int64) : va_W := [(q_PaJ, .inl (cyJ, n_PaJ, .inr (.inl a_PaJ)))]
abbrev rm_X11_putInOrder : Room := { frames := 0, cells := 0, slots := 0, locals := 0 }
theorem hd_X11_putInOrder : yX11_putInOrder.cls ≠ "java/lang/invoke/MethodHandle" ∧ yX11_putInOrder.cls ≠ "java/lang/invoke/VarHandle" ∧ (parseMethodDescriptor yX11_putInOrder.desc).map (fun d => d.parameters.length) = some 2 := by decide +kernel
def j_X11_putInOrder_71 (N : Nat) (k_11 : (Int32 × (Nat → Int64)) → Option ((Nat → Int64))) (v3 : Int32) (v4 : Int64) (v6 : Int32) (n_PaJ : Nat) (a_PaJ : Nat → Int64) : Option ((Nat → Int64)) :=
  if v6 < 0 ∨ n_PaJ ≤ v6.toNatClampNeg then
    none
  else
    xl (v3 + (1 : Int32)) fun y11z =>
    k_11 (y11z, vp_updL a_PaJ v6.toNatClampNeg v4)
set_option maxRecDepth 100000 in
set_option maxHeartbeats 4000000 in
theorem k_X11_putInOrder_71 {p : Program} {l : Launch} {e : Env} {s : State} {m : MethodId} {args : Array Value} {below : List Frame} {meth : Method} {c : Code} {dC : Nat → ClassId} {dI : Nat → Nat → Nat} {cyI cyJ cyZ : ClassId} {A : Nat → Prop} (C0 : mC p s m meth c args cX11_putInOrder none 8 RX11 wsX11_putInOrder (gK dC dI cyI cyJ cyZ) A) (N : Nat) (res : (Nat → Int64)) (q_PaJ : Nat) (v1 : Int32) (v4 : Int64) (v6 : Int32) (n_PaJ : Nat) (v2 : Int32) (k_11 : (Int32 × (Nat → Int64)) → Option ((Nat → Int64))) (hk_11 : ∀ (v3 : Int32) (a_PaJ : Nat → Int64), k_11 (v3, a_PaJ) = some res → ∀ (H : Heap) (locs : List Loc), va_P (dC, dI) vwCl (wd4 cyI cyJ cyZ q_PaJ n_PaJ a_PaJ) H → va_D A (wd4 cyI cyJ cyZ q_PaJ n_PaJ a_PaJ) → va_S A s.heap H locs → ∀ (ls : Array Slot), lv_has ls 8 [(0, .ref q_PaJ), (1, .int v1), (2, .int v2), (3, .int v3)] → W p l e (headSpec wsX11_putInOrder rm_X11_putInOrder).room s m args below meth c H locs 0 0 (MQ below (va_Qv (fun (_ : Unit) => True) (bW dC dI (fun (u : Unit) => (wd4 cyI cyJ cyZ q_PaJ n_PaJ res)) A) A) args s 0 0 A) (F0 m 11 ls [])) (v3 : Int32) (a_PaJ : Nat → Int64) (h : j_X11_putInOrder_71 N k_11 v3 v4 v6 n_PaJ a_PaJ = some res) : ∀ (H : Heap) (locs : List Loc), va_P (dC, dI) vwCl (wd4 cyI cyJ cyZ q_PaJ n_PaJ a_PaJ) H → va_D A (wd4 cyI cyJ cyZ q_PaJ n_PaJ a_PaJ) → va_S A s.heap H locs → ∀ (ls : Array Slot), lv_has ls 8 [(0, .ref q_PaJ), (1, .int v1), (2, .int v2), (3, .int v3), (4, .long v4), (6, .int v6)] → W p l e (headSpec wsX11_putInOrder rm_X11_putInOrder).room s m args below meth c H locs 0 0 (MQ below (va_Qv (fun (_ : Unit) => True) (bW dC dI (fun (u : Unit) => (wd4 cyI cyJ cyZ q_PaJ n_PaJ res)) A) A) args s 0 0 A) (F0 m 71 ls []) := by
  obtain ⟨hx, hb, hr, hml, hown, hts, hlocks, hG, hA⟩ := id C0
  have hK := hG.1
  intro H locs hP hD hS ls hl
  unfold j_X11_putInOrder_71 at h
  refine lv_aload_n hx hb dX11_putInOrder_71 rfl (lv_at hl 0 rfl) ?_
  refine lv_iload hx hb dX11_putInOrder_72 (lv_at hl 5 rfl) ?_
  refine lv_lload hx hb dX11_putInOrder_74 (lv_at hl 4 rfl) ?_
  obtain ⟨b10z, h⟩ := xn h
  refine va_last hx hb hK hP hD hS 0 1 rfl rfl b10z dX11_putInOrder_76 (fun H locs hP hD hS => ?_)
  have hP : va_P (dC, dI) vwCl (wd4 cyI cyJ cyZ q_PaJ n_PaJ (vp_updL a_PaJ v6.toNatClampNeg v4)) H := hP
  have hD : va_D A (wd4 cyI cyJ cyZ q_PaJ n_PaJ (vp_updL a_PaJ v6.toNatClampNeg v4)) := hD
  obtain ⟨y11z, ey11z⟩ : ∃ z : Int32, z = v3 + (1 : Int32) := ⟨_, rfl⟩
  have h := xl_at h ey11z
  refine lv_iinc (v := y11z) (lv' := [(3, .int y11z), (0, .ref q_PaJ), (1, .int v1), (2, .int v2), (4, .long v4), (6, .int v6)]) hx hb dX11_putInOrder_77 hl (k := 3) rfl (by rw [ey11z]; rfl) (by decide) rfl (fun ls hl => ?_)
  refine lv_goto (tgt := 11) hx hb dX11_putInOrder_80 (by decide) ?_
  exact hk_11 y11z (vp_updL a_PaJ v6.toNatClampNeg v4) h _ _ hP hD hS _ (lv_sub hl [1, 2, 3, 0] rfl)
def s_X11_putInOrder_35 (N : Nat) (k_11 : (Int32 × (Nat → Int64)) → Option ((Nat → Int64))) (v2 : Int32) (v3 : Int32) (v4 : Int64) (n_PaJ : Nat) (k_35 : (Int32 × Int32 × (Nat → Int64)) → Option ((Nat → Int64))) (v6 : Int32) (v7 : Int32) (a_PaJ : Nat → Int64) : Option ((Nat → Int64)) :=
  if v7 < 0 then
    j_X11_putInOrder_71 N k_11 v3 v4 v6 n_PaJ a_PaJ
  else
    if v7 < 0 ∨ n_PaJ ≤ v7.toNatClampNeg then
      none
    else
      if (a_PaJ v7.toNatClampNeg) ≤ v4 then
        j_X11_putInOrder_71 N k_11 v3 v4 v6 n_PaJ a_PaJ
      else
        xl (a_PaJ v7.toNatClampNeg) fun y14z =>
        if v6 < 0 ∨ n_PaJ ≤ v6.toNatClampNeg then
          none
        else
          xl (v7 - v2) fun y16z =>
          k_35 (v7, y16z, vp_updL a_PaJ v6.toNatClampNeg y14z)
def l_X11_putInOrder_35 (N : Nat) (k_11 : (Int32 × (Nat → Int64)) → Option ((Nat → Int64))) (v2 : Int32) (v3 : Int32) (v4 : Int64) (n_PaJ : Nat) (n : Nat) (z : Int32 × Int32 × (Nat → Int64)) : Option ((Nat → Int64)) := lp (fun k z => s_X11_putInOrder_35 N k_11 v2 v3 v4 n_PaJ k z.1 z.2.1 z.2.2) n z
set_option maxRecDepth 100000 in
set_option maxHeartbeats 4000000 in
theorem k_X11_putInOrder_35 {p : Program} {l : Launch} {e : Env} {s : State} {m : MethodId} {args : Array Value} {below : List Frame} {meth : Method} {c : Code} {dC : Nat → ClassId} {dI : Nat → Nat → Nat} {cyI cyJ cyZ : ClassId} {A : Nat → Prop} (C0 : mC p s m meth c args cX11_putInOrder none 8 RX11 wsX11_putInOrder (gK dC dI cyI cyJ cyZ) A) (N : Nat) (res : (Nat → Int64)) (q_PaJ : Nat) (v1 : Int32) (v4 : Int64) (n_PaJ : Nat) (v2 : Int32) (k_11 : (Int32 × (Nat → Int64)) → Option ((Nat → Int64))) (hk_11 : ∀ (v3 : Int32) (a_PaJ : Nat → Int64), k_11 (v3, a_PaJ) = some res → ∀ (H : Heap) (locs : List Loc), va_P (dC, dI) vwCl (wd4 cyI cyJ cyZ q_PaJ n_PaJ a_PaJ) H → va_D A (wd4 cyI cyJ cyZ q_PaJ n_PaJ a_PaJ) → va_S A s.heap H locs → ∀ (ls : Array Slot), lv_has ls 8 [(0, .ref q_PaJ), (1, .int v1), (2, .int v2), (3, .int v3)] → W p l e (headSpec wsX11_putInOrder rm_X11_putInOrder).room s m args below meth c H locs 0 0 (MQ below (va_Qv (fun (_ : Unit) => True) (bW dC dI (fun (u : Unit) => (wd4 cyI cyJ cyZ q_PaJ n_PaJ res)) A) A) args s 0 0 A) (F0 m 11 ls [])) (v3 : Int32) : ∀ (n : Nat) (v6 : Int32) (v7 : Int32) (a_PaJ : Nat → Int64), l_X11_putInOrder_35 N k_11 v2 v3 v4 n_PaJ n (v6, v7, a_PaJ) = some res → ∀ (H : Heap) (locs : List Loc), va_P (dC, dI) vwCl (wd4 cyI cyJ cyZ q_PaJ n_PaJ a_PaJ) H → va_D A (wd4 cyI cyJ cyZ q_PaJ n_PaJ a_PaJ) → va_S A s.heap H locs → ∀ (ls : Array Slot), lv_has ls 8 [(0, .ref q_PaJ), (1, .int v1), (2, .int v2), (3, .int v3), (4, .long v4), (6, .int v6), (7, .int v7)] → W p l e (headSpec wsX11_putInOrder rm_X11_putInOrder).room s m args below meth c H locs 0 0 (MQ below (va_Qv (fun (_ : Unit) => True) (bW dC dI (fun (u : Unit) => (wd4 cyI cyJ cyZ q_PaJ n_PaJ res)) A) A) args s 0 0 A) (F0 m 35 ls []) := by
  obtain ⟨hx, hb, hr, hml, hown, hts, hlocks, hG, hA⟩ := id C0
  have hK := hG.1
  intro n
  induction n with
  | zero =>
    intro v6 v7 a_PaJ h
    cases h
  | succ n ih =>
    intro v6 v7 a_PaJ h H locs hP hD hS ls hl
    have h : s_X11_putInOrder_35 N k_11 v2 v3 v4 n_PaJ (l_X11_putInOrder_35 N k_11 v2 v3 v4 n_PaJ n) v6 v7 a_PaJ = some res := h
    unfold s_X11_putInOrder_35 at h
    refine lv_iload hx hb dX11_putInOrder_35 (lv_at hl 6 rfl) ?_
    refine lv_if_lt (tgt := 71) hx hb dX11_putInOrder_37 (by decide) (fun c9z => ?_) (fun c9z => ?_)
    · have h := xt h c9z
      exact k_X11_putInOrder_71 C0 N res q_PaJ v1 v4 v6 n_PaJ v2 k_11 hk_11 v3 a_PaJ  h _ _ hP hD hS _ (lv_sub hl [0, 1, 2, 3, 4, 5] rfl)
    · have h := xf h c9z
      refine lv_aload_n hx hb dX11_putInOrder_40 rfl (lv_at hl 0 rfl) ?_
      refine lv_iload hx hb dX11_putInOrder_41 (lv_at hl 6 rfl) ?_
      obtain ⟨b12z, h⟩ := xn h
      refine va_lald hx hb hK hP 0 1 rfl rfl b12z dX11_putInOrder_43 ?_
      refine lv_lload hx hb dX11_putInOrder_44 (lv_at hl 4 rfl) ?_
      refine W.lcmp hx hb dX11_putInOrder_46 ?_
      refine lv_if_le (tgt := 71) hx hb dX11_putInOrder_47 (by decide) (fun c13z => ?_) (fun c13z => ?_)
      · have c13z := (lg_cmp_le _ _).mp c13z
        have h := xt h c13z
        exact k_X11_putInOrder_71 C0 N res q_PaJ v1 v4 v6 n_PaJ v2 k_11 hk_11 v3 a_PaJ  h _ _ hP hD hS _ (lv_sub hl [0, 1, 2, 3, 4, 5] rfl)
      · have c13z := fun z => c13z ((lg_cmp_le _ _).mpr z)
        have h := xf h c13z
        refine lv_aload_n hx hb dX11_putInOrder_50 rfl (lv_at hl 0 rfl) ?_
        refine lv_iload hx hb dX11_putInOrder_51 (lv_at hl 5 rfl) ?_
        refine lv_aload_n hx hb dX11_putInOrder_53 rfl (lv_at hl 0 rfl) ?_
        refine lv_iload hx hb dX11_putInOrder_54 (lv_at hl 6 rfl) ?_
        refine va_lald hx hb hK hP 0 1 rfl rfl b12z dX11_putInOrder_56 ?_
        refine lv_topl (fun y14z ey14z => ?_)
        have h := xl_at h ey14z
        obtain ⟨b15z, h⟩ := xn h
        refine va_last hx hb hK hP hD hS 0 1 rfl rfl b15z dX11_putInOrder_57 (fun H locs hP hD hS => ?_)
        have hP : va_P (dC, dI) vwCl (wd4 cyI cyJ cyZ q_PaJ n_PaJ (vp_updL a_PaJ v6.toNatClampNeg y14z)) H := hP
        have hD : va_D A (wd4 cyI cyJ cyZ q_PaJ n_PaJ (vp_updL a_PaJ v6.toNatClampNeg y14z)) := hD
        refine lv_iload hx hb dX11_putInOrder_58 (lv_at hl 6 rfl) ?_
        refine lv_istore (lv' := [(6, .int v7), (0, .ref q_PaJ), (1, .int v1), (2, .int v2), (3, .int v3), (4, .long v4), (7, .int v7)]) hx hb dX11_putInOrder_60 hl (by decide) rfl (fun ls hl => ?_)
        refine lv_iload hx hb dX11_putInOrder_62 (lv_at hl 6 rfl) ?_
        refine lv_iload_n hx hb dX11_putInOrder_64 rfl (lv_at hl 3 rfl) ?_
        refine lv_isub hx hb dX11_putInOrder_65 ?_
        refine lv_topi (fun y16z ey16z => ?_)
        have h := xl_at h ey16z
        refine lv_istore (lv' := [(7, .int y16z), (6, .int v7), (0, .ref q_PaJ), (1, .int v1), (2, .int v2), (3, .int v3), (4, .long v4)]) hx hb dX11_putInOrder_66 hl (by decide) rfl (fun ls hl => ?_)
        refine lv_goto (tgt := 35) hx hb dX11_putInOrder_68 (by decide) ?_
        exact ih v7 y16z (vp_updL a_PaJ v6.toNatClampNeg y14z) h _ _ hP hD hS _ (lv_sub hl [2, 3, 4, 5, 6, 1, 0] rfl)
def s_X11_putInOrder_11 (N : Nat) (k_4 : (Int32 × (Nat → Int64)) → Option ((Nat → Int64))) (v1 : Int32) (v2 : Int32) (n_PaJ : Nat) (k_11 : (Int32 × (Nat → Int64)) → Option ((Nat → Int64))) (v3 : Int32) (a_PaJ : Nat → Int64) : Option ((Nat → Int64)) :=
  if v1 ≤ v3 then
    xl (v2 / (3 : Int32)) fun y3z =>
    k_4 (y3z, a_PaJ)
  else
    if (nI n_PaJ) ≤ v3 then
      xl (v2 / (3 : Int32)) fun y5z =>
      k_4 (y5z, a_PaJ)
    else
      if v3 < 0 ∨ n_PaJ ≤ v3.toNatClampNeg then
        none
      else
        xl (a_PaJ v3.toNatClampNeg) fun y7z =>
        xl (v3 - v2) fun y8z =>
        l_X11_putInOrder_35 N k_11 v2 v3 y7z n_PaJ N (v3, y8z, a_PaJ)
def l_X11_putInOrder_11 (N : Nat) (k_4 : (Int32 × (Nat → Int64)) → Option ((Nat → Int64))) (v1 : Int32) (v2 : Int32) (n_PaJ : Nat) (n : Nat) (z : Int32 × (Nat → Int64)) : Option ((Nat → Int64)) := lp (fun k z => s_X11_putInOrder_11 N k_4 v1 v2 n_PaJ k z.1 z.2) n z
set_option maxRecDepth 100000 in
set_option maxHeartbeats 4000000 in
theorem k_X11_putInOrder_11 {p : Program} {l : Launch} {e : Env} {s : State} {m : MethodId} {args : Array Value} {below : List Frame} {meth : Method} {c : Code} {dC : Nat → ClassId} {dI : Nat → Nat → Nat} {cyI cyJ cyZ : ClassId} {A : Nat → Prop} (C0 : mC p s m meth c args cX11_putInOrder none 8 RX11 wsX11_putInOrder (gK dC dI cyI cyJ cyZ) A) (N : Nat) (res : (Nat → Int64)) (q_PaJ : Nat) (v1 : Int32) (n_PaJ : Nat) (k_4 : (Int32 × (Nat → Int64)) → Option ((Nat → Int64))) (hk_4 : ∀ (v2 : Int32) (a_PaJ : Nat → Int64), k_4 (v2, a_PaJ) = some res → ∀ (H : Heap) (locs : List Loc), va_P (dC, dI) vwCl (wd4 cyI cyJ cyZ q_PaJ n_PaJ a_PaJ) H → va_D A (wd4 cyI cyJ cyZ q_PaJ n_PaJ a_PaJ) → va_S A s.heap H locs → ∀ (ls : Array Slot), lv_has ls 8 [(0, .ref q_PaJ), (1, .int v1), (2, .int v2)] → W p l e (headSpec wsX11_putInOrder rm_X11_putInOrder).room s m args below meth c H locs 0 0 (MQ below (va_Qv (fun (_ : Unit) => True) (bW dC dI (fun (u : Unit) => (wd4 cyI cyJ cyZ q_PaJ n_PaJ res)) A) A) args s 0 0 A) (F0 m 4 ls [])) (v2 : Int32) : ∀ (n : Nat) (v3 : Int32) (a_PaJ : Nat → Int64), l_X11_putInOrder_11 N k_4 v1 v2 n_PaJ n (v3, a_PaJ) = some res → ∀ (H : Heap) (locs : List Loc), va_P (dC, dI) vwCl (wd4 cyI cyJ cyZ q_PaJ n_PaJ a_PaJ) H → va_D A (wd4 cyI cyJ cyZ q_PaJ n_PaJ a_PaJ) → va_S A s.heap H locs → ∀ (ls : Array Slot), lv_has ls 8 [(0, .ref q_PaJ), (1, .int v1), (2, .int v2), (3, .int v3)] → W p l e (headSpec wsX11_putInOrder rm_X11_putInOrder).room s m args below meth c H locs 0 0 (MQ below (va_Qv (fun (_ : Unit) => True) (bW dC dI (fun (u : Unit) => (wd4 cyI cyJ cyZ q_PaJ n_PaJ res)) A) A) args s 0 0 A) (F0 m 11 ls []) := by
  obtain ⟨hx, hb, hr, hml, hown, hts, hlocks, hG, hA⟩ := id C0
  have hK := hG.1
  intro n
  induction n with
  | zero =>
    intro v3 a_PaJ h
    cases h
  | succ n ih =>
    intro v3 a_PaJ h H locs hP hD hS ls hl
    have h : s_X11_putInOrder_11 N k_4 v1 v2 n_PaJ (l_X11_putInOrder_11 N k_4 v1 v2 n_PaJ n) v3 a_PaJ = some res := h
    unfold s_X11_putInOrder_11 at h
    refine lv_iload_n hx hb dX11_putInOrder_11 rfl (lv_at hl 3 rfl) ?_
    refine lv_iload_n hx hb dX11_putInOrder_12 rfl (lv_at hl 1 rfl) ?_
    refine lv_icmp_ge (tgt := 83) hx hb dX11_putInOrder_13 (by decide) (fun c2z => ?_) (fun c2z => ?_)
    · have h := xt h c2z
      refine lv_iload_n hx hb dX11_putInOrder_83 rfl (lv_at hl 2 rfl) ?_
      refine lv_iconst (v := (3 : Int32)) hx hb dX11_putInOrder_84 (by decide) ?_
      refine lv_idiv hx hb dX11_putInOrder_85 (by decide) ?_
      refine lv_topi (fun y3z ey3z => ?_)
      have h := xl_at h ey3z
      refine lv_istore_n (lv' := [(2, .int y3z), (0, .ref q_PaJ), (1, .int v1), (3, .int v3)]) hx hb dX11_putInOrder_86 rfl hl (by decide) rfl (fun ls hl => ?_)
      refine lv_goto (tgt := 4) hx hb dX11_putInOrder_87 (by decide) ?_
      exact hk_4 y3z a_PaJ h _ _ hP hD hS _ (lv_sub hl [1, 2, 0] rfl)
    · have h := xf h c2z
      refine lv_iload_n hx hb dX11_putInOrder_16 rfl (lv_at hl 3 rfl) ?_
      refine lv_aload_n hx hb dX11_putInOrder_17 rfl (lv_at hl 0 rfl) ?_
      refine va_alen (v := nI n_PaJ) hx hb hK hP 0 1 rfl rfl rfl dX11_putInOrder_18 ?_
      refine lv_icmp_ge (tgt := 83) hx hb dX11_putInOrder_19 (by decide) (fun c4z => ?_) (fun c4z => ?_)
      · have h := xt h c4z
        refine lv_iload_n hx hb dX11_putInOrder_83 rfl (lv_at hl 2 rfl) ?_
        refine lv_iconst (v := (3 : Int32)) hx hb dX11_putInOrder_84 (by decide) ?_
        refine lv_idiv hx hb dX11_putInOrder_85 (by decide) ?_
        refine lv_topi (fun y5z ey5z => ?_)
        have h := xl_at h ey5z
        refine lv_istore_n (lv' := [(2, .int y5z), (0, .ref q_PaJ), (1, .int v1), (3, .int v3)]) hx hb dX11_putInOrder_86 rfl hl (by decide) rfl (fun ls hl => ?_)
        refine lv_goto (tgt := 4) hx hb dX11_putInOrder_87 (by decide) ?_
        exact hk_4 y5z a_PaJ h _ _ hP hD hS _ (lv_sub hl [1, 2, 0] rfl)
      · have h := xf h c4z
        refine lv_aload_n hx hb dX11_putInOrder_22 rfl (lv_at hl 0 rfl) ?_
        refine lv_iload_n hx hb dX11_putInOrder_23 rfl (lv_at hl 3 rfl) ?_
        obtain ⟨b6z, h⟩ := xn h
        refine va_lald hx hb hK hP 0 1 rfl rfl b6z dX11_putInOrder_24 ?_
        refine lv_topl (fun y7z ey7z => ?_)
        have h := xl_at h ey7z
        refine lv_lstore (lv' := [(4, .long y7z), (0, .ref q_PaJ), (1, .int v1), (2, .int v2), (3, .int v3)]) hx hb dX11_putInOrder_25 hl (by decide) rfl (fun ls hl => ?_)
        refine lv_iload_n hx hb dX11_putInOrder_27 rfl (lv_at hl 4 rfl) ?_
        refine lv_istore (lv' := [(6, .int v3), (4, .long y7z), (0, .ref q_PaJ), (1, .int v1), (2, .int v2), (3, .int v3)]) hx hb dX11_putInOrder_28 hl (by decide) rfl (fun ls hl => ?_)
        refine lv_iload_n hx hb dX11_putInOrder_30 rfl (lv_at hl 5 rfl) ?_
        refine lv_iload_n hx hb dX11_putInOrder_31 rfl (lv_at hl 4 rfl) ?_
        refine lv_isub hx hb dX11_putInOrder_32 ?_
        refine lv_topi (fun y8z ey8z => ?_)
        have h := xl_at h ey8z
        refine lv_istore (lv' := [(7, .int y8z), (6, .int v3), (4, .long y7z), (0, .ref q_PaJ), (1, .int v1), (2, .int v2), (3, .int v3)]) hx hb dX11_putInOrder_33 hl (by decide) rfl (fun ls hl => ?_)
        exact k_X11_putInOrder_35 C0 N res q_PaJ v1 y7z n_PaJ v2 _ ih v3 N v3 y8z a_PaJ h _ _ hP hD hS _ (lv_sub hl [3, 4, 5, 6, 2, 1, 0] rfl)
def s_X11_putInOrder_4 (N : Nat) (v1 : Int32) (n_PaJ : Nat) (k_4 : (Int32 × (Nat → Int64)) → Option ((Nat → Int64))) (v2 : Int32) (a_PaJ : Nat → Int64) : Option ((Nat → Int64)) :=
  if v2 < (1 : Int32) then
    some a_PaJ
  else
    l_X11_putInOrder_11 N k_4 v1 v2 n_PaJ N (v2, a_PaJ)
def l_X11_putInOrder_4 (N : Nat) (v1 : Int32) (n_PaJ : Nat) (n : Nat) (z : Int32 × (Nat → Int64)) : Option ((Nat → Int64)) := lp (fun k z => s_X11_putInOrder_4 N v1 n_PaJ k z.1 z.2) n z
set_option maxRecDepth 100000 in
set_option maxHeartbeats 4000000 in
theorem k_X11_putInOrder_4 {p : Program} {l : Launch} {e : Env} {s : State} {m : MethodId} {args : Array Value} {below : List Frame} {meth : Method} {c : Code} {dC : Nat → ClassId} {dI : Nat → Nat → Nat} {cyI cyJ cyZ : ClassId} {A : Nat → Prop} (C0 : mC p s m meth c args cX11_putInOrder none 8 RX11 wsX11_putInOrder (gK dC dI cyI cyJ cyZ) A) (N : Nat) (res : (Nat → Int64)) (q_PaJ : Nat) (v1 : Int32) (n_PaJ : Nat) : ∀ (n : Nat) (v2 : Int32) (a_PaJ : Nat → Int64), l_X11_putInOrder_4 N v1 n_PaJ n (v2, a_PaJ) = some res → ∀ (H : Heap) (locs : List Loc), va_P (dC, dI) vwCl (wd4 cyI cyJ cyZ q_PaJ n_PaJ a_PaJ) H → va_D A (wd4 cyI cyJ cyZ q_PaJ n_PaJ a_PaJ) → va_S A s.heap H locs → ∀ (ls : Array Slot), lv_has ls 8 [(0, .ref q_PaJ), (1, .int v1), (2, .int v2)] → W p l e (headSpec wsX11_putInOrder rm_X11_putInOrder).room s m args below meth c H locs 0 0 (MQ below (va_Qv (fun (_ : Unit) => True) (bW dC dI (fun (u : Unit) => (wd4 cyI cyJ cyZ q_PaJ n_PaJ res)) A) A) args s 0 0 A) (F0 m 4 ls []) := by
  obtain ⟨hx, hb, hr, hml, hown, hts, hlocks, hG, hA⟩ := id C0
  have hK := hG.1
  intro n
  induction n with
  | zero =>
    intro v2 a_PaJ h
    cases h
  | succ n ih =>
    intro v2 a_PaJ h H locs hP hD hS ls hl
    have h : s_X11_putInOrder_4 N v1 n_PaJ (l_X11_putInOrder_4 N v1 n_PaJ n) v2 a_PaJ = some res := h
    unfold s_X11_putInOrder_4 at h
    refine lv_iload_n hx hb dX11_putInOrder_4 rfl (lv_at hl 2 rfl) ?_
    refine lv_iconst (v := (1 : Int32)) hx hb dX11_putInOrder_5 (by decide) ?_
    refine lv_icmp_lt (tgt := 90) hx hb dX11_putInOrder_6 (by decide) (fun c1z => ?_) (fun c1z => ?_)
    · have h := xt h c1z
      obtain rfl := Option.some.inj h
      exact W.vret hx hb hr (fun t ht hW => ⟨⟨(), rfl, trivial, by rw [ht]; exact hP, hD⟩, hS.F ht⟩) hS.2.2 dX11_putInOrder_90 hlocks
    · have h := xf h c1z
      refine lv_iload_n hx hb dX11_putInOrder_9 rfl (lv_at hl 2 rfl) ?_
      refine lv_istore_n (lv' := [(3, .int v2), (0, .ref q_PaJ), (1, .int v1), (2, .int v2)]) hx hb dX11_putInOrder_10 rfl hl (by decide) rfl (fun ls hl => ?_)
      exact k_X11_putInOrder_11 C0 N res q_PaJ v1 n_PaJ _ ih v2 N v2 a_PaJ h _ _ hP hD hS _ (lv_sub hl [1, 2, 3, 0] rfl)
def f_X11_putInOrder (N : Nat) (v1 : Int32) (n_PaJ : Nat) (a_PaJ : Nat → Int64) : Option ((Nat → Int64)) :=
  l_X11_putInOrder_4 N v1 n_PaJ N ((1093 : Int32), a_PaJ)
set_option maxRecDepth 100000 in
set_option maxHeartbeats 4000000 in
theorem k_X11_putInOrder_0 {p : Program} {l : Launch} {e : Env} {s : State} {m : MethodId} {args : Array Value} {below : List Frame} {meth : Method} {c : Code} {dC : Nat → ClassId} {dI : Nat → Nat → Nat} {cyI cyJ cyZ : ClassId} {A : Nat → Prop} (C0 : mC p s m meth c args cX11_putInOrder none 8 RX11 wsX11_putInOrder (gK dC dI cyI cyJ cyZ) A) (N : Nat) (res : (Nat → Int64)) (q_PaJ : Nat) (v1 : Int32) (n_PaJ : Nat) (a_PaJ : Nat → Int64) (h : f_X11_putInOrder N v1 n_PaJ a_PaJ = some res) : ∀ (H : Heap) (locs : List Loc), va_P (dC, dI) vwCl (wd4 cyI cyJ cyZ q_PaJ n_PaJ a_PaJ) H → va_D A (wd4 cyI cyJ cyZ q_PaJ n_PaJ a_PaJ) → va_S A s.heap H locs → ∀ (ls : Array Slot), lv_has ls 8 [(0, .ref q_PaJ), (1, .int v1)] → W p l e (headSpec wsX11_putInOrder rm_X11_putInOrder).room s m args below meth c H locs 0 0 (MQ below (va_Qv (fun (_ : Unit) => True) (bW dC dI (fun (u : Unit) => (wd4 cyI cyJ cyZ q_PaJ n_PaJ res)) A) A) args s 0 0 A) (F0 m 0 ls []) := by
  obtain ⟨hx, hb, hr, hml, hown, hts, hlocks, hG, hA⟩ := id C0
  have hK := hG.1
  intro H locs hP hD hS ls hl
  unfold f_X11_putInOrder at h
  refine lv_sipush (v := (1093 : Int32)) hx hb dX11_putInOrder_0 (by decide) ?_
  refine lv_istore_n (lv' := [(2, .int (1093 : Int32)), (0, .ref q_PaJ), (1, .int v1)]) hx hb dX11_putInOrder_3 rfl hl (by decide) rfl (fun ls hl => ?_)
  exact k_X11_putInOrder_4 C0 N res q_PaJ v1 n_PaJ N (1093 : Int32) a_PaJ h _ _ hP hD hS _ (lv_sub hl [1, 2, 0] rfl)
set_option maxRecDepth 100000 in
set_option maxHeartbeats 4000000 in
theorem c_X11_putInOrder (l : Launch) (dC : Nat → ClassId) (dI : Nat → Nat → Nat) (cyI cyJ cyZ : ClassId) (N : Nat) (res : (Nat → Int64)) (sz : Nat) (q_PaJ : Nat) (v1 : Int32) (n_PaJ : Nat) (a_PaJ : Nat → Int64) (h : f_X11_putInOrder N v1 n_PaJ a_PaJ = some res) : Met l yX11_putInOrder wsX11_putInOrder rm_X11_putInOrder (pC dC dI cyI cyJ cyZ [.ref q_PaJ, .int v1] sz (wd4 cyI cyJ cyZ q_PaJ n_PaJ a_PaJ)) (va_Qv (fun (_ : Unit) => True) (bW dC dI (fun (u : Unit) => (wd4 cyI cyJ cyZ q_PaJ n_PaJ res)) (va_A (wd4 cyI cyJ cyZ q_PaJ n_PaJ a_PaJ) sz)) (va_A (wd4 cyI cyJ cyZ q_PaJ n_PaJ a_PaJ) sz)) 0 0 (va_A (wd4 cyI cyJ cyZ q_PaJ n_PaJ a_PaJ) sz) := by
  refine Met.ofW (cc := cX11_putInOrder) (maxL := 8) (ret := none) (by decide) rfl ?_
  intro p e s m args below meth c s₁ B hml hv
  obtain ⟨rfl, hsz, hP, hG, hD0⟩ := hv
  have hx := B.exec
  have hb := B.bytes
  have hr := B.returns
  have hts := atoms_spec (ws := wsX11_putInOrder) B.pre
  have hown : s.vm.findClass RX11 = some m.cls := findClass_of_methodNamed B.named
  have hlocks := B.notSynchronized
  subst hsz
  have hD := hD0.self (sz := s.heap.size)
  generalize hAe : va_A (wd4 cyI cyJ cyZ q_PaJ n_PaJ a_PaJ) s.heap.size = A at hD ⊢
  have hA : ∀ q : Nat, s.heap.size ≤ q → A q := fun q h => by rw [← hAe]; exact Or.inr h
  have hS : va_S A s.heap s.heap [] := va_S.rf
  have hl := lv_entry ([.ref q_PaJ, .int v1]) (n := 8) (Nat.le_of_ble_eq_true rfl)
  rw [lg_entry_eq]
  generalize (lg_sl ([.ref q_PaJ, .int v1]) ++ List.replicate (8 - (lg_sl ([.ref q_PaJ, .int v1])).length) Slot.unset).toArray = ls at hl ⊢
  have hl : lv_has ls 8 [(0, .ref q_PaJ), (1, .int v1)] := hl
  exact k_X11_putInOrder_0 ⟨hx, hb, hr, hml, hown, hts, hlocks, hG, hA⟩ N res q_PaJ v1 n_PaJ a_PaJ  h _ _ hP hD hS _ hl
/-- the cells Sp, parts -/
abbrev wd5 (cyI cyJ cyZ : ClassId) (q_Sp : Nat) (q_parts : Nat) (q_Pr : Nat) (q_prime : Nat) (q_times : Nat) (sp_unlike : Int32) (sp_number : Int64) (sp_partsKept : Int32) (sp_partsNumber : Int64) (a_parts : Nat → Int64) : va_W := [(q_Sp, .inr (6, [.ref q_Pr, .ref q_prime, .ref q_times, .int sp_unlike, .long sp_number, .ref q_parts, .int sp_partsKept, .long sp_partsNumber])), (q_parts, .inl (cyJ, 2304, .inr (.inl a_parts)))]
abbrev rm_X6_appendMultiples : Room := { frames := 0, cells := 0, slots := 0, locals := 0 }
theorem hd_X6_appendMultiples : yX6_appendMultiples.cls ≠ "java/lang/invoke/MethodHandle" ∧ yX6_appendMultiples.cls ≠ "java/lang/invoke/VarHandle" ∧ (parseMethodDescriptor yX6_appendMultiples.desc).map (fun d => d.parameters.length) = some 3 := by decide +kernel
theorem iw_X6_appendMultiples_X6 : ∀ w ∈ wsX60, w ∈ wsX6_appendMultiples := List.forall_mem_cons.mpr ⟨List.mem_of_getElem? (i := 3) rfl, List.forall_mem_cons.mpr ⟨List.mem_of_getElem? (i := 4) rfl, List.forall_mem_cons.mpr ⟨List.mem_of_getElem? (i := 5) rfl, List.forall_mem_cons.mpr ⟨List.mem_of_getElem? (i := 6) rfl, List.forall_mem_cons.mpr ⟨List.mem_of_getElem? (i := 7) rfl, List.forall_mem_cons.mpr ⟨List.mem_of_getElem? (i := 8) rfl, List.forall_mem_cons.mpr ⟨List.mem_of_getElem? (i := 9) rfl, List.forall_mem_cons.mpr ⟨List.mem_of_getElem? (i := 10) rfl, fun _ h => absurd h List.not_mem_nil⟩⟩⟩⟩⟩⟩⟩⟩
def s_X6_appendMultiples_3 (N : Nat) (v1 : Int32) (v2 : Int32) (v3 : Int64) (k_3 : (Int32 × Int32 × (Nat → Int64)) → Option (Int32 × (Nat → Int64))) (v5 : Int32) (sp_partsKept : Int32) (a_parts : Nat → Int64) : Option (Int32 × (Nat → Int64)) :=
  if (v1 + v2) ≤ v5 then
    some (sp_partsKept, a_parts)
  else
    if sp_partsKept ≤ v5 then
      some (sp_partsKept, a_parts)
    else
      if (2304 : Int32) ≤ sp_partsKept then
        some (sp_partsKept, a_parts)
      else
        if v5 < 0 ∨ 2304 ≤ v5.toNatClampNeg then
          none
        else
          xl ((a_parts v5.toNatClampNeg) * v3) fun y5z =>
          if sp_partsKept < 0 ∨ 2304 ≤ sp_partsKept.toNatClampNeg then
            none
          else
            xl (sp_partsKept + (1 : Int32)) fun y7z =>
            xl (v5 + (1 : Int32)) fun y8z =>
            k_3 (y8z, y7z, vp_updL a_parts sp_partsKept.toNatClampNeg y5z)
def l_X6_appendMultiples_3 (N : Nat) (v1 : Int32) (v2 : Int32) (v3 : Int64) (n : Nat) (z : Int32 × Int32 × (Nat → Int64)) : Option (Int32 × (Nat → Int64)) := lp (fun k z => s_X6_appendMultiples_3 N v1 v2 v3 k z.1 z.2.1 z.2.2) n z
set_option maxRecDepth 100000 in
set_option maxHeartbeats 4000000 in
theorem k_X6_appendMultiples_3 {p : Program} {l : Launch} {e : Env} {s : State} {m : MethodId} {args : Array Value} {below : List Frame} {meth : Method} {c : Code} {dC : Nat → ClassId} {dI : Nat → Nat → Nat} {cyI cyJ cyZ : ClassId} {A : Nat → Prop} (C0 : mC p s m meth c args cX6_appendMultiples none 6 RX6 wsX6_appendMultiples (gK dC dI cyI cyJ cyZ) A) (N : Nat) (res : Int32 × (Nat → Int64)) (q_Sp : Nat) (q_parts : Nat) (q_Pr : Nat) (q_prime : Nat) (q_times : Nat) (v1 : Int32) (v2 : Int32) (v3 : Int64) (sp_unlike : Int32) (sp_number : Int64) (sp_partsNumber : Int64) : ∀ (n : Nat) (v5 : Int32) (sp_partsKept : Int32) (a_parts : Nat → Int64), l_X6_appendMultiples_3 N v1 v2 v3 n (v5, sp_partsKept, a_parts) = some res → ∀ (H : Heap) (locs : List Loc), va_P (dC, dI) vwCl (wd5 cyI cyJ cyZ q_Sp q_parts q_Pr q_prime q_times sp_unlike sp_number sp_partsKept sp_partsNumber a_parts) H → va_D A (wd5 cyI cyJ cyZ q_Sp q_parts q_Pr q_prime q_times sp_unlike sp_number sp_partsKept sp_partsNumber a_parts) → va_S A s.heap H locs → ∀ (ls : Array Slot), lv_has ls 6 [(0, .ref q_Sp), (1, .int v1), (2, .int v2), (3, .long v3), (5, .int v5)] → W p l e (headSpec wsX6_appendMultiples rm_X6_appendMultiples).room s m args below meth c H locs 0 0 (MQ below (va_Qv (fun (_ : Unit) => True) (bW dC dI (fun (u : Unit) => (wd5 cyI cyJ cyZ q_Sp q_parts q_Pr q_prime q_times sp_unlike sp_number res.1 sp_partsNumber res.2)) A) A) args s 0 0 A) (F0 m 3 ls []) := by
  obtain ⟨hx, hb, hr, hml, hown, hts, hlocks, hG, hA⟩ := id C0
  have hK := hG.1
  intro n
  induction n with
  | zero =>
    intro v5 sp_partsKept a_parts h
    cases h
  | succ n ih =>
    intro v5 sp_partsKept a_parts h H locs hP hD hS ls hl
    have h : s_X6_appendMultiples_3 N v1 v2 v3 (l_X6_appendMultiples_3 N v1 v2 v3 n) v5 sp_partsKept a_parts = some res := h
    unfold s_X6_appendMultiples_3 at h
    refine lv_iload hx hb dX6_appendMultiples_3 (lv_at hl 4 rfl) ?_
    refine lv_iload_n hx hb dX6_appendMultiples_5 rfl (lv_at hl 1 rfl) ?_
    refine lv_iload_n hx hb dX6_appendMultiples_6 rfl (lv_at hl 2 rfl) ?_
    refine lv_iadd hx hb dX6_appendMultiples_7 ?_
    refine lv_icmp_ge (tgt := 64) hx hb dX6_appendMultiples_8 (by decide) (fun c1z => ?_) (fun c1z => ?_)
    · have h := xt h c1z
      obtain rfl := Option.some.inj h
      exact W.vret hx hb hr (fun t ht hW => ⟨⟨(), rfl, trivial, by rw [ht]; exact hP, hD⟩, hS.F ht⟩) hS.2.2 dX6_appendMultiples_64 hlocks
    · have h := xf h c1z
      refine lv_iload hx hb dX6_appendMultiples_11 (lv_at hl 4 rfl) ?_
      refine lv_aload_n hx hb dX6_appendMultiples_13 rfl (lv_at hl 0 rfl) ?_
      refine va_get (D := (dC, dI)) (ci := 6) (v := .int sp_partsKept) (C := RX6) (T := TX6) (N := 8) hx hb hts iw_X6_appendMultiples_X6 hown hK hP 0 rfl rfl 6 (by decide) (hts (.fieldLink RX6 30 "GoesInto$Split" "partsKept" "I") (List.mem_of_getElem? (i := 1) rfl)) (fun _ h9 => h9) rfl dX6_appendMultiples_14 ?_
      refine lv_icmp_ge (tgt := 64) hx hb dX6_appendMultiples_17 (by decide) (fun c2z => ?_) (fun c2z => ?_)
      · have h := xt h c2z
        obtain rfl := Option.some.inj h
        exact W.vret hx hb hr (fun t ht hW => ⟨⟨(), rfl, trivial, by rw [ht]; exact hP, hD⟩, hS.F ht⟩) hS.2.2 dX6_appendMultiples_64 hlocks
      · have h := xf h c2z
        refine lv_aload_n hx hb dX6_appendMultiples_20 rfl (lv_at hl 0 rfl) ?_
        refine va_get (D := (dC, dI)) (ci := 6) (v := .int sp_partsKept) (C := RX6) (T := TX6) (N := 8) hx hb hts iw_X6_appendMultiples_X6 hown hK hP 0 rfl rfl 6 (by decide) (hts (.fieldLink RX6 30 "GoesInto$Split" "partsKept" "I") (List.mem_of_getElem? (i := 1) rfl)) (fun _ h9 => h9) rfl dX6_appendMultiples_21 ?_
        refine lv_sipush (v := (2304 : Int32)) hx hb dX6_appendMultiples_24 (by decide) ?_
        refine lv_icmp_ge (tgt := 64) hx hb dX6_appendMultiples_27 (by decide) (fun c3z => ?_) (fun c3z => ?_)
        · have h := xt h c3z
          obtain rfl := Option.some.inj h
          exact W.vret hx hb hr (fun t ht hW => ⟨⟨(), rfl, trivial, by rw [ht]; exact hP, hD⟩, hS.F ht⟩) hS.2.2 dX6_appendMultiples_64 hlocks
        · have h := xf h c3z
          refine lv_aload_n hx hb dX6_appendMultiples_30 rfl (lv_at hl 0 rfl) ?_
          refine va_get (D := (dC, dI)) (ci := 6) (v := .ref q_parts) (C := RX6) (T := TX6) (N := 8) hx hb hts iw_X6_appendMultiples_X6 hown hK hP 0 rfl rfl 5 (by decide) (hts (.fieldLink RX6 27 "GoesInto$Split" "parts" "[J") (List.mem_of_getElem? (i := 2) rfl)) (fun _ h9 => h9) rfl dX6_appendMultiples_31 ?_
          refine lv_aload_n hx hb dX6_appendMultiples_34 rfl (lv_at hl 0 rfl) ?_
          refine va_get (D := (dC, dI)) (ci := 6) (v := .int sp_partsKept) (C := RX6) (T := TX6) (N := 8) hx hb hts iw_X6_appendMultiples_X6 hown hK hP 0 rfl rfl 6 (by decide) (hts (.fieldLink RX6 30 "GoesInto$Split" "partsKept" "I") (List.mem_of_getElem? (i := 1) rfl)) (fun _ h9 => h9) rfl dX6_appendMultiples_35 ?_
          refine lv_aload_n hx hb dX6_appendMultiples_38 rfl (lv_at hl 0 rfl) ?_
          refine va_get (D := (dC, dI)) (ci := 6) (v := .ref q_parts) (C := RX6) (T := TX6) (N := 8) hx hb hts iw_X6_appendMultiples_X6 hown hK hP 0 rfl rfl 5 (by decide) (hts (.fieldLink RX6 27 "GoesInto$Split" "parts" "[J") (List.mem_of_getElem? (i := 2) rfl)) (fun _ h9 => h9) rfl dX6_appendMultiples_39 ?_
          refine lv_iload hx hb dX6_appendMultiples_42 (lv_at hl 4 rfl) ?_
          obtain ⟨b4z, h⟩ := xn h
          refine va_lald hx hb hK hP 1 1 rfl rfl b4z dX6_appendMultiples_44 ?_
          refine lv_lload_n hx hb dX6_appendMultiples_45 rfl (lv_at hl 3 rfl) ?_
          refine lv_lmul hx hb dX6_appendMultiples_46 ?_
          refine lv_topl (fun y5z ey5z => ?_)
          have h := xl_at h ey5z
          obtain ⟨b6z, h⟩ := xn h
          refine va_last hx hb hK hP hD hS 1 1 rfl rfl b6z dX6_appendMultiples_47 (fun H locs hP hD hS => ?_)
          have hP : va_P (dC, dI) vwCl (wd5 cyI cyJ cyZ q_Sp q_parts q_Pr q_prime q_times sp_unlike sp_number sp_partsKept sp_partsNumber (vp_updL a_parts sp_partsKept.toNatClampNeg y5z)) H := hP
          have hD : va_D A (wd5 cyI cyJ cyZ q_Sp q_parts q_Pr q_prime q_times sp_unlike sp_number sp_partsKept sp_partsNumber (vp_updL a_parts sp_partsKept.toNatClampNeg y5z)) := hD
          refine lv_aload_n hx hb dX6_appendMultiples_48 rfl (lv_at hl 0 rfl) ?_
          refine lv_dup hx hb dX6_appendMultiples_49 rfl ?_
          refine va_get (D := (dC, dI)) (ci := 6) (v := .int sp_partsKept) (C := RX6) (T := TX6) (N := 8) hx hb hts iw_X6_appendMultiples_X6 hown hK hP 0 rfl rfl 6 (by decide) (hts (.fieldLink RX6 30 "GoesInto$Split" "partsKept" "I") (List.mem_of_getElem? (i := 1) rfl)) (fun _ h9 => h9) rfl dX6_appendMultiples_50 ?_
          refine lv_iconst (v := (1 : Int32)) hx hb dX6_appendMultiples_53 (by decide) ?_
          refine lv_iadd hx hb dX6_appendMultiples_54 ?_
          refine lv_topi (fun y7z ey7z => ?_)
          have h := xl_at h ey7z
          refine va_put (D := (dC, dI)) (ci := 6) (v := .int y7z) (ty := .int) (C := RX6) (T := TX6) (N := 8) hx hb hts iw_X6_appendMultiples_X6 tyX6 tyX6_ok nmX6 hown hK hP hD hS 0 rfl rfl 6 (by decide) (hts (.fieldLink RX6 30 "GoesInto$Split" "partsKept" "I") (List.mem_of_getElem? (i := 1) rfl)) (fun _ h9 => h9) rfl (tyX6_ok 6 (by decide)) rfl rfl (Nat.le_of_ble_eq_true rfl) dX6_appendMultiples_55 (fun H locs hP hD hS => ?_)
          have hP : va_P (dC, dI) vwCl (wd5 cyI cyJ cyZ q_Sp q_parts q_Pr q_prime q_times sp_unlike sp_number y7z sp_partsNumber (vp_updL a_parts sp_partsKept.toNatClampNeg y5z)) H := hP
          have hD : va_D A (wd5 cyI cyJ cyZ q_Sp q_parts q_Pr q_prime q_times sp_unlike sp_number y7z sp_partsNumber (vp_updL a_parts sp_partsKept.toNatClampNeg y5z)) := hD
          obtain ⟨y8z, ey8z⟩ : ∃ z : Int32, z = v5 + (1 : Int32) := ⟨_, rfl⟩
          have h := xl_at h ey8z
          refine lv_iinc (v := y8z) (lv' := [(5, .int y8z), (0, .ref q_Sp), (1, .int v1), (2, .int v2), (3, .long v3)]) hx hb dX6_appendMultiples_58 hl (k := 4) rfl (by rw [ey8z]; rfl) (by decide) rfl (fun ls hl => ?_)
          refine lv_goto (tgt := 3) hx hb dX6_appendMultiples_61 (by decide) ?_
          exact ih y8z y7z (vp_updL a_parts sp_partsKept.toNatClampNeg y5z) h _ _ hP hD hS _ (lv_sub hl [1, 2, 3, 4, 0] rfl)
def f_X6_appendMultiples (N : Nat) (v1 : Int32) (v2 : Int32) (v3 : Int64) (sp_partsKept : Int32) (a_parts : Nat → Int64) : Option (Int32 × (Nat → Int64)) :=
  l_X6_appendMultiples_3 N v1 v2 v3 N (v1, sp_partsKept, a_parts)
set_option maxRecDepth 100000 in
set_option maxHeartbeats 4000000 in
theorem k_X6_appendMultiples_0 {p : Program} {l : Launch} {e : Env} {s : State} {m : MethodId} {args : Array Value} {below : List Frame} {meth : Method} {c : Code} {dC : Nat → ClassId} {dI : Nat → Nat → Nat} {cyI cyJ cyZ : ClassId} {A : Nat → Prop} (C0 : mC p s m meth c args cX6_appendMultiples none 6 RX6 wsX6_appendMultiples (gK dC dI cyI cyJ cyZ) A) (N : Nat) (res : Int32 × (Nat → Int64)) (q_Sp : Nat) (q_parts : Nat) (q_Pr : Nat) (q_prime : Nat) (q_times : Nat) (v1 : Int32) (v2 : Int32) (v3 : Int64) (sp_unlike : Int32) (sp_number : Int64) (sp_partsKept : Int32) (sp_partsNumber : Int64) (a_parts : Nat → Int64) (h : f_X6_appendMultiples N v1 v2 v3 sp_partsKept a_parts = some res) : ∀ (H : Heap) (locs : List Loc), va_P (dC, dI) vwCl (wd5 cyI cyJ cyZ q_Sp q_parts q_Pr q_prime q_times sp_unlike sp_number sp_partsKept sp_partsNumber a_parts) H → va_D A (wd5 cyI cyJ cyZ q_Sp q_parts q_Pr q_prime q_times sp_unlike sp_number sp_partsKept sp_partsNumber a_parts) → va_S A s.heap H locs → ∀ (ls : Array Slot), lv_has ls 6 [(0, .ref q_Sp), (1, .int v1), (2, .int v2), (3, .long v3)] → W p l e (headSpec wsX6_appendMultiples rm_X6_appendMultiples).room s m args below meth c H locs 0 0 (MQ below (va_Qv (fun (_ : Unit) => True) (bW dC dI (fun (u : Unit) => (wd5 cyI cyJ cyZ q_Sp q_parts q_Pr q_prime q_times sp_unlike sp_number res.1 sp_partsNumber res.2)) A) A) args s 0 0 A) (F0 m 0 ls []) := by
  obtain ⟨hx, hb, hr, hml, hown, hts, hlocks, hG, hA⟩ := id C0
  have hK := hG.1
  intro H locs hP hD hS ls hl
  unfold f_X6_appendMultiples at h
  refine lv_iload_n hx hb dX6_appendMultiples_0 rfl (lv_at hl 1 rfl) ?_
  refine lv_istore (lv' := [(5, .int v1), (0, .ref q_Sp), (1, .int v1), (2, .int v2), (3, .long v3)]) hx hb dX6_appendMultiples_1 hl (by decide) rfl (fun ls hl => ?_)
  exact k_X6_appendMultiples_3 C0 N res q_Sp q_parts q_Pr q_prime q_times v1 v2 v3 sp_unlike sp_number sp_partsNumber N v1 sp_partsKept a_parts h _ _ hP hD hS _ (lv_sub hl [1, 2, 3, 4, 0] rfl)
set_option maxRecDepth 100000 in
set_option maxHeartbeats 4000000 in
theorem c_X6_appendMultiples (l : Launch) (dC : Nat → ClassId) (dI : Nat → Nat → Nat) (cyI cyJ cyZ : ClassId) (N : Nat) (res : Int32 × (Nat → Int64)) (sz : Nat) (q_Sp : Nat) (q_parts : Nat) (q_Pr : Nat) (q_prime : Nat) (q_times : Nat) (v1 : Int32) (v2 : Int32) (v3 : Int64) (sp_unlike : Int32) (sp_number : Int64) (sp_partsKept : Int32) (sp_partsNumber : Int64) (a_parts : Nat → Int64) (h : f_X6_appendMultiples N v1 v2 v3 sp_partsKept a_parts = some res) : Met l yX6_appendMultiples wsX6_appendMultiples rm_X6_appendMultiples (pC dC dI cyI cyJ cyZ [.ref q_Sp, .int v1, .int v2, .long v3] sz (wd5 cyI cyJ cyZ q_Sp q_parts q_Pr q_prime q_times sp_unlike sp_number sp_partsKept sp_partsNumber a_parts)) (va_Qv (fun (_ : Unit) => True) (bW dC dI (fun (u : Unit) => (wd5 cyI cyJ cyZ q_Sp q_parts q_Pr q_prime q_times sp_unlike sp_number res.1 sp_partsNumber res.2)) (va_A (wd5 cyI cyJ cyZ q_Sp q_parts q_Pr q_prime q_times sp_unlike sp_number sp_partsKept sp_partsNumber a_parts) sz)) (va_A (wd5 cyI cyJ cyZ q_Sp q_parts q_Pr q_prime q_times sp_unlike sp_number sp_partsKept sp_partsNumber a_parts) sz)) 0 0 (va_A (wd5 cyI cyJ cyZ q_Sp q_parts q_Pr q_prime q_times sp_unlike sp_number sp_partsKept sp_partsNumber a_parts) sz) := by
  refine Met.ofW (cc := cX6_appendMultiples) (maxL := 6) (ret := none) (by decide) rfl ?_
  intro p e s m args below meth c s₁ B hml hv
  obtain ⟨rfl, hsz, hP, hG, hD0⟩ := hv
  have hx := B.exec
  have hb := B.bytes
  have hr := B.returns
  have hts := atoms_spec (ws := wsX6_appendMultiples) B.pre
  have hown : s.vm.findClass RX6 = some m.cls := findClass_of_methodNamed B.named
  have hlocks := B.notSynchronized
  subst hsz
  have hD := hD0.self (sz := s.heap.size)
  generalize hAe : va_A (wd5 cyI cyJ cyZ q_Sp q_parts q_Pr q_prime q_times sp_unlike sp_number sp_partsKept sp_partsNumber a_parts) s.heap.size = A at hD ⊢
  have hA : ∀ q : Nat, s.heap.size ≤ q → A q := fun q h => by rw [← hAe]; exact Or.inr h
  have hS : va_S A s.heap s.heap [] := va_S.rf
  have hl := lv_entry ([.ref q_Sp, .int v1, .int v2, .long v3]) (n := 6) (Nat.le_of_ble_eq_true rfl)
  rw [lg_entry_eq]
  generalize (lg_sl ([.ref q_Sp, .int v1, .int v2, .long v3]) ++ List.replicate (6 - (lg_sl ([.ref q_Sp, .int v1, .int v2, .long v3])).length) Slot.unset).toArray = ls at hl ⊢
  have hl : lv_has ls 6 [(0, .ref q_Sp), (1, .int v1), (2, .int v2), (3, .long v3)] := hl
  exact k_X6_appendMultiples_0 ⟨hx, hb, hr, hml, hown, hts, hlocks, hG, hA⟩ N res q_Sp q_parts q_Pr q_prime q_times v1 v2 v3 sp_unlike sp_number sp_partsKept sp_partsNumber a_parts  h _ _ hP hD hS _ hl
/-- the cells Sp, prime, times, parts -/
abbrev wd6 (cyI cyJ cyZ : ClassId) (q_Sp : Nat) (q_prime : Nat) (q_times : Nat) (q_parts : Nat) (q_Pr : Nat) (sp_unlike : Int32) (sp_number : Int64) (sp_partsKept : Int32) (sp_partsNumber : Int64) (a_prime : Nat → Int64) (a_times : Nat → Int32) (a_parts : Nat → Int64) : va_W := [(q_Sp, .inr (6, [.ref q_Pr, .ref q_prime, .ref q_times, .int sp_unlike, .long sp_number, .ref q_parts, .int sp_partsKept, .long sp_partsNumber])), (q_prime, .inl (cyJ, 12, .inr (.inl a_prime))), (q_times, .inl (cyI, 12, .inl a_times)), (q_parts, .inl (cyJ, 2304, .inr (.inl a_parts)))]
abbrev rm_X6_listParts : Room := { frames := 1, cells := 0, slots := 0, locals := 27 }
theorem hd_X6_listParts : yX6_listParts.cls ≠ "java/lang/invoke/MethodHandle" ∧ yX6_listParts.cls ≠ "java/lang/invoke/VarHandle" ∧ (parseMethodDescriptor yX6_listParts.desc).map (fun d => d.parameters.length) = some 0 := by decide +kernel
theorem iw_X6_listParts_X6 : ∀ w ∈ wsX60, w ∈ wsX6_listParts := List.forall_mem_cons.mpr ⟨List.mem_of_getElem? (i := 16) rfl, List.forall_mem_cons.mpr ⟨List.mem_of_getElem? (i := 17) rfl, List.forall_mem_cons.mpr ⟨List.mem_of_getElem? (i := 18) rfl, List.forall_mem_cons.mpr ⟨List.mem_of_getElem? (i := 19) rfl, List.forall_mem_cons.mpr ⟨List.mem_of_getElem? (i := 20) rfl, List.forall_mem_cons.mpr ⟨List.mem_of_getElem? (i := 21) rfl, List.forall_mem_cons.mpr ⟨List.mem_of_getElem? (i := 22) rfl, List.forall_mem_cons.mpr ⟨List.mem_of_getElem? (i := 23) rfl, fun _ h => absurd h List.not_mem_nil⟩⟩⟩⟩⟩⟩⟩⟩
def j_X6_listParts_98 (N : Nat) (sp_partsKept : Int32) (sp_partsNumber : Int64) (a_parts : Nat → Int64) : Option (Int32 × Int64 × (Nat → Int64)) :=
  Option.bind (f_X11_putInOrder N sp_partsKept 2304 a_parts) fun r4z =>
  some (sp_partsKept, sp_partsNumber, r4z)
set_option maxRecDepth 100000 in
set_option maxHeartbeats 4000000 in
theorem k_X6_listParts_98 {p : Program} {l : Launch} {e : Env} {s : State} {m : MethodId} {args : Array Value} {below : List Frame} {meth : Method} {c : Code} {dC : Nat → ClassId} {dI : Nat → Nat → Nat} {cyI cyJ cyZ : ClassId} {A : Nat → Prop} (C0 : mC p s m meth c args cX6_listParts none 5 RX6 wsX6_listParts (gK dC dI cyI cyJ cyZ) A) (N : Nat) (res : Int32 × Int64 × (Nat → Int64)) (q_Sp : Nat) (q_prime : Nat) (q_times : Nat) (q_parts : Nat) (q_Pr : Nat) (sp_unlike : Int32) (sp_number : Int64) (sp_partsKept : Int32) (sp_partsNumber : Int64) (a_prime : Nat → Int64) (a_times : Nat → Int32) (a_parts : Nat → Int64) (h : j_X6_listParts_98 N sp_partsKept sp_partsNumber a_parts = some res) : ∀ (H : Heap) (locs : List Loc), va_P (dC, dI) vwCl (wd6 cyI cyJ cyZ q_Sp q_prime q_times q_parts q_Pr sp_unlike sp_number sp_partsKept sp_partsNumber a_prime a_times a_parts) H → va_D A (wd6 cyI cyJ cyZ q_Sp q_prime q_times q_parts q_Pr sp_unlike sp_number sp_partsKept sp_partsNumber a_prime a_times a_parts) → va_S A s.heap H locs → ∀ (ls : Array Slot), lv_has ls 5 [(0, .ref q_Sp)] → W p l e (headSpec wsX6_listParts rm_X6_listParts).room s m args below meth c H locs 0 0 (MQ below (va_Qv (fun (_ : Unit) => True) (bW dC dI (fun (u : Unit) => (wd6 cyI cyJ cyZ q_Sp q_prime q_times q_parts q_Pr sp_unlike sp_number res.1 res.2.1 a_prime a_times res.2.2)) A) A) args s 0 0 A) (F0 m 98 ls []) := by
  obtain ⟨hx, hb, hr, hml, hown, hts, hlocks, hG, hA⟩ := id C0
  have hK := hG.1
  intro H locs hP hD hS ls hl
  unfold j_X6_listParts_98 at h
  refine lv_aload_n hx hb dX6_listParts_98 rfl (lv_at hl 0 rfl) ?_
  refine va_get (D := (dC, dI)) (ci := 6) (v := .ref q_parts) (C := RX6) (T := TX6) (N := 8) hx hb hts iw_X6_listParts_X6 hown hK hP 0 rfl rfl 5 (by decide) (hts (.fieldLink RX6 27 "GoesInto$Split" "parts" "[J") (List.mem_of_getElem? (i := 3) rfl)) (fun _ h9 => h9) rfl dX6_listParts_99 ?_
  refine lv_aload_n hx hb dX6_listParts_102 rfl (lv_at hl 0 rfl) ?_
  refine va_get (D := (dC, dI)) (ci := 6) (v := .int sp_partsKept) (C := RX6) (T := TX6) (N := 8) hx hb hts iw_X6_listParts_X6 hown hK hP 0 rfl rfl 6 (by decide) (hts (.fieldLink RX6 30 "GoesInto$Split" "partsKept" "I") (List.mem_of_getElem? (i := 4) rfl)) (fun _ h9 => h9) rfl dX6_listParts_103 ?_
  obtain ⟨r4z, hr4z, h⟩ := xb_at h
  have hPc := hP.sub (ws' := (wd4 cyI cyJ cyZ q_parts 2304 a_parts)) [3] rfl
  have hDc := hD.sub (ws' := (wd4 cyI cyJ cyZ q_parts 2304 a_parts)) [3] (by decide) rfl
  refine cal_v [3] [0, 1, 2] (va_runSN (As := [.ref q_parts, .int sp_partsKept]) (rest := []) ⟨hx, hb, hml, hown, hts⟩ (c_X11_putInOrder l dC dI cyI cyJ cyZ N r4z H.size q_parts sp_partsKept 2304 a_parts hr4z) ⟨va_cnB (host := "GoesInto") 2 hts gX6_listParts_X11_putInOrder_n71 rfl rfl rfl hG.2.2.2.2.2.2.2.2.2.2.2.2.2.2.1 (hts (.initialized RX11) (List.mem_of_getElem? (i := 14) rfl)) hd_X11_putInOrder ⟨Nat.le_of_ble_eq_true rfl, Nat.le_of_ble_eq_true rfl⟩, (hts (.static yX11_putInOrder) (List.mem_of_getElem? (i := 13) rfl)), trivial⟩ ⟨pC.blind, pC.pre hPc hG hDc⟩ rfl rfl hl.1 rfl (lv_room (Nat.le_of_ble_eq_true rfl)) dX6_listParts_106 ⟨Nat.zero_le _, Nat.zero_le _⟩) hP hD hS hA rfl rfl rfl (by decide) (fun u5z H locs _ hP hD hS => ?_)
  have hP : va_P (dC, dI) vwCl (wd6 cyI cyJ cyZ q_Sp q_prime q_times q_parts q_Pr sp_unlike sp_number sp_partsKept sp_partsNumber a_prime a_times r4z) H := hP.sub [0, 1, 2, 3] rfl
  have hD : va_D A (wd6 cyI cyJ cyZ q_Sp q_prime q_times q_parts q_Pr sp_unlike sp_number sp_partsKept sp_partsNumber a_prime a_times r4z) := hD.sub [0, 1, 2, 3] (by decide) rfl
  obtain rfl := Option.some.inj h
  exact W.vret hx hb hr (fun t ht hW => ⟨⟨(), rfl, trivial, by rw [ht]; exact hP, hD⟩, hS.F ht⟩) hS.2.2 dX6_listParts_109 hlocks
def s_X6_listParts_59 (N : Nat) (k_35 : (Int32 × Int32 × (Nat → Int64)) → Option (Int32 × Int64 × (Nat → Int64))) (v1 : Int32) (v3 : Int32) (a_prime : Nat → Int64) (a_times : Nat → Int32) (k_59 : (Int32 × Int32 × Int32 × (Nat → Int64)) → Option (Int32 × Int64 × (Nat → Int64))) (v2 : Int32) (v4 : Int32) (sp_partsKept : Int32) (a_parts : Nat → Int64) : Option (Int32 × Int64 × (Nat → Int64)) :=
  if v1 < 0 ∨ 12 ≤ v1.toNatClampNeg then
    none
  else
    if (a_times v1.toNatClampNeg) ≤ v4 then
      xl (v1 + (1 : Int32)) fun y10z =>
      k_35 (y10z, sp_partsKept, a_parts)
    else
      Option.bind (f_X6_appendMultiples N v2 v3 (a_prime v1.toNatClampNeg) sp_partsKept a_parts) fun r11z =>
      xl (v2 + v3) fun y14z =>
      xl (v4 + (1 : Int32)) fun y15z =>
      k_59 (y14z, y15z, r11z.1, r11z.2)
def l_X6_listParts_59 (N : Nat) (k_35 : (Int32 × Int32 × (Nat → Int64)) → Option (Int32 × Int64 × (Nat → Int64))) (v1 : Int32) (v3 : Int32) (a_prime : Nat → Int64) (a_times : Nat → Int32) (n : Nat) (z : Int32 × Int32 × Int32 × (Nat → Int64)) : Option (Int32 × Int64 × (Nat → Int64)) := lp (fun k z => s_X6_listParts_59 N k_35 v1 v3 a_prime a_times k z.1 z.2.1 z.2.2.1 z.2.2.2) n z
set_option maxRecDepth 100000 in
set_option maxHeartbeats 4000000 in
theorem k_X6_listParts_59 {p : Program} {l : Launch} {e : Env} {s : State} {m : MethodId} {args : Array Value} {below : List Frame} {meth : Method} {c : Code} {dC : Nat → ClassId} {dI : Nat → Nat → Nat} {cyI cyJ cyZ : ClassId} {A : Nat → Prop} (C0 : mC p s m meth c args cX6_listParts none 5 RX6 wsX6_listParts (gK dC dI cyI cyJ cyZ) A) (N : Nat) (res : Int32 × Int64 × (Nat → Int64)) (q_Sp : Nat) (q_prime : Nat) (q_times : Nat) (q_parts : Nat) (q_Pr : Nat) (v3 : Int32) (sp_unlike : Int32) (sp_number : Int64) (sp_partsNumber : Int64) (a_prime : Nat → Int64) (a_times : Nat → Int32) (k_35 : (Int32 × Int32 × (Nat → Int64)) → Option (Int32 × Int64 × (Nat → Int64))) (hk_35 : ∀ (v1 : Int32) (sp_partsKept : Int32) (a_parts : Nat → Int64), k_35 (v1, sp_partsKept, a_parts) = some res → ∀ (H : Heap) (locs : List Loc), va_P (dC, dI) vwCl (wd6 cyI cyJ cyZ q_Sp q_prime q_times q_parts q_Pr sp_unlike sp_number sp_partsKept sp_partsNumber a_prime a_times a_parts) H → va_D A (wd6 cyI cyJ cyZ q_Sp q_prime q_times q_parts q_Pr sp_unlike sp_number sp_partsKept sp_partsNumber a_prime a_times a_parts) → va_S A s.heap H locs → ∀ (ls : Array Slot), lv_has ls 5 [(0, .ref q_Sp), (1, .int v1)] → W p l e (headSpec wsX6_listParts rm_X6_listParts).room s m args below meth c H locs 0 0 (MQ below (va_Qv (fun (_ : Unit) => True) (bW dC dI (fun (u : Unit) => (wd6 cyI cyJ cyZ q_Sp q_prime q_times q_parts q_Pr sp_unlike sp_number res.1 res.2.1 a_prime a_times res.2.2)) A) A) args s 0 0 A) (F0 m 35 ls [])) (v1 : Int32) : ∀ (n : Nat) (v2 : Int32) (v4 : Int32) (sp_partsKept : Int32) (a_parts : Nat → Int64), l_X6_listParts_59 N k_35 v1 v3 a_prime a_times n (v2, v4, sp_partsKept, a_parts) = some res → ∀ (H : Heap) (locs : List Loc), va_P (dC, dI) vwCl (wd6 cyI cyJ cyZ q_Sp q_prime q_times q_parts q_Pr sp_unlike sp_number sp_partsKept sp_partsNumber a_prime a_times a_parts) H → va_D A (wd6 cyI cyJ cyZ q_Sp q_prime q_times q_parts q_Pr sp_unlike sp_number sp_partsKept sp_partsNumber a_prime a_times a_parts) → va_S A s.heap H locs → ∀ (ls : Array Slot), lv_has ls 5 [(0, .ref q_Sp), (1, .int v1), (2, .int v2), (3, .int v3), (4, .int v4)] → W p l e (headSpec wsX6_listParts rm_X6_listParts).room s m args below meth c H locs 0 0 (MQ below (va_Qv (fun (_ : Unit) => True) (bW dC dI (fun (u : Unit) => (wd6 cyI cyJ cyZ q_Sp q_prime q_times q_parts q_Pr sp_unlike sp_number res.1 res.2.1 a_prime a_times res.2.2)) A) A) args s 0 0 A) (F0 m 59 ls []) := by
  obtain ⟨hx, hb, hr, hml, hown, hts, hlocks, hG, hA⟩ := id C0
  have hK := hG.1
  intro n
  induction n with
  | zero =>
    intro v2 v4 sp_partsKept a_parts h
    cases h
  | succ n ih =>
    intro v2 v4 sp_partsKept a_parts h H locs hP hD hS ls hl
    have h : s_X6_listParts_59 N k_35 v1 v3 a_prime a_times (l_X6_listParts_59 N k_35 v1 v3 a_prime a_times n) v2 v4 sp_partsKept a_parts = some res := h
    unfold s_X6_listParts_59 at h
    refine lv_iload hx hb dX6_listParts_59 (lv_at hl 4 rfl) ?_
    refine lv_aload_n hx hb dX6_listParts_61 rfl (lv_at hl 0 rfl) ?_
    refine va_get (D := (dC, dI)) (ci := 6) (v := .ref q_times) (C := RX6) (T := TX6) (N := 8) hx hb hts iw_X6_listParts_X6 hown hK hP 0 rfl rfl 2 (by decide) (hts (.fieldLink RX6 15 "GoesInto$Split" "times" "[I") (List.mem_of_getElem? (i := 6) rfl)) (fun _ h9 => h9) rfl dX6_listParts_62 ?_
    refine lv_iload_n hx hb dX6_listParts_65 rfl (lv_at hl 1 rfl) ?_
    obtain ⟨b8z, h⟩ := xn h
    refine va_iald hx hb hK hP 2 0 rfl rfl b8z dX6_listParts_66 ?_
    refine lv_icmp_ge (tgt := 92) hx hb dX6_listParts_67 (by decide) (fun c9z => ?_) (fun c9z => ?_)
    · have h := xt h c9z
      obtain ⟨y10z, ey10z⟩ : ∃ z : Int32, z = v1 + (1 : Int32) := ⟨_, rfl⟩
      have h := xl_at h ey10z
      refine lv_iinc (v := y10z) (lv' := [(1, .int y10z), (0, .ref q_Sp), (2, .int v2), (3, .int v3), (4, .int v4)]) hx hb dX6_listParts_92 hl (k := 1) rfl (by rw [ey10z]; rfl) (by decide) rfl (fun ls hl => ?_)
      refine lv_goto (tgt := 35) hx hb dX6_listParts_95 (by decide) ?_
      exact hk_35 y10z sp_partsKept a_parts h _ _ hP hD hS _ (lv_sub hl [1, 0] rfl)
    · have h := xf h c9z
      refine lv_aload_n hx hb dX6_listParts_70 rfl (lv_at hl 0 rfl) ?_
      refine lv_iload_n hx hb dX6_listParts_71 rfl (lv_at hl 2 rfl) ?_
      refine lv_iload_n hx hb dX6_listParts_72 rfl (lv_at hl 3 rfl) ?_
      refine lv_aload_n hx hb dX6_listParts_73 rfl (lv_at hl 0 rfl) ?_
      refine va_get (D := (dC, dI)) (ci := 6) (v := .ref q_prime) (C := RX6) (T := TX6) (N := 8) hx hb hts iw_X6_listParts_X6 hown hK hP 0 rfl rfl 1 (by decide) (hts (.fieldLink RX6 11 "GoesInto$Split" "prime" "[J") (List.mem_of_getElem? (i := 7) rfl)) (fun _ h9 => h9) rfl dX6_listParts_74 ?_
      refine lv_iload_n hx hb dX6_listParts_77 rfl (lv_at hl 1 rfl) ?_
      refine va_lald hx hb hK hP 1 1 rfl rfl b8z dX6_listParts_78 ?_
      obtain ⟨r11z, hr11z, h⟩ := xb_at h
      have hPc := hP.sub (ws' := (wd5 cyI cyJ cyZ q_Sp q_parts q_Pr q_prime q_times sp_unlike sp_number sp_partsKept sp_partsNumber a_parts)) [0, 3] rfl
      have hDc := hD.sub (ws' := (wd5 cyI cyJ cyZ q_Sp q_parts q_Pr q_prime q_times sp_unlike sp_number sp_partsKept sp_partsNumber a_parts)) [0, 3] (by decide) rfl
      refine cal_v [0, 3] [1, 2] (va_runV (As := [.int v2, .int v3, .long (a_prime v1.toNatClampNeg)]) (rest := []) ⟨hx, hb, hml, hown, hts⟩ (c_X6_appendMultiples l dC dI cyI cyJ cyZ N r11z H.size q_Sp q_parts q_Pr q_prime q_times v2 v3 (a_prime v1.toNatClampNeg) sp_unlike sp_number sp_partsKept sp_partsNumber a_parts hr11z) (cwV 3 hts gX6_listParts_X6_appendMultiples rfl rfl rfl ⟨rfl, hd_X6_appendMultiples⟩ ⟨Nat.le_of_ble_eq_true rfl, Nat.le_of_ble_eq_true rfl⟩) ⟨pC.blind, va_recv hK hPc (ci := 6) (q0 := 0) rfl rfl, pC.pre hPc hG hDc⟩ rfl rfl hl.1 rfl (lv_room (Nat.le_of_ble_eq_true rfl)) dX6_listParts_79 ⟨Nat.zero_le _, Nat.zero_le _⟩) hP hD hS hA rfl rfl rfl (by decide) (fun u12z H locs _ hP hD hS => ?_)
      have hP : va_P (dC, dI) vwCl (wd6 cyI cyJ cyZ q_Sp q_prime q_times q_parts q_Pr sp_unlike sp_number r11z.1 sp_partsNumber a_prime a_times r11z.2) H := hP.sub [2, 0, 1, 3] rfl
      have hD : va_D A (wd6 cyI cyJ cyZ q_Sp q_prime q_times q_parts q_Pr sp_unlike sp_number r11z.1 sp_partsNumber a_prime a_times r11z.2) := hD.sub [2, 0, 1, 3] (by decide) rfl
      refine lv_iload_n hx hb dX6_listParts_82 rfl (lv_at hl 2 rfl) ?_
      refine lv_iload_n hx hb dX6_listParts_83 rfl (lv_at hl 3 rfl) ?_
      refine lv_iadd hx hb dX6_listParts_84 ?_
      refine lv_topi (fun y14z ey14z => ?_)
      have h := xl_at h ey14z
      refine lv_istore_n (lv' := [(2, .int y14z), (0, .ref q_Sp), (1, .int v1), (3, .int v3), (4, .int v4)]) hx hb dX6_listParts_85 rfl hl (by decide) rfl (fun ls hl => ?_)
      obtain ⟨y15z, ey15z⟩ : ∃ z : Int32, z = v4 + (1 : Int32) := ⟨_, rfl⟩
      have h := xl_at h ey15z
      refine lv_iinc (v := y15z) (lv' := [(4, .int y15z), (2, .int y14z), (0, .ref q_Sp), (1, .int v1), (3, .int v3)]) hx hb dX6_listParts_86 hl (k := 4) rfl (by rw [ey15z]; rfl) (by decide) rfl (fun ls hl => ?_)
      refine lv_goto (tgt := 59) hx hb dX6_listParts_89 (by decide) ?_
      exact ih y14z y15z r11z.1 r11z.2 h _ _ hP hD hS _ (lv_sub hl [2, 3, 1, 4, 0] rfl)
def s_X6_listParts_35 (N : Nat) (sp_unlike : Int32) (sp_partsNumber : Int64) (a_prime : Nat → Int64) (a_times : Nat → Int32) (k_35 : (Int32 × Int32 × (Nat → Int64)) → Option (Int32 × Int64 × (Nat → Int64))) (v1 : Int32) (sp_partsKept : Int32) (a_parts : Nat → Int64) : Option (Int32 × Int64 × (Nat → Int64)) :=
  if sp_unlike ≤ v1 then
    j_X6_listParts_98 N sp_partsKept sp_partsNumber a_parts
  else
    if (12 : Int32) ≤ v1 then
      j_X6_listParts_98 N sp_partsKept sp_partsNumber a_parts
    else
      l_X6_listParts_59 N k_35 v1 sp_partsKept a_prime a_times N ((0 : Int32), (0 : Int32), sp_partsKept, a_parts)
def l_X6_listParts_35 (N : Nat) (sp_unlike : Int32) (sp_partsNumber : Int64) (a_prime : Nat → Int64) (a_times : Nat → Int32) (n : Nat) (z : Int32 × Int32 × (Nat → Int64)) : Option (Int32 × Int64 × (Nat → Int64)) := lp (fun k z => s_X6_listParts_35 N sp_unlike sp_partsNumber a_prime a_times k z.1 z.2.1 z.2.2) n z
set_option maxRecDepth 100000 in
set_option maxHeartbeats 4000000 in
theorem k_X6_listParts_35 {p : Program} {l : Launch} {e : Env} {s : State} {m : MethodId} {args : Array Value} {below : List Frame} {meth : Method} {c : Code} {dC : Nat → ClassId} {dI : Nat → Nat → Nat} {cyI cyJ cyZ : ClassId} {A : Nat → Prop} (C0 : mC p s m meth c args cX6_listParts none 5 RX6 wsX6_listParts (gK dC dI cyI cyJ cyZ) A) (N : Nat) (res : Int32 × Int64 × (Nat → Int64)) (q_Sp : Nat) (q_prime : Nat) (q_times : Nat) (q_parts : Nat) (q_Pr : Nat) (sp_unlike : Int32) (sp_number : Int64) (sp_partsNumber : Int64) (a_prime : Nat → Int64) (a_times : Nat → Int32) : ∀ (n : Nat) (v1 : Int32) (sp_partsKept : Int32) (a_parts : Nat → Int64), l_X6_listParts_35 N sp_unlike sp_partsNumber a_prime a_times n (v1, sp_partsKept, a_parts) = some res → ∀ (H : Heap) (locs : List Loc), va_P (dC, dI) vwCl (wd6 cyI cyJ cyZ q_Sp q_prime q_times q_parts q_Pr sp_unlike sp_number sp_partsKept sp_partsNumber a_prime a_times a_parts) H → va_D A (wd6 cyI cyJ cyZ q_Sp q_prime q_times q_parts q_Pr sp_unlike sp_number sp_partsKept sp_partsNumber a_prime a_times a_parts) → va_S A s.heap H locs → ∀ (ls : Array Slot), lv_has ls 5 [(0, .ref q_Sp), (1, .int v1)] → W p l e (headSpec wsX6_listParts rm_X6_listParts).room s m args below meth c H locs 0 0 (MQ below (va_Qv (fun (_ : Unit) => True) (bW dC dI (fun (u : Unit) => (wd6 cyI cyJ cyZ q_Sp q_prime q_times q_parts q_Pr sp_unlike sp_number res.1 res.2.1 a_prime a_times res.2.2)) A) A) args s 0 0 A) (F0 m 35 ls []) := by
  obtain ⟨hx, hb, hr, hml, hown, hts, hlocks, hG, hA⟩ := id C0
  have hK := hG.1
  intro n
  induction n with
  | zero =>
    intro v1 sp_partsKept a_parts h
    cases h
  | succ n ih =>
    intro v1 sp_partsKept a_parts h H locs hP hD hS ls hl
    have h : s_X6_listParts_35 N sp_unlike sp_partsNumber a_prime a_times (l_X6_listParts_35 N sp_unlike sp_partsNumber a_prime a_times n) v1 sp_partsKept a_parts = some res := h
    unfold s_X6_listParts_35 at h
    refine lv_iload_n hx hb dX6_listParts_35 rfl (lv_at hl 1 rfl) ?_
    refine lv_aload_n hx hb dX6_listParts_36 rfl (lv_at hl 0 rfl) ?_
    refine va_get (D := (dC, dI)) (ci := 6) (v := .int sp_unlike) (C := RX6) (T := TX6) (N := 8) hx hb hts iw_X6_listParts_X6 hown hK hP 0 rfl rfl 3 (by decide) (hts (.fieldLink RX6 19 "GoesInto$Split" "unlike" "I") (List.mem_of_getElem? (i := 5) rfl)) (fun _ h9 => h9) rfl dX6_listParts_37 ?_
    refine lv_icmp_ge (tgt := 98) hx hb dX6_listParts_40 (by decide) (fun c3z => ?_) (fun c3z => ?_)
    · have h := xt h c3z
      exact k_X6_listParts_98 C0 N res q_Sp q_prime q_times q_parts q_Pr sp_unlike sp_number sp_partsKept sp_partsNumber a_prime a_times a_parts  h _ _ hP hD hS _ (lv_sub hl [0] rfl)
    · have h := xf h c3z
      refine lv_iload_n hx hb dX6_listParts_43 rfl (lv_at hl 1 rfl) ?_
      refine lv_bipush (v := (12 : Int32)) hx hb dX6_listParts_44 (by decide) ?_
      refine lv_icmp_ge (tgt := 98) hx hb dX6_listParts_46 (by decide) (fun c7z => ?_) (fun c7z => ?_)
      · have h := xt h c7z
        exact k_X6_listParts_98 C0 N res q_Sp q_prime q_times q_parts q_Pr sp_unlike sp_number sp_partsKept sp_partsNumber a_prime a_times a_parts  h _ _ hP hD hS _ (lv_sub hl [0] rfl)
      · have h := xf h c7z
        refine lv_iconst (v := (0 : Int32)) hx hb dX6_listParts_49 (by decide) ?_
        refine lv_istore_n (lv' := [(2, .int (0 : Int32)), (0, .ref q_Sp), (1, .int v1)]) hx hb dX6_listParts_50 rfl hl (by decide) rfl (fun ls hl => ?_)
        refine lv_aload_n hx hb dX6_listParts_51 rfl (lv_at hl 1 rfl) ?_
        refine va_get (D := (dC, dI)) (ci := 6) (v := .int sp_partsKept) (C := RX6) (T := TX6) (N := 8) hx hb hts iw_X6_listParts_X6 hown hK hP 0 rfl rfl 6 (by decide) (hts (.fieldLink RX6 30 "GoesInto$Split" "partsKept" "I") (List.mem_of_getElem? (i := 4) rfl)) (fun _ h9 => h9) rfl dX6_listParts_52 ?_
        refine lv_istore_n (lv' := [(3, .int sp_partsKept), (2, .int (0 : Int32)), (0, .ref q_Sp), (1, .int v1)]) hx hb dX6_listParts_55 rfl hl (by decide) rfl (fun ls hl => ?_)
        refine lv_iconst (v := (0 : Int32)) hx hb dX6_listParts_56 (by decide) ?_
        refine lv_istore (lv' := [(4, .int (0 : Int32)), (3, .int sp_partsKept), (2, .int (0 : Int32)), (0, .ref q_Sp), (1, .int v1)]) hx hb dX6_listParts_57 hl (by decide) rfl (fun ls hl => ?_)
        exact k_X6_listParts_59 C0 N res q_Sp q_prime q_times q_parts q_Pr sp_partsKept sp_unlike sp_number sp_partsNumber a_prime a_times _ ih v1 N (0 : Int32) (0 : Int32) sp_partsKept a_parts h _ _ hP hD hS _ (lv_sub hl [3, 4, 2, 1, 0] rfl)
def f_X6_listParts (N : Nat) (sp_unlike : Int32) (sp_number : Int64) (sp_partsKept : Int32) (sp_partsNumber : Int64) (a_prime : Nat → Int64) (a_times : Nat → Int32) (a_parts : Nat → Int64) : Option (Int32 × Int64 × (Nat → Int64)) :=
  if sp_partsNumber = sp_number then
    some (sp_partsKept, sp_partsNumber, a_parts)
  else
    if (0 : Int32) < 0 ∨ 2304 ≤ (0 : Int32).toNatClampNeg then
      none
    else
      l_X6_listParts_35 N sp_unlike sp_number a_prime a_times N ((0 : Int32), (1 : Int32), vp_updL a_parts (0 : Int32).toNatClampNeg (1 : Int64))
set_option maxRecDepth 100000 in
set_option maxHeartbeats 4000000 in
theorem k_X6_listParts_0 {p : Program} {l : Launch} {e : Env} {s : State} {m : MethodId} {args : Array Value} {below : List Frame} {meth : Method} {c : Code} {dC : Nat → ClassId} {dI : Nat → Nat → Nat} {cyI cyJ cyZ : ClassId} {A : Nat → Prop} (C0 : mC p s m meth c args cX6_listParts none 5 RX6 wsX6_listParts (gK dC dI cyI cyJ cyZ) A) (N : Nat) (res : Int32 × Int64 × (Nat → Int64)) (q_Sp : Nat) (q_prime : Nat) (q_times : Nat) (q_parts : Nat) (q_Pr : Nat) (sp_unlike : Int32) (sp_number : Int64) (sp_partsKept : Int32) (sp_partsNumber : Int64) (a_prime : Nat → Int64) (a_times : Nat → Int32) (a_parts : Nat → Int64) (h : f_X6_listParts N sp_unlike sp_number sp_partsKept sp_partsNumber a_prime a_times a_parts = some res) : ∀ (H : Heap) (locs : List Loc), va_P (dC, dI) vwCl (wd6 cyI cyJ cyZ q_Sp q_prime q_times q_parts q_Pr sp_unlike sp_number sp_partsKept sp_partsNumber a_prime a_times a_parts) H → va_D A (wd6 cyI cyJ cyZ q_Sp q_prime q_times q_parts q_Pr sp_unlike sp_number sp_partsKept sp_partsNumber a_prime a_times a_parts) → va_S A s.heap H locs → ∀ (ls : Array Slot), lv_has ls 5 [(0, .ref q_Sp)] → W p l e (headSpec wsX6_listParts rm_X6_listParts).room s m args below meth c H locs 0 0 (MQ below (va_Qv (fun (_ : Unit) => True) (bW dC dI (fun (u : Unit) => (wd6 cyI cyJ cyZ q_Sp q_prime q_times q_parts q_Pr sp_unlike sp_number res.1 res.2.1 a_prime a_times res.2.2)) A) A) args s 0 0 A) (F0 m 0 ls []) := by
  obtain ⟨hx, hb, hr, hml, hown, hts, hlocks, hG, hA⟩ := id C0
  have hK := hG.1
  intro H locs hP hD hS ls hl
  unfold f_X6_listParts at h
  refine lv_aload_n hx hb dX6_listParts_0 rfl (lv_at hl 0 rfl) ?_
  refine va_get (D := (dC, dI)) (ci := 6) (v := .long sp_partsNumber) (C := RX6) (T := TX6) (N := 8) hx hb hts iw_X6_listParts_X6 hown hK hP 0 rfl rfl 7 (by decide) (hts (.fieldLink RX6 33 "GoesInto$Split" "partsNumber" "J") (List.mem_of_getElem? (i := 1) rfl)) (fun _ h9 => h9) rfl dX6_listParts_1 ?_
  refine lv_aload_n hx hb dX6_listParts_4 rfl (lv_at hl 0 rfl) ?_
  refine va_get (D := (dC, dI)) (ci := 6) (v := .long sp_number) (C := RX6) (T := TX6) (N := 8) hx hb hts iw_X6_listParts_X6 hown hK hP 0 rfl rfl 4 (by decide) (hts (.fieldLink RX6 23 "GoesInto$Split" "number" "J") (List.mem_of_getElem? (i := 2) rfl)) (fun _ h9 => h9) rfl dX6_listParts_5 ?_
  refine W.lcmp hx hb dX6_listParts_8 ?_
  refine lv_if_ne (tgt := 13) hx hb dX6_listParts_9 (by decide) (fun c1z => ?_) (fun c1z => ?_)
  · have c1z := fun z => c1z ((lg_cmp_eq _ _).mpr z)
    have h := xf h c1z
    refine lv_aload_n hx hb dX6_listParts_13 rfl (lv_at hl 0 rfl) ?_
    refine lv_aload_n hx hb dX6_listParts_14 rfl (lv_at hl 0 rfl) ?_
    refine va_get (D := (dC, dI)) (ci := 6) (v := .long sp_number) (C := RX6) (T := TX6) (N := 8) hx hb hts iw_X6_listParts_X6 hown hK hP 0 rfl rfl 4 (by decide) (hts (.fieldLink RX6 23 "GoesInto$Split" "number" "J") (List.mem_of_getElem? (i := 2) rfl)) (fun _ h9 => h9) rfl dX6_listParts_15 ?_
    refine va_put (D := (dC, dI)) (ci := 6) (v := .long sp_number) (ty := .long) (C := RX6) (T := TX6) (N := 8) hx hb hts iw_X6_listParts_X6 tyX6 tyX6_ok nmX6 hown hK hP hD hS 0 rfl rfl 7 (by decide) (hts (.fieldLink RX6 33 "GoesInto$Split" "partsNumber" "J") (List.mem_of_getElem? (i := 1) rfl)) (fun _ h9 => h9) rfl (tyX6_ok 7 (by decide)) rfl rfl (Nat.le_of_ble_eq_true rfl) dX6_listParts_18 (fun H locs hP hD hS => ?_)
    have hP : va_P (dC, dI) vwCl (wd6 cyI cyJ cyZ q_Sp q_prime q_times q_parts q_Pr sp_unlike sp_number sp_partsKept sp_number a_prime a_times a_parts) H := hP
    have hD : va_D A (wd6 cyI cyJ cyZ q_Sp q_prime q_times q_parts q_Pr sp_unlike sp_number sp_partsKept sp_number a_prime a_times a_parts) := hD
    refine lv_aload_n hx hb dX6_listParts_21 rfl (lv_at hl 0 rfl) ?_
    refine va_get (D := (dC, dI)) (ci := 6) (v := .ref q_parts) (C := RX6) (T := TX6) (N := 8) hx hb hts iw_X6_listParts_X6 hown hK hP 0 rfl rfl 5 (by decide) (hts (.fieldLink RX6 27 "GoesInto$Split" "parts" "[J") (List.mem_of_getElem? (i := 3) rfl)) (fun _ h9 => h9) rfl dX6_listParts_22 ?_
    refine lv_iconst (v := (0 : Int32)) hx hb dX6_listParts_25 (by decide) ?_
    refine lv_lconst (v := (1 : Int64)) hx hb dX6_listParts_26 (by decide) ?_
    obtain ⟨b2z, h⟩ := xn h
    refine va_last hx hb hK hP hD hS 3 1 rfl rfl b2z dX6_listParts_27 (fun H locs hP hD hS => ?_)
    have hP : va_P (dC, dI) vwCl (wd6 cyI cyJ cyZ q_Sp q_prime q_times q_parts q_Pr sp_unlike sp_number sp_partsKept sp_number a_prime a_times (vp_updL a_parts (0 : Int32).toNatClampNeg (1 : Int64))) H := hP
    have hD : va_D A (wd6 cyI cyJ cyZ q_Sp q_prime q_times q_parts q_Pr sp_unlike sp_number sp_partsKept sp_number a_prime a_times (vp_updL a_parts (0 : Int32).toNatClampNeg (1 : Int64))) := hD
    refine lv_aload_n hx hb dX6_listParts_28 rfl (lv_at hl 0 rfl) ?_
    refine lv_iconst (v := (1 : Int32)) hx hb dX6_listParts_29 (by decide) ?_
    refine va_put (D := (dC, dI)) (ci := 6) (v := .int (1 : Int32)) (ty := .int) (C := RX6) (T := TX6) (N := 8) hx hb hts iw_X6_listParts_X6 tyX6 tyX6_ok nmX6 hown hK hP hD hS 0 rfl rfl 6 (by decide) (hts (.fieldLink RX6 30 "GoesInto$Split" "partsKept" "I") (List.mem_of_getElem? (i := 4) rfl)) (fun _ h9 => h9) rfl (tyX6_ok 6 (by decide)) rfl rfl (Nat.le_of_ble_eq_true rfl) dX6_listParts_30 (fun H locs hP hD hS => ?_)
    have hP : va_P (dC, dI) vwCl (wd6 cyI cyJ cyZ q_Sp q_prime q_times q_parts q_Pr sp_unlike sp_number (1 : Int32) sp_number a_prime a_times (vp_updL a_parts (0 : Int32).toNatClampNeg (1 : Int64))) H := hP
    have hD : va_D A (wd6 cyI cyJ cyZ q_Sp q_prime q_times q_parts q_Pr sp_unlike sp_number (1 : Int32) sp_number a_prime a_times (vp_updL a_parts (0 : Int32).toNatClampNeg (1 : Int64))) := hD
    refine lv_iconst (v := (0 : Int32)) hx hb dX6_listParts_33 (by decide) ?_
    refine lv_istore_n (lv' := [(1, .int (0 : Int32)), (0, .ref q_Sp)]) hx hb dX6_listParts_34 rfl hl (by decide) rfl (fun ls hl => ?_)
    exact k_X6_listParts_35 C0 N res q_Sp q_prime q_times q_parts q_Pr sp_unlike sp_number sp_number a_prime a_times N (0 : Int32) (1 : Int32) (vp_updL a_parts (0 : Int32).toNatClampNeg (1 : Int64)) h _ _ hP hD hS _ (lv_sub hl [1, 0] rfl)
  · have c1z := (lg_cmp_eq _ _).mp c1z
    have h := xt h c1z
    obtain rfl := Option.some.inj h
    exact W.vret hx hb hr (fun t ht hW => ⟨⟨(), rfl, trivial, by rw [ht]; exact hP, hD⟩, hS.F ht⟩) hS.2.2 dX6_listParts_12 hlocks
set_option maxRecDepth 100000 in
set_option maxHeartbeats 4000000 in
theorem c_X6_listParts (l : Launch) (dC : Nat → ClassId) (dI : Nat → Nat → Nat) (cyI cyJ cyZ : ClassId) (N : Nat) (res : Int32 × Int64 × (Nat → Int64)) (sz : Nat) (q_Sp : Nat) (q_prime : Nat) (q_times : Nat) (q_parts : Nat) (q_Pr : Nat) (sp_unlike : Int32) (sp_number : Int64) (sp_partsKept : Int32) (sp_partsNumber : Int64) (a_prime : Nat → Int64) (a_times : Nat → Int32) (a_parts : Nat → Int64) (h : f_X6_listParts N  sp_unlike sp_number sp_partsKept sp_partsNumber a_prime a_times a_parts = some res) : Met l yX6_listParts wsX6_listParts rm_X6_listParts (pC dC dI cyI cyJ cyZ [.ref q_Sp] sz (wd6 cyI cyJ cyZ q_Sp q_prime q_times q_parts q_Pr sp_unlike sp_number sp_partsKept sp_partsNumber a_prime a_times a_parts)) (va_Qv (fun (_ : Unit) => True) (bW dC dI (fun (u : Unit) => (wd6 cyI cyJ cyZ q_Sp q_prime q_times q_parts q_Pr sp_unlike sp_number res.1 res.2.1 a_prime a_times res.2.2)) (va_A (wd6 cyI cyJ cyZ q_Sp q_prime q_times q_parts q_Pr sp_unlike sp_number sp_partsKept sp_partsNumber a_prime a_times a_parts) sz)) (va_A (wd6 cyI cyJ cyZ q_Sp q_prime q_times q_parts q_Pr sp_unlike sp_number sp_partsKept sp_partsNumber a_prime a_times a_parts) sz)) 0 0 (va_A (wd6 cyI cyJ cyZ q_Sp q_prime q_times q_parts q_Pr sp_unlike sp_number sp_partsKept sp_partsNumber a_prime a_times a_parts) sz) := by
  refine Met.ofW (cc := cX6_listParts) (maxL := 5) (ret := none) (by decide) rfl ?_
  intro p e s m args below meth c s₁ B hml hv
  obtain ⟨rfl, hsz, hP, hG, hD0⟩ := hv
  have hx := B.exec
  have hb := B.bytes
  have hr := B.returns
  have hts := atoms_spec (ws := wsX6_listParts) B.pre
  have hown : s.vm.findClass RX6 = some m.cls := findClass_of_methodNamed B.named
  have hlocks := B.notSynchronized
  subst hsz
  have hD := hD0.self (sz := s.heap.size)
  generalize hAe : va_A (wd6 cyI cyJ cyZ q_Sp q_prime q_times q_parts q_Pr sp_unlike sp_number sp_partsKept sp_partsNumber a_prime a_times a_parts) s.heap.size = A at hD ⊢
  have hA : ∀ q : Nat, s.heap.size ≤ q → A q := fun q h => by rw [← hAe]; exact Or.inr h
  have hS : va_S A s.heap s.heap [] := va_S.rf
  have hl := lv_entry ([.ref q_Sp]) (n := 5) (Nat.le_of_ble_eq_true rfl)
  rw [lg_entry_eq]
  generalize (lg_sl ([.ref q_Sp]) ++ List.replicate (5 - (lg_sl ([.ref q_Sp])).length) Slot.unset).toArray = ls at hl ⊢
  have hl : lv_has ls 5 [(0, .ref q_Sp)] := hl
  exact k_X6_listParts_0 ⟨hx, hb, hr, hml, hown, hts, hlocks, hG, hA⟩ N res q_Sp q_prime q_times q_parts q_Pr sp_unlike sp_number sp_partsKept sp_partsNumber a_prime a_times a_parts  h _ _ hP hD hS _ hl
abbrev rm_X6_partAt : Room := { frames := 2, cells := 0, slots := 0, locals := 51 }
theorem hd_X6_partAt : yX6_partAt.cls ≠ "java/lang/invoke/MethodHandle" ∧ yX6_partAt.cls ≠ "java/lang/invoke/VarHandle" ∧ (parseMethodDescriptor yX6_partAt.desc).map (fun d => d.parameters.length) = some 1 := by decide +kernel
theorem iw_X6_partAt_X6 : ∀ w ∈ wsX60, w ∈ wsX6_partAt := List.forall_mem_cons.mpr ⟨List.mem_of_getElem? (i := 21) rfl, List.forall_mem_cons.mpr ⟨List.mem_of_getElem? (i := 22) rfl, List.forall_mem_cons.mpr ⟨List.mem_of_getElem? (i := 23) rfl, List.forall_mem_cons.mpr ⟨List.mem_of_getElem? (i := 24) rfl, List.forall_mem_cons.mpr ⟨List.mem_of_getElem? (i := 25) rfl, List.forall_mem_cons.mpr ⟨List.mem_of_getElem? (i := 26) rfl, List.forall_mem_cons.mpr ⟨List.mem_of_getElem? (i := 27) rfl, List.forall_mem_cons.mpr ⟨List.mem_of_getElem? (i := 28) rfl, fun _ h => absurd h List.not_mem_nil⟩⟩⟩⟩⟩⟩⟩⟩
def f_X6_partAt (N : Nat) (v1 : Int32) (sp_unlike : Int32) (sp_number : Int64) (sp_partsKept : Int32) (sp_partsNumber : Int64) (a_prime : Nat → Int64) (a_times : Nat → Int32) (a_parts : Nat → Int64) : Option (Int64 × Int32 × Int64 × (Nat → Int64)) :=
  Option.bind (f_X6_listParts N  sp_unlike sp_number sp_partsKept sp_partsNumber a_prime a_times a_parts) fun r1z =>
  if v1 < 0 then
    some ((-4 : Int64), r1z.1, r1z.2.1, r1z.2.2)
  else
    if r1z.1 ≤ v1 then
      some ((-4 : Int64), r1z.1, r1z.2.1, r1z.2.2)
    else
      if (2304 : Int32) ≤ v1 then
        some ((-4 : Int64), r1z.1, r1z.2.1, r1z.2.2)
      else
        if v1 < 0 ∨ 2304 ≤ v1.toNatClampNeg then
          none
        else
          some (r1z.2.2 v1.toNatClampNeg, r1z.1, r1z.2.1, r1z.2.2)
set_option maxRecDepth 100000 in
set_option maxHeartbeats 4000000 in
theorem k_X6_partAt_0 {p : Program} {l : Launch} {e : Env} {s : State} {m : MethodId} {args : Array Value} {below : List Frame} {meth : Method} {c : Code} {dC : Nat → ClassId} {dI : Nat → Nat → Nat} {cyI cyJ cyZ : ClassId} {A : Nat → Prop} (C0 : mC p s m meth c args cX6_partAt (some .long) 2 RX6 wsX6_partAt (gK dC dI cyI cyJ cyZ) A) (N : Nat) (res : Int64 × Int32 × Int64 × (Nat → Int64)) (q_Sp : Nat) (q_prime : Nat) (q_times : Nat) (q_parts : Nat) (q_Pr : Nat) (v1 : Int32) (sp_unlike : Int32) (sp_number : Int64) (sp_partsKept : Int32) (sp_partsNumber : Int64) (a_prime : Nat → Int64) (a_times : Nat → Int32) (a_parts : Nat → Int64) (h : f_X6_partAt N v1 sp_unlike sp_number sp_partsKept sp_partsNumber a_prime a_times a_parts = some res) : ∀ (H : Heap) (locs : List Loc), va_P (dC, dI) vwCl (wd6 cyI cyJ cyZ q_Sp q_prime q_times q_parts q_Pr sp_unlike sp_number sp_partsKept sp_partsNumber a_prime a_times a_parts) H → va_D A (wd6 cyI cyJ cyZ q_Sp q_prime q_times q_parts q_Pr sp_unlike sp_number sp_partsKept sp_partsNumber a_prime a_times a_parts) → va_S A s.heap H locs → ∀ (ls : Array Slot), lv_has ls 2 [(0, .ref q_Sp), (1, .int v1)] → W p l e (headSpec wsX6_partAt rm_X6_partAt).room s m args below meth c H locs 0 0 (MQ below (va_Ql (fun (r : Int64) (_ : Unit) => r = res.1) (bW dC dI (fun (u : Unit) => (wd6 cyI cyJ cyZ q_Sp q_prime q_times q_parts q_Pr sp_unlike sp_number res.2.1 res.2.2.1 a_prime a_times res.2.2.2)) A) A) args s 0 0 A) (F0 m 0 ls []) := by
  obtain ⟨hx, hb, hr, hml, hown, hts, hlocks, hG, hA⟩ := id C0
  have hK := hG.1
  intro H locs hP hD hS ls hl
  unfold f_X6_partAt at h
  refine lv_aload_n hx hb dX6_partAt_0 rfl (lv_at hl 0 rfl) ?_
  obtain ⟨r1z, hr1z, h⟩ := xb_at h
  have hPc := hP.sub (ws' := (wd6 cyI cyJ cyZ q_Sp q_prime q_times q_parts q_Pr sp_unlike sp_number sp_partsKept sp_partsNumber a_prime a_times a_parts)) [0, 1, 2, 3] rfl
  have hDc := hD.sub (ws' := (wd6 cyI cyJ cyZ q_Sp q_prime q_times q_parts q_Pr sp_unlike sp_number sp_partsKept sp_partsNumber a_prime a_times a_parts)) [0, 1, 2, 3] (by decide) rfl
  refine cal_v [0, 1, 2, 3] [] (va_runV (As := []) (rest := []) ⟨hx, hb, hml, hown, hts⟩ (c_X6_listParts l dC dI cyI cyJ cyZ N r1z H.size q_Sp q_prime q_times q_parts q_Pr  sp_unlike sp_number sp_partsKept sp_partsNumber a_prime a_times a_parts hr1z) (cwV 0 hts gX6_partAt_X6_listParts rfl rfl rfl ⟨rfl, hd_X6_listParts⟩ ⟨Nat.le_of_ble_eq_true rfl, Nat.le_of_ble_eq_true rfl⟩) ⟨pC.blind, va_recv hK hPc (ci := 6) (q0 := 0) rfl rfl, pC.pre hPc hG hDc⟩ rfl rfl hl.1 rfl (lv_room (Nat.le_of_ble_eq_true rfl)) dX6_partAt_1 ⟨Nat.zero_le _, Nat.zero_le _⟩) hP hD hS hA rfl rfl rfl (by decide) (fun u2z H locs _ hP hD hS => ?_)
  have hP : va_P (dC, dI) vwCl (wd6 cyI cyJ cyZ q_Sp q_prime q_times q_parts q_Pr sp_unlike sp_number r1z.1 r1z.2.1 a_prime a_times r1z.2.2) H := hP.sub [0, 1, 2, 3] rfl
  have hD : va_D A (wd6 cyI cyJ cyZ q_Sp q_prime q_times q_parts q_Pr sp_unlike sp_number r1z.1 r1z.2.1 a_prime a_times r1z.2.2) := hD.sub [0, 1, 2, 3] (by decide) rfl
  refine lv_iload_n hx hb dX6_partAt_4 rfl (lv_at hl 1 rfl) ?_
  refine lv_if_lt (tgt := 32) hx hb dX6_partAt_5 (by decide) (fun c4z => ?_) (fun c4z => ?_)
  · have h := xt h c4z
    refine lv_ldc2 (v := (-4 : Int64)) hx hb hown (hts (.constantLong RX6 62 (-4)) (List.mem_of_getElem? (i := 3) rfl)) dX6_partAt_32 ?_
    obtain rfl := Option.some.inj h
    exact W.lret (v := (-4 : Int64)) hx hb hr (fun t ht hW => ⟨⟨_, (), rfl, rfl, by rw [ht]; exact hP, hD⟩, hS.F ht⟩) hS.2.2 dX6_partAt_35 hlocks
  · have h := xf h c4z
    refine lv_iload_n hx hb dX6_partAt_8 rfl (lv_at hl 1 rfl) ?_
    refine lv_aload_n hx hb dX6_partAt_9 rfl (lv_at hl 0 rfl) ?_
    refine va_get (D := (dC, dI)) (ci := 6) (v := .int r1z.1) (C := RX6) (T := TX6) (N := 8) hx hb hts iw_X6_partAt_X6 hown hK hP 0 rfl rfl 6 (by decide) (hts (.fieldLink RX6 30 "GoesInto$Split" "partsKept" "I") (List.mem_of_getElem? (i := 1) rfl)) (fun _ h9 => h9) rfl dX6_partAt_10 ?_
    refine lv_icmp_ge (tgt := 32) hx hb dX6_partAt_13 (by decide) (fun c5z => ?_) (fun c5z => ?_)
    · have h := xt h c5z
      refine lv_ldc2 (v := (-4 : Int64)) hx hb hown (hts (.constantLong RX6 62 (-4)) (List.mem_of_getElem? (i := 3) rfl)) dX6_partAt_32 ?_
      obtain rfl := Option.some.inj h
      exact W.lret (v := (-4 : Int64)) hx hb hr (fun t ht hW => ⟨⟨_, (), rfl, rfl, by rw [ht]; exact hP, hD⟩, hS.F ht⟩) hS.2.2 dX6_partAt_35 hlocks
    · have h := xf h c5z
      refine lv_iload_n hx hb dX6_partAt_16 rfl (lv_at hl 1 rfl) ?_
      refine lv_sipush (v := (2304 : Int32)) hx hb dX6_partAt_17 (by decide) ?_
      refine lv_icmp_ge (tgt := 32) hx hb dX6_partAt_20 (by decide) (fun c6z => ?_) (fun c6z => ?_)
      · have h := xt h c6z
        refine lv_ldc2 (v := (-4 : Int64)) hx hb hown (hts (.constantLong RX6 62 (-4)) (List.mem_of_getElem? (i := 3) rfl)) dX6_partAt_32 ?_
        obtain rfl := Option.some.inj h
        exact W.lret (v := (-4 : Int64)) hx hb hr (fun t ht hW => ⟨⟨_, (), rfl, rfl, by rw [ht]; exact hP, hD⟩, hS.F ht⟩) hS.2.2 dX6_partAt_35 hlocks
      · have h := xf h c6z
        refine lv_aload_n hx hb dX6_partAt_23 rfl (lv_at hl 0 rfl) ?_
        refine va_get (D := (dC, dI)) (ci := 6) (v := .ref q_parts) (C := RX6) (T := TX6) (N := 8) hx hb hts iw_X6_partAt_X6 hown hK hP 0 rfl rfl 5 (by decide) (hts (.fieldLink RX6 27 "GoesInto$Split" "parts" "[J") (List.mem_of_getElem? (i := 2) rfl)) (fun _ h9 => h9) rfl dX6_partAt_24 ?_
        refine lv_iload_n hx hb dX6_partAt_27 rfl (lv_at hl 1 rfl) ?_
        obtain ⟨b7z, h⟩ := xn h
        refine va_lald hx hb hK hP 3 1 rfl rfl b7z dX6_partAt_28 ?_
        refine lv_goto (tgt := 35) hx hb dX6_partAt_29 (by decide) ?_
        obtain rfl := Option.some.inj h
        exact W.lret (v := r1z.2.2 v1.toNatClampNeg) hx hb hr (fun t ht hW => ⟨⟨_, (), rfl, rfl, by rw [ht]; exact hP, hD⟩, hS.F ht⟩) hS.2.2 dX6_partAt_35 hlocks
set_option maxRecDepth 100000 in
set_option maxHeartbeats 4000000 in
theorem c_X6_partAt (l : Launch) (dC : Nat → ClassId) (dI : Nat → Nat → Nat) (cyI cyJ cyZ : ClassId) (N : Nat) (res : Int64 × Int32 × Int64 × (Nat → Int64)) (sz : Nat) (q_Sp : Nat) (q_prime : Nat) (q_times : Nat) (q_parts : Nat) (q_Pr : Nat) (v1 : Int32) (sp_unlike : Int32) (sp_number : Int64) (sp_partsKept : Int32) (sp_partsNumber : Int64) (a_prime : Nat → Int64) (a_times : Nat → Int32) (a_parts : Nat → Int64) (h : f_X6_partAt N v1 sp_unlike sp_number sp_partsKept sp_partsNumber a_prime a_times a_parts = some res) : Met l yX6_partAt wsX6_partAt rm_X6_partAt (pC dC dI cyI cyJ cyZ [.ref q_Sp, .int v1] sz (wd6 cyI cyJ cyZ q_Sp q_prime q_times q_parts q_Pr sp_unlike sp_number sp_partsKept sp_partsNumber a_prime a_times a_parts)) (va_Ql (fun (r : Int64) (_ : Unit) => r = res.1) (bW dC dI (fun (u : Unit) => (wd6 cyI cyJ cyZ q_Sp q_prime q_times q_parts q_Pr sp_unlike sp_number res.2.1 res.2.2.1 a_prime a_times res.2.2.2)) (va_A (wd6 cyI cyJ cyZ q_Sp q_prime q_times q_parts q_Pr sp_unlike sp_number sp_partsKept sp_partsNumber a_prime a_times a_parts) sz)) (va_A (wd6 cyI cyJ cyZ q_Sp q_prime q_times q_parts q_Pr sp_unlike sp_number sp_partsKept sp_partsNumber a_prime a_times a_parts) sz)) 0 0 (va_A (wd6 cyI cyJ cyZ q_Sp q_prime q_times q_parts q_Pr sp_unlike sp_number sp_partsKept sp_partsNumber a_prime a_times a_parts) sz) := by
  refine Met.ofW (cc := cX6_partAt) (maxL := 2) (ret := (some .long)) (by decide) rfl ?_
  intro p e s m args below meth c s₁ B hml hv
  obtain ⟨rfl, hsz, hP, hG, hD0⟩ := hv
  have hx := B.exec
  have hb := B.bytes
  have hr := B.returns
  have hts := atoms_spec (ws := wsX6_partAt) B.pre
  have hown : s.vm.findClass RX6 = some m.cls := findClass_of_methodNamed B.named
  have hlocks := B.notSynchronized
  subst hsz
  have hD := hD0.self (sz := s.heap.size)
  generalize hAe : va_A (wd6 cyI cyJ cyZ q_Sp q_prime q_times q_parts q_Pr sp_unlike sp_number sp_partsKept sp_partsNumber a_prime a_times a_parts) s.heap.size = A at hD ⊢
  have hA : ∀ q : Nat, s.heap.size ≤ q → A q := fun q h => by rw [← hAe]; exact Or.inr h
  have hS : va_S A s.heap s.heap [] := va_S.rf
  have hl := lv_entry ([.ref q_Sp, .int v1]) (n := 2) (Nat.le_of_ble_eq_true rfl)
  rw [lg_entry_eq]
  generalize (lg_sl ([.ref q_Sp, .int v1]) ++ List.replicate (2 - (lg_sl ([.ref q_Sp, .int v1])).length) Slot.unset).toArray = ls at hl ⊢
  have hl : lv_has ls 2 [(0, .ref q_Sp), (1, .int v1)] := hl
  exact k_X6_partAt_0 ⟨hx, hb, hr, hml, hown, hts, hlocks, hG, hA⟩ N res q_Sp q_prime q_times q_parts q_Pr v1 sp_unlike sp_number sp_partsKept sp_partsNumber a_prime a_times a_parts  h _ _ hP hD hS _ hl
