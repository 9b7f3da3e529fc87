/-- the cells Ch, told -/
abbrev wd7 (cyI cyJ cyZ : ClassId) (q_Ch : Nat) (q_told : Nat) (q_Sp : Nat) (ch_many : Int32) (ch_kind : Int32) (ch_ending : Int32) (ch_tail : Int32) (ch_round : Int32) (ch_greatest : Int64) (a_told : Nat → Int64) : va_W := [(q_Ch, .inr (0, [.ref q_Sp, .ref q_told, .int ch_many, .int ch_kind, .int ch_ending, .int ch_tail, .int ch_round, .long ch_greatest])), (q_told, .inl (cyJ, 201, .inr (.inl a_told)))]
abbrev rm_X0_placeOf : Room := { frames := 0, cells := 0, slots := 0, locals := 0 }
theorem hd_X0_placeOf : yX0_placeOf.cls ≠ "java/lang/invoke/MethodHandle" ∧ yX0_placeOf.cls ≠ "java/lang/invoke/VarHandle" ∧ (parseMethodDescriptor yX0_placeOf.desc).map (fun d => d.parameters.length) = some 1 := by decide +kernel
theorem iw_X0_placeOf_X0 : ∀ w ∈ wsX00, w ∈ wsX0_placeOf := List.forall_mem_cons.mpr ⟨List.mem_of_getElem? (i := 3) rfl, List.forall_mem_cons.mpr ⟨List.mem_of_getElem? (i := 4) rfl, List.forall_mem_cons.mpr ⟨List.mem_of_getElem? (i := 5) rfl, List.forall_mem_cons.mpr ⟨List.mem_of_getElem? (i := 6) rfl, List.forall_mem_cons.mpr ⟨List.mem_of_getElem? (i := 7) rfl, List.forall_mem_cons.mpr ⟨List.mem_of_getElem? (i := 8) rfl, List.forall_mem_cons.mpr ⟨List.mem_of_getElem? (i := 9) rfl, List.forall_mem_cons.mpr ⟨List.mem_of_getElem? (i := 10) rfl, fun _ h => absurd h List.not_mem_nil⟩⟩⟩⟩⟩⟩⟩⟩
def s_X0_placeOf_2 (N : Nat) (v1 : Int64) (ch_many : Int32) (a_told : Nat → Int64) (k_2 : (Int32) → Option (Int32)) (v3 : Int32) : Option (Int32) :=
  if ch_many ≤ v3 then
    some ch_many
  else
    if (201 : Int32) ≤ v3 then
      some ch_many
    else
      if v3 < 0 ∨ 201 ≤ v3.toNatClampNeg then
        none
      else
        if (a_told v3.toNatClampNeg) = v1 then
          some v3
        else
          xl (v3 + (1 : Int32)) fun y5z =>
          k_2 y5z
def l_X0_placeOf_2 (N : Nat) (v1 : Int64) (ch_many : Int32) (a_told : Nat → Int64) (n : Nat) (z : Int32) : Option (Int32) := lp (fun k z => s_X0_placeOf_2 N v1 ch_many a_told k z) n z
set_option maxRecDepth 100000 in
set_option maxHeartbeats 4000000 in
theorem k_X0_placeOf_2 {p : Program} {l : Launch} {e : Env} {s : State} {m : MethodId} {args : Array Value} {below : List Frame} {meth : Method} {c : Code} {dC : Nat → ClassId} {dI : Nat → Nat → Nat} {cyI cyJ cyZ : ClassId} {A : Nat → Prop} (C0 : mC p s m meth c args cX0_placeOf (some .int) 4 RX0 wsX0_placeOf (gK dC dI cyI cyJ cyZ) A) (N : Nat) (res : Int32) (q_Ch : Nat) (q_told : Nat) (q_Sp : Nat) (v1 : Int64) (ch_many : Int32) (ch_kind : Int32) (ch_ending : Int32) (ch_tail : Int32) (ch_round : Int32) (ch_greatest : Int64) (a_told : Nat → Int64) : ∀ (n : Nat) (v3 : Int32), l_X0_placeOf_2 N v1 ch_many a_told n v3 = some res → ∀ (H : Heap) (locs : List Loc), va_P (dC, dI) vwCl (wd7 cyI cyJ cyZ q_Ch q_told q_Sp ch_many ch_kind ch_ending ch_tail ch_round ch_greatest a_told) H → va_D A (wd7 cyI cyJ cyZ q_Ch q_told q_Sp ch_many ch_kind ch_ending ch_tail ch_round ch_greatest a_told) → va_S A s.heap H locs → ∀ (ls : Array Slot), lv_has ls 4 [(0, .ref q_Ch), (1, .long v1), (3, .int v3)] → W p l e (headSpec wsX0_placeOf rm_X0_placeOf).room s m args below meth c H locs 0 0 (MQ below (va_Qi (fun (r : Int32) (_ : Unit) => r = res) (bW dC dI (fun (u : Unit) => (wd7 cyI cyJ cyZ q_Ch q_told q_Sp ch_many ch_kind ch_ending ch_tail ch_round ch_greatest a_told)) A) A) args s 0 0 A) (F0 m 2 ls []) := by
  obtain ⟨hx, hb, hr, hml, hown, hts, hlocks, hG, hA⟩ := id C0
  have hK := hG.1
  intro n
  induction n with
  | zero =>
    intro v3 h
    cases h
  | succ n ih =>
    intro v3 h H locs hP hD hS ls hl
    have h : s_X0_placeOf_2 N v1 ch_many a_told (l_X0_placeOf_2 N v1 ch_many a_told n) v3 = some res := h
    unfold s_X0_placeOf_2 at h
    refine lv_iload_n hx hb dX0_placeOf_2 rfl (lv_at hl 2 rfl) ?_
    refine lv_aload_n hx hb dX0_placeOf_3 rfl (lv_at hl 0 rfl) ?_
    refine va_get (D := (dC, dI)) (ci := 0) (v := .int ch_many) (C := RX0) (T := TX0) (N := 8) hx hb hts iw_X0_placeOf_X0 hown hK hP 0 rfl rfl 2 (by decide) (hts (.fieldLink RX0 15 "GoesInto$Chain" "many" "I") (List.mem_of_getElem? (i := 1) rfl)) (fun _ h9 => h9) rfl dX0_placeOf_4 ?_
    refine lv_icmp_ge (tgt := 36) hx hb dX0_placeOf_7 (by decide) (fun c1z => ?_) (fun c1z => ?_)
    · have h := xt h c1z
      refine lv_aload_n hx hb dX0_placeOf_36 rfl (lv_at hl 0 rfl) ?_
      refine va_get (D := (dC, dI)) (ci := 0) (v := .int ch_many) (C := RX0) (T := TX0) (N := 8) hx hb hts iw_X0_placeOf_X0 hown hK hP 0 rfl rfl 2 (by decide) (hts (.fieldLink RX0 15 "GoesInto$Chain" "many" "I") (List.mem_of_getElem? (i := 1) rfl)) (fun _ h9 => h9) rfl dX0_placeOf_37 ?_
      obtain rfl := Option.some.inj h
      exact W.iret (v := ch_many) hx hb hr (fun t ht hW => ⟨⟨_, (), rfl, rfl, by rw [ht]; exact hP, hD⟩, hS.F ht⟩) hS.2.2 dX0_placeOf_40 hlocks
    · have h := xf h c1z
      refine lv_iload_n hx hb dX0_placeOf_10 rfl (lv_at hl 2 rfl) ?_
      refine lv_sipush (v := (201 : Int32)) hx hb dX0_placeOf_11 (by decide) ?_
      refine lv_icmp_ge (tgt := 36) hx hb dX0_placeOf_14 (by decide) (fun c2z => ?_) (fun c2z => ?_)
      · have h := xt h c2z
        refine lv_aload_n hx hb dX0_placeOf_36 rfl (lv_at hl 0 rfl) ?_
        refine va_get (D := (dC, dI)) (ci := 0) (v := .int ch_many) (C := RX0) (T := TX0) (N := 8) hx hb hts iw_X0_placeOf_X0 hown hK hP 0 rfl rfl 2 (by decide) (hts (.fieldLink RX0 15 "GoesInto$Chain" "many" "I") (List.mem_of_getElem? (i := 1) rfl)) (fun _ h9 => h9) rfl dX0_placeOf_37 ?_
        obtain rfl := Option.some.inj h
        exact W.iret (v := ch_many) hx hb hr (fun t ht hW => ⟨⟨_, (), rfl, rfl, by rw [ht]; exact hP, hD⟩, hS.F ht⟩) hS.2.2 dX0_placeOf_40 hlocks
      · have h := xf h c2z
        refine lv_aload_n hx hb dX0_placeOf_17 rfl (lv_at hl 0 rfl) ?_
        refine va_get (D := (dC, dI)) (ci := 0) (v := .ref q_told) (C := RX0) (T := TX0) (N := 8) hx hb hts iw_X0_placeOf_X0 hown hK hP 0 rfl rfl 1 (by decide) (hts (.fieldLink RX0 11 "GoesInto$Chain" "told" "[J") (List.mem_of_getElem? (i := 2) rfl)) (fun _ h9 => h9) rfl dX0_placeOf_18 ?_
        refine lv_iload_n hx hb dX0_placeOf_21 rfl (lv_at hl 2 rfl) ?_
        obtain ⟨b3z, h⟩ := xn h
        refine va_lald hx hb hK hP 1 1 rfl rfl b3z dX0_placeOf_22 ?_
        refine lv_lload_n hx hb dX0_placeOf_23 rfl (lv_at hl 1 rfl) ?_
        refine W.lcmp hx hb dX0_placeOf_24 ?_
        refine lv_if_ne (tgt := 30) hx hb dX0_placeOf_25 (by decide) (fun c4z => ?_) (fun c4z => ?_)
        · have c4z := fun z => c4z ((lg_cmp_eq _ _).mpr z)
          have h := xf h c4z
          obtain ⟨y5z, ey5z⟩ : ∃ z : Int32, z = v3 + (1 : Int32) := ⟨_, rfl⟩
          have h := xl_at h ey5z
          refine lv_iinc (v := y5z) (lv' := [(3, .int y5z), (0, .ref q_Ch), (1, .long v1)]) hx hb dX0_placeOf_30 hl (k := 2) rfl (by rw [ey5z]; rfl) (by decide) rfl (fun ls hl => ?_)
          refine lv_goto (tgt := 2) hx hb dX0_placeOf_33 (by decide) ?_
          exact ih y5z h _ _ hP hD hS _ (lv_sub hl [1, 2, 0] rfl)
        · have c4z := (lg_cmp_eq _ _).mp c4z
          have h := xt h c4z
          refine lv_iload_n hx hb dX0_placeOf_28 rfl (lv_at hl 2 rfl) ?_
          obtain rfl := Option.some.inj h
          exact W.iret (v := v3) hx hb hr (fun t ht hW => ⟨⟨_, (), rfl, rfl, by rw [ht]; exact hP, hD⟩, hS.F ht⟩) hS.2.2 dX0_placeOf_29 hlocks
def f_X0_placeOf (N : Nat) (v1 : Int64) (ch_many : Int32) (a_told : Nat → Int64) : Option (Int32) :=
  l_X0_placeOf_2 N v1 ch_many a_told N (0 : Int32)
set_option maxRecDepth 100000 in
set_option maxHeartbeats 4000000 in
theorem k_X0_placeOf_0 {p : Program} {l : Launch} {e : Env} {s : State} {m : MethodId} {args : Array Value} {below : List Frame} {meth : Method} {c : Code} {dC : Nat → ClassId} {dI : Nat → Nat → Nat} {cyI cyJ cyZ : ClassId} {A : Nat → Prop} (C0 : mC p s m meth c args cX0_placeOf (some .int) 4 RX0 wsX0_placeOf (gK dC dI cyI cyJ cyZ) A) (N : Nat) (res : Int32) (q_Ch : Nat) (q_told : Nat) (q_Sp : Nat) (v1 : Int64) (ch_many : Int32) (ch_kind : Int32) (ch_ending : Int32) (ch_tail : Int32) (ch_round : Int32) (ch_greatest : Int64) (a_told : Nat → Int64) (h : f_X0_placeOf N v1 ch_many a_told = some res) : ∀ (H : Heap) (locs : List Loc), va_P (dC, dI) vwCl (wd7 cyI cyJ cyZ q_Ch q_told q_Sp ch_many ch_kind ch_ending ch_tail ch_round ch_greatest a_told) H → va_D A (wd7 cyI cyJ cyZ q_Ch q_told q_Sp ch_many ch_kind ch_ending ch_tail ch_round ch_greatest a_told) → va_S A s.heap H locs → ∀ (ls : Array Slot), lv_has ls 4 [(0, .ref q_Ch), (1, .long v1)] → W p l e (headSpec wsX0_placeOf rm_X0_placeOf).room s m args below meth c H locs 0 0 (MQ below (va_Qi (fun (r : Int32) (_ : Unit) => r = res) (bW dC dI (fun (u : Unit) => (wd7 cyI cyJ cyZ q_Ch q_told q_Sp ch_many ch_kind ch_ending ch_tail ch_round ch_greatest a_told)) A) A) args s 0 0 A) (F0 m 0 ls []) := by
  obtain ⟨hx, hb, hr, hml, hown, hts, hlocks, hG, hA⟩ := id C0
  have hK := hG.1
  intro H locs hP hD hS ls hl
  unfold f_X0_placeOf at h
  refine lv_iconst (v := (0 : Int32)) hx hb dX0_placeOf_0 (by decide) ?_
  refine lv_istore_n (lv' := [(3, .int (0 : Int32)), (0, .ref q_Ch), (1, .long v1)]) hx hb dX0_placeOf_1 rfl hl (by decide) rfl (fun ls hl => ?_)
  exact k_X0_placeOf_2 C0 N res q_Ch q_told q_Sp v1 ch_many ch_kind ch_ending ch_tail ch_round ch_greatest a_told N (0 : Int32) h _ _ hP hD hS _ (lv_sub hl [1, 2, 0] rfl)
set_option maxRecDepth 100000 in
set_option maxHeartbeats 4000000 in
theorem c_X0_placeOf (l : Launch) (dC : Nat → ClassId) (dI : Nat → Nat → Nat) (cyI cyJ cyZ : ClassId) (N : Nat) (res : Int32) (sz : Nat) (q_Ch : Nat) (q_told : Nat) (q_Sp : Nat) (v1 : Int64) (ch_many : Int32) (ch_kind : Int32) (ch_ending : Int32) (ch_tail : Int32) (ch_round : Int32) (ch_greatest : Int64) (a_told : Nat → Int64) (h : f_X0_placeOf N v1 ch_many a_told = some res) : Met l yX0_placeOf wsX0_placeOf rm_X0_placeOf (pC dC dI cyI cyJ cyZ [.ref q_Ch, .long v1] sz (wd7 cyI cyJ cyZ q_Ch q_told q_Sp ch_many ch_kind ch_ending ch_tail ch_round ch_greatest a_told)) (va_Qi (fun (r : Int32) (_ : Unit) => r = res) (bW dC dI (fun (u : Unit) => (wd7 cyI cyJ cyZ q_Ch q_told q_Sp ch_many ch_kind ch_ending ch_tail ch_round ch_greatest a_told)) (va_A (wd7 cyI cyJ cyZ q_Ch q_told q_Sp ch_many ch_kind ch_ending ch_tail ch_round ch_greatest a_told) sz)) (va_A (wd7 cyI cyJ cyZ q_Ch q_told q_Sp ch_many ch_kind ch_ending ch_tail ch_round ch_greatest a_told) sz)) 0 0 (va_A (wd7 cyI cyJ cyZ q_Ch q_told q_Sp ch_many ch_kind ch_ending ch_tail ch_round ch_greatest a_told) sz) := by
  refine Met.ofW (cc := cX0_placeOf) (maxL := 4) (ret := (some .int)) (by decide) rfl ?_
  intro p e s m args below meth c s₁ B hml hv
  obtain ⟨rfl, hsz, hP, hG, hD0⟩ := hv
  have hx := B.exec
  have hb := B.bytes
  have hr := B.returns
  have hts := atoms_spec (ws := wsX0_placeOf) B.pre
  have hown : s.vm.findClass RX0 = some m.cls := findClass_of_methodNamed B.named
  have hlocks := B.notSynchronized
  subst hsz
  have hD := hD0.self (sz := s.heap.size)
  generalize hAe : va_A (wd7 cyI cyJ cyZ q_Ch q_told q_Sp ch_many ch_kind ch_ending ch_tail ch_round ch_greatest a_told) s.heap.size = A at hD ⊢
  have hA : ∀ q : Nat, s.heap.size ≤ q → A q := fun q h => by rw [← hAe]; exact Or.inr h
  have hS : va_S A s.heap s.heap [] := va_S.rf
  have hl := lv_entry ([.ref q_Ch, .long v1]) (n := 4) (Nat.le_of_ble_eq_true rfl)
  rw [lg_entry_eq]
  generalize (lg_sl ([.ref q_Ch, .long v1]) ++ List.replicate (4 - (lg_sl ([.ref q_Ch, .long v1])).length) Slot.unset).toArray = ls at hl ⊢
  have hl : lv_has ls 4 [(0, .ref q_Ch), (1, .long v1)] := hl
  exact k_X0_placeOf_0 ⟨hx, hb, hr, hml, hown, hts, hlocks, hG, hA⟩ N res q_Ch q_told q_Sp v1 ch_many ch_kind ch_ending ch_tail ch_round ch_greatest a_told  h _ _ hP hD hS _ hl
abbrev rm_X0_goesOn : Room := { frames := 1, cells := 0, slots := 0, locals := 24 }
theorem hd_X0_goesOn : yX0_goesOn.cls ≠ "java/lang/invoke/MethodHandle" ∧ yX0_goesOn.cls ≠ "java/lang/invoke/VarHandle" ∧ (parseMethodDescriptor yX0_goesOn.desc).map (fun d => d.parameters.length) = some 1 := by decide +kernel
theorem iw_X0_goesOn_X0 : ∀ w ∈ wsX00, w ∈ wsX0_goesOn := List.forall_mem_cons.mpr ⟨List.mem_of_getElem? (i := 17) rfl, List.forall_mem_cons.mpr ⟨List.mem_of_getElem? (i := 18) rfl, List.forall_mem_cons.mpr ⟨List.mem_of_getElem? (i := 19) rfl, List.forall_mem_cons.mpr ⟨List.mem_of_getElem? (i := 20) rfl, List.forall_mem_cons.mpr ⟨List.mem_of_getElem? (i := 21) rfl, List.forall_mem_cons.mpr ⟨List.mem_of_getElem? (i := 22) rfl, List.forall_mem_cons.mpr ⟨List.mem_of_getElem? (i := 23) rfl, List.forall_mem_cons.mpr ⟨List.mem_of_getElem? (i := 24) rfl, fun _ h => absurd h List.not_mem_nil⟩⟩⟩⟩⟩⟩⟩⟩
def j_X0_goesOn_36 (N : Nat) (s0 : Int32) (ch_many : Int32) (ch_round : Int32) (ch_greatest : Int64) (a_told : Nat → Int64) : Option (Int32 × Int32 × Int32 × Int32 × Int32 × Int64 × (Nat → Int64)) :=
  some ((0 : Int32), ch_many, s0, ch_many, ch_round, ch_greatest, a_told)
set_option maxRecDepth 100000 in
set_option maxHeartbeats 4000000 in
theorem k_X0_goesOn_36 {p : Program} {l : Launch} {e : Env} {s : State} {m : MethodId} {args : Array Value} {below : List Frame} {meth : Method} {c : Code} {dC : Nat → ClassId} {dI : Nat → Nat → Nat} {cyI cyJ cyZ : ClassId} {A : Nat → Prop} (C0 : mC p s m meth c args cX0_goesOn (some .boolean) 4 RX0 wsX0_goesOn (gK dC dI cyI cyJ cyZ) A) (N : Nat) (res : Int32 × Int32 × Int32 × Int32 × Int32 × Int64 × (Nat → Int64)) (q_Ch : Nat) (q_told : Nat) (q_Sp : Nat) (s0 : Int32) (ch_many : Int32) (ch_kind : Int32) (ch_ending : Int32) (ch_tail : Int32) (ch_round : Int32) (ch_greatest : Int64) (a_told : Nat → Int64) (h : j_X0_goesOn_36 N s0 ch_many ch_round ch_greatest a_told = some res) : ∀ (H : Heap) (locs : List Loc), va_P (dC, dI) vwCl (wd7 cyI cyJ cyZ q_Ch q_told q_Sp ch_many ch_kind ch_ending ch_tail ch_round ch_greatest a_told) H → va_D A (wd7 cyI cyJ cyZ q_Ch q_told q_Sp ch_many ch_kind ch_ending ch_tail ch_round ch_greatest a_told) → va_S A s.heap H locs → ∀ (ls : Array Slot), lv_has ls 4 [(0, .ref q_Ch)] → W p l e (headSpec wsX0_goesOn rm_X0_goesOn).room s m args below meth c H locs 0 0 (MQ below (va_Qi (fun (r : Int32) (_ : Unit) => r = res.1) (bW dC dI (fun (u : Unit) => (wd7 cyI cyJ cyZ q_Ch q_told q_Sp res.2.1 ch_kind res.2.2.1 res.2.2.2.1 res.2.2.2.2.1 res.2.2.2.2.2.1 res.2.2.2.2.2.2)) A) A) args s 0 0 A) (F0 m 36 ls [.int s0, .ref q_Ch]) := by
  obtain ⟨hx, hb, hr, hml, hown, hts, hlocks, hG, hA⟩ := id C0
  have hK := hG.1
  intro H locs hP hD hS ls hl
  unfold j_X0_goesOn_36 at h
  refine va_put (D := (dC, dI)) (ci := 0) (v := .int s0) (ty := .int) (C := RX0) (T := TX0) (N := 8) hx hb hts iw_X0_goesOn_X0 tyX0 tyX0_ok nmX0 hown hK hP hD hS 0 rfl rfl 4 (by decide) (hts (.fieldLink RX0 22 "GoesInto$Chain" "ending" "I") (List.mem_of_getElem? (i := 3) rfl)) (fun _ h9 => h9) rfl (tyX0_ok 4 (by decide)) rfl rfl (Nat.le_of_ble_eq_true rfl) dX0_goesOn_36 (fun H locs hP hD hS => ?_)
  have hP : va_P (dC, dI) vwCl (wd7 cyI cyJ cyZ q_Ch q_told q_Sp ch_many ch_kind s0 ch_tail ch_round ch_greatest a_told) H := hP
  have hD : va_D A (wd7 cyI cyJ cyZ q_Ch q_told q_Sp ch_many ch_kind s0 ch_tail ch_round ch_greatest a_told) := hD
  refine lv_aload_n hx hb dX0_goesOn_39 rfl (lv_at hl 0 rfl) ?_
  refine lv_aload_n hx hb dX0_goesOn_40 rfl (lv_at hl 0 rfl) ?_
  refine va_get (D := (dC, dI)) (ci := 0) (v := .int ch_many) (C := RX0) (T := TX0) (N := 8) hx hb hts iw_X0_goesOn_X0 hown hK hP 0 rfl rfl 2 (by decide) (hts (.fieldLink RX0 15 "GoesInto$Chain" "many" "I") (List.mem_of_getElem? (i := 2) rfl)) (fun _ h9 => h9) rfl dX0_goesOn_41 ?_
  refine va_put (D := (dC, dI)) (ci := 0) (v := .int ch_many) (ty := .int) (C := RX0) (T := TX0) (N := 8) hx hb hts iw_X0_goesOn_X0 tyX0 tyX0_ok nmX0 hown hK hP hD hS 0 rfl rfl 5 (by decide) (hts (.fieldLink RX0 25 "GoesInto$Chain" "tail" "I") (List.mem_of_getElem? (i := 4) rfl)) (fun _ h9 => h9) rfl (tyX0_ok 5 (by decide)) rfl rfl (Nat.le_of_ble_eq_true rfl) dX0_goesOn_44 (fun H locs hP hD hS => ?_)
  have hP : va_P (dC, dI) vwCl (wd7 cyI cyJ cyZ q_Ch q_told q_Sp ch_many ch_kind s0 ch_many ch_round ch_greatest a_told) H := hP
  have hD : va_D A (wd7 cyI cyJ cyZ q_Ch q_told q_Sp ch_many ch_kind s0 ch_many ch_round ch_greatest a_told) := hD
  refine lv_iconst (v := (0 : Int32)) hx hb dX0_goesOn_47 (by decide) ?_
  obtain rfl := Option.some.inj h
  exact W.zret (v := (0 : Int32)) hx hb hr rfl (fun t ht hW => ⟨⟨_, (), rfl, rfl, by rw [ht]; exact hP, hD⟩, hS.F ht⟩) hS.2.2 dX0_goesOn_48 hlocks
def j_X0_goesOn_24 (N : Nat) (v1 : Int64) (ch_many : Int32) (ch_round : Int32) (ch_greatest : Int64) (a_told : Nat → Int64) : Option (Int32 × Int32 × Int32 × Int32 × Int32 × Int64 × (Nat → Int64)) :=
  if v1 = (0 : Int64) then
    j_X0_goesOn_36 N (0 : Int32) ch_many ch_round ch_greatest a_told
  else
    j_X0_goesOn_36 N (2 : Int32) ch_many ch_round ch_greatest a_told
set_option maxRecDepth 100000 in
set_option maxHeartbeats 4000000 in
theorem k_X0_goesOn_24 {p : Program} {l : Launch} {e : Env} {s : State} {m : MethodId} {args : Array Value} {below : List Frame} {meth : Method} {c : Code} {dC : Nat → ClassId} {dI : Nat → Nat → Nat} {cyI cyJ cyZ : ClassId} {A : Nat → Prop} (C0 : mC p s m meth c args cX0_goesOn (some .boolean) 4 RX0 wsX0_goesOn (gK dC dI cyI cyJ cyZ) A) (N : Nat) (res : Int32 × Int32 × Int32 × Int32 × Int32 × Int64 × (Nat → Int64)) (q_Ch : Nat) (q_told : Nat) (q_Sp : Nat) (v1 : Int64) (ch_many : Int32) (ch_kind : Int32) (ch_ending : Int32) (ch_tail : Int32) (ch_round : Int32) (ch_greatest : Int64) (a_told : Nat → Int64) (h : j_X0_goesOn_24 N v1 ch_many ch_round ch_greatest a_told = some res) : ∀ (H : Heap) (locs : List Loc), va_P (dC, dI) vwCl (wd7 cyI cyJ cyZ q_Ch q_told q_Sp ch_many ch_kind ch_ending ch_tail ch_round ch_greatest a_told) H → va_D A (wd7 cyI cyJ cyZ q_Ch q_told q_Sp ch_many ch_kind ch_ending ch_tail ch_round ch_greatest a_told) → va_S A s.heap H locs → ∀ (ls : Array Slot), lv_has ls 4 [(0, .ref q_Ch), (1, .long v1)] → W p l e (headSpec wsX0_goesOn rm_X0_goesOn).room s m args below meth c H locs 0 0 (MQ below (va_Qi (fun (r : Int32) (_ : Unit) => r = res.1) (bW dC dI (fun (u : Unit) => (wd7 cyI cyJ cyZ q_Ch q_told q_Sp res.2.1 ch_kind res.2.2.1 res.2.2.2.1 res.2.2.2.2.1 res.2.2.2.2.2.1 res.2.2.2.2.2.2)) A) A) args s 0 0 A) (F0 m 24 ls []) := by
  obtain ⟨hx, hb, hr, hml, hown, hts, hlocks, hG, hA⟩ := id C0
  have hK := hG.1
  intro H locs hP hD hS ls hl
  unfold j_X0_goesOn_24 at h
  refine lv_aload_n hx hb dX0_goesOn_24 rfl (lv_at hl 0 rfl) ?_
  refine lv_lload_n hx hb dX0_goesOn_25 rfl (lv_at hl 1 rfl) ?_
  refine lv_lconst (v := (0 : Int64)) hx hb dX0_goesOn_26 (by decide) ?_
  refine W.lcmp hx hb dX0_goesOn_27 ?_
  refine lv_if_ne (tgt := 35) hx hb dX0_goesOn_28 (by decide) (fun c2z => ?_) (fun c2z => ?_)
  · have c2z := fun z => c2z ((lg_cmp_eq _ _).mpr z)
    have h := xf h c2z
    refine lv_iconst (v := (2 : Int32)) hx hb dX0_goesOn_35 (by decide) ?_
    exact k_X0_goesOn_36 C0 N res q_Ch q_told q_Sp (2 : Int32) ch_many ch_kind ch_ending ch_tail ch_round ch_greatest a_told  h _ _ hP hD hS _ (lv_sub hl [0] rfl)
  · have c2z := (lg_cmp_eq _ _).mp c2z
    have h := xt h c2z
    refine lv_iconst (v := (0 : Int32)) hx hb dX0_goesOn_31 (by decide) ?_
    refine lv_goto (tgt := 36) hx hb dX0_goesOn_32 (by decide) ?_
    exact k_X0_goesOn_36 C0 N res q_Ch q_told q_Sp (0 : Int32) ch_many ch_kind ch_ending ch_tail ch_round ch_greatest a_told  h _ _ hP hD hS _ (lv_sub hl [0] rfl)
def f_X0_goesOn (N : Nat) (v1 : Int64) (ch_many : Int32) (ch_ending : Int32) (ch_tail : Int32) (ch_round : Int32) (ch_greatest : Int64) (a_told : Nat → Int64) : Option (Int32 × Int32 × Int32 × Int32 × Int32 × Int64 × (Nat → Int64)) :=
  if v1 = (0 : Int64) then
    j_X0_goesOn_24 N v1 ch_many ch_round ch_greatest a_told
  else
    if (10000000000 : Int64) < v1 then
      j_X0_goesOn_24 N v1 ch_many ch_round ch_greatest a_told
    else
      if ch_many < (201 : Int32) then
        Option.bind (f_X0_placeOf N v1 ch_many a_told) fun r5z =>
        if ch_many ≤ r5z then
          if ch_many < 0 ∨ 201 ≤ ch_many.toNatClampNeg then
            none
          else
            xl (ch_many + (1 : Int32)) fun y10z =>
            xl (if v1 < ch_greatest then ch_greatest else v1) fun y11z =>
            some ((1 : Int32), y10z, ch_ending, ch_tail, ch_round, y11z, vp_updL a_told ch_many.toNatClampNeg v1)
        else
          xl (ch_many - r5z) fun y12z =>
          some ((0 : Int32), ch_many, (1 : Int32), r5z, y12z, ch_greatest, a_told)
      else
        j_X0_goesOn_24 N v1 ch_many ch_round ch_greatest a_told
set_option maxRecDepth 100000 in
set_option maxHeartbeats 4000000 in
theorem k_X0_goesOn_0 {p : Program} {l : Launch} {e : Env} {s : State} {m : MethodId} {args : Array Value} {below : List Frame} {meth : Method} {c : Code} {dC : Nat → ClassId} {dI : Nat → Nat → Nat} {cyI cyJ cyZ : ClassId} {A : Nat → Prop} (C0 : mC p s m meth c args cX0_goesOn (some .boolean) 4 RX0 wsX0_goesOn (gK dC dI cyI cyJ cyZ) A) (N : Nat) (res : Int32 × Int32 × Int32 × Int32 × Int32 × Int64 × (Nat → Int64)) (q_Ch : Nat) (q_told : Nat) (q_Sp : Nat) (v1 : Int64) (ch_many : Int32) (ch_kind : Int32) (ch_ending : Int32) (ch_tail : Int32) (ch_round : Int32) (ch_greatest : Int64) (a_told : Nat → Int64) (h : f_X0_goesOn N v1 ch_many ch_ending ch_tail ch_round ch_greatest a_told = some res) : ∀ (H : Heap) (locs : List Loc), va_P (dC, dI) vwCl (wd7 cyI cyJ cyZ q_Ch q_told q_Sp ch_many ch_kind ch_ending ch_tail ch_round ch_greatest a_told) H → va_D A (wd7 cyI cyJ cyZ q_Ch q_told q_Sp ch_many ch_kind ch_ending ch_tail ch_round ch_greatest a_told) → va_S A s.heap H locs → ∀ (ls : Array Slot), lv_has ls 4 [(0, .ref q_Ch), (1, .long v1)] → W p l e (headSpec wsX0_goesOn rm_X0_goesOn).room s m args below meth c H locs 0 0 (MQ below (va_Qi (fun (r : Int32) (_ : Unit) => r = res.1) (bW dC dI (fun (u : Unit) => (wd7 cyI cyJ cyZ q_Ch q_told q_Sp res.2.1 ch_kind res.2.2.1 res.2.2.2.1 res.2.2.2.2.1 res.2.2.2.2.2.1 res.2.2.2.2.2.2)) A) A) args s 0 0 A) (F0 m 0 ls []) := by
  obtain ⟨hx, hb, hr, hml, hown, hts, hlocks, hG, hA⟩ := id C0
  have hK := hG.1
  intro H locs hP hD hS ls hl
  unfold f_X0_goesOn at h
  refine lv_lload_n hx hb dX0_goesOn_0 rfl (lv_at hl 1 rfl) ?_
  refine lv_lconst (v := (0 : Int64)) hx hb dX0_goesOn_1 (by decide) ?_
  refine W.lcmp hx hb dX0_goesOn_2 ?_
  refine lv_if_eq (tgt := 24) hx hb dX0_goesOn_3 (by decide) (fun c1z => ?_) (fun c1z => ?_)
  · have c1z := (lg_cmp_eq _ _).mp c1z
    have h := xt h c1z
    exact k_X0_goesOn_24 C0 N res q_Ch q_told q_Sp v1 ch_many ch_kind ch_ending ch_tail ch_round ch_greatest a_told  h _ _ hP hD hS _ (lv_sub hl [0, 1] rfl)
  · have c1z := fun z => c1z ((lg_cmp_eq _ _).mpr z)
    have h := xf h c1z
    refine lv_lload_n hx hb dX0_goesOn_6 rfl (lv_at hl 1 rfl) ?_
    refine lv_ldc2 (v := (10000000000 : Int64)) hx hb hown (hts (.constantLong RX0 49 (10000000000)) (List.mem_of_getElem? (i := 1) rfl)) dX0_goesOn_7 ?_
    refine W.lcmp hx hb dX0_goesOn_10 ?_
    refine lv_if_gt (tgt := 24) hx hb dX0_goesOn_11 (by decide) (fun c3z => ?_) (fun c3z => ?_)
    · have c3z := (lg_cmp_gt _ _).mp c3z
      have h := xt h c3z
      exact k_X0_goesOn_24 C0 N res q_Ch q_told q_Sp v1 ch_many ch_kind ch_ending ch_tail ch_round ch_greatest a_told  h _ _ hP hD hS _ (lv_sub hl [0, 1] rfl)
    · have c3z := fun z => c3z ((lg_cmp_gt _ _).mpr z)
      have h := xf h c3z
      refine lv_aload_n hx hb dX0_goesOn_14 rfl (lv_at hl 0 rfl) ?_
      refine va_get (D := (dC, dI)) (ci := 0) (v := .int ch_many) (C := RX0) (T := TX0) (N := 8) hx hb hts iw_X0_goesOn_X0 hown hK hP 0 rfl rfl 2 (by decide) (hts (.fieldLink RX0 15 "GoesInto$Chain" "many" "I") (List.mem_of_getElem? (i := 2) rfl)) (fun _ h9 => h9) rfl dX0_goesOn_15 ?_
      refine lv_sipush (v := (201 : Int32)) hx hb dX0_goesOn_18 (by decide) ?_
      refine lv_icmp_lt (tgt := 49) hx hb dX0_goesOn_21 (by decide) (fun c4z => ?_) (fun c4z => ?_)
      · have h := xt h c4z
        refine lv_aload_n hx hb dX0_goesOn_49 rfl (lv_at hl 0 rfl) ?_
        refine lv_lload_n hx hb dX0_goesOn_50 rfl (lv_at hl 1 rfl) ?_
        obtain ⟨r5z, hr5z, h⟩ := xb_at h
        have hPc := hP.sub (ws' := (wd7 cyI cyJ cyZ q_Ch q_told q_Sp ch_many ch_kind ch_ending ch_tail ch_round ch_greatest a_told)) [0, 1] rfl
        have hDc := hD.sub (ws' := (wd7 cyI cyJ cyZ q_Ch q_told q_Sp ch_many ch_kind ch_ending ch_tail ch_round ch_greatest a_told)) [0, 1] (by decide) rfl
        refine cal_i [0, 1] [] (va_runV (As := [.long v1]) (rest := []) ⟨hx, hb, hml, hown, hts⟩ (c_X0_placeOf l dC dI cyI cyJ cyZ N r5z H.size q_Ch q_told q_Sp v1 ch_many ch_kind ch_ending ch_tail ch_round ch_greatest a_told hr5z) (cwV 1 hts gX0_goesOn_X0_placeOf rfl rfl rfl ⟨rfl, hd_X0_placeOf⟩ ⟨Nat.le_of_ble_eq_true rfl, Nat.le_of_ble_eq_true rfl⟩) ⟨pC.blind, va_recv hK hPc (ci := 0) (q0 := 0) rfl rfl, pC.pre hPc hG hDc⟩ rfl rfl hl.1 rfl (lv_room (Nat.le_of_ble_eq_true rfl)) dX0_goesOn_51 ⟨Nat.zero_le _, Nat.zero_le _⟩) hP hD hS hA rfl rfl rfl (by decide) (fun x7z u6z H locs hw hP hD hS => ?_)
        obtain rfl := hw.symm
        have hP : va_P (dC, dI) vwCl (wd7 cyI cyJ cyZ q_Ch q_told q_Sp ch_many ch_kind ch_ending ch_tail ch_round ch_greatest a_told) H := hP.sub [0, 1] rfl
        have hD : va_D A (wd7 cyI cyJ cyZ q_Ch q_told q_Sp ch_many ch_kind ch_ending ch_tail ch_round ch_greatest a_told) := hD.sub [0, 1] (by decide) rfl
        refine lv_istore_n (lv' := [(3, .int r5z), (0, .ref q_Ch), (1, .long v1)]) hx hb dX0_goesOn_54 rfl hl (by decide) rfl (fun ls hl => ?_)
        refine lv_iload_n hx hb dX0_goesOn_55 rfl (lv_at hl 0 rfl) ?_
        refine lv_aload_n hx hb dX0_goesOn_56 rfl (lv_at hl 1 rfl) ?_
        refine va_get (D := (dC, dI)) (ci := 0) (v := .int ch_many) (C := RX0) (T := TX0) (N := 8) hx hb hts iw_X0_goesOn_X0 hown hK hP 0 rfl rfl 2 (by decide) (hts (.fieldLink RX0 15 "GoesInto$Chain" "many" "I") (List.mem_of_getElem? (i := 2) rfl)) (fun _ h9 => h9) rfl dX0_goesOn_57 ?_
        refine lv_icmp_ge (tgt := 85) hx hb dX0_goesOn_60 (by decide) (fun c8z => ?_) (fun c8z => ?_)
        · have h := xt h c8z
          refine lv_aload_n hx hb dX0_goesOn_85 rfl (lv_at hl 1 rfl) ?_
          refine va_get (D := (dC, dI)) (ci := 0) (v := .ref q_told) (C := RX0) (T := TX0) (N := 8) hx hb hts iw_X0_goesOn_X0 hown hK hP 0 rfl rfl 1 (by decide) (hts (.fieldLink RX0 11 "GoesInto$Chain" "told" "[J") (List.mem_of_getElem? (i := 6) rfl)) (fun _ h9 => h9) rfl dX0_goesOn_86 ?_
          refine lv_aload_n hx hb dX0_goesOn_89 rfl (lv_at hl 1 rfl) ?_
          refine va_get (D := (dC, dI)) (ci := 0) (v := .int ch_many) (C := RX0) (T := TX0) (N := 8) hx hb hts iw_X0_goesOn_X0 hown hK hP 0 rfl rfl 2 (by decide) (hts (.fieldLink RX0 15 "GoesInto$Chain" "many" "I") (List.mem_of_getElem? (i := 2) rfl)) (fun _ h9 => h9) rfl dX0_goesOn_90 ?_
          refine lv_lload_n hx hb dX0_goesOn_93 rfl (lv_at hl 2 rfl) ?_
          obtain ⟨b9z, h⟩ := xn h
          refine va_last hx hb hK hP hD hS 1 1 rfl rfl b9z dX0_goesOn_94 (fun H locs hP hD hS => ?_)
          have hP : va_P (dC, dI) vwCl (wd7 cyI cyJ cyZ q_Ch q_told q_Sp ch_many ch_kind ch_ending ch_tail ch_round ch_greatest (vp_updL a_told ch_many.toNatClampNeg v1)) H := hP
          have hD : va_D A (wd7 cyI cyJ cyZ q_Ch q_told q_Sp ch_many ch_kind ch_ending ch_tail ch_round ch_greatest (vp_updL a_told ch_many.toNatClampNeg v1)) := hD
          refine lv_aload_n hx hb dX0_goesOn_95 rfl (lv_at hl 1 rfl) ?_
          refine lv_dup hx hb dX0_goesOn_96 rfl ?_
          refine va_get (D := (dC, dI)) (ci := 0) (v := .int ch_many) (C := RX0) (T := TX0) (N := 8) hx hb hts iw_X0_goesOn_X0 hown hK hP 0 rfl rfl 2 (by decide) (hts (.fieldLink RX0 15 "GoesInto$Chain" "many" "I") (List.mem_of_getElem? (i := 2) rfl)) (fun _ h9 => h9) rfl dX0_goesOn_97 ?_
          refine lv_iconst (v := (1 : Int32)) hx hb dX0_goesOn_100 (by decide) ?_
          refine lv_iadd hx hb dX0_goesOn_101 ?_
          refine lv_topi (fun y10z ey10z => ?_)
          have h := xl_at h ey10z
          refine va_put (D := (dC, dI)) (ci := 0) (v := .int y10z) (ty := .int) (C := RX0) (T := TX0) (N := 8) hx hb hts iw_X0_goesOn_X0 tyX0 tyX0_ok nmX0 hown hK hP hD hS 0 rfl rfl 2 (by decide) (hts (.fieldLink RX0 15 "GoesInto$Chain" "many" "I") (List.mem_of_getElem? (i := 2) rfl)) (fun _ h9 => h9) rfl (tyX0_ok 2 (by decide)) rfl rfl (Nat.le_of_ble_eq_true rfl) dX0_goesOn_102 (fun H locs hP hD hS => ?_)
          have hP : va_P (dC, dI) vwCl (wd7 cyI cyJ cyZ q_Ch q_told q_Sp y10z ch_kind ch_ending ch_tail ch_round ch_greatest (vp_updL a_told ch_many.toNatClampNeg v1)) H := hP
          have hD : va_D A (wd7 cyI cyJ cyZ q_Ch q_told q_Sp y10z ch_kind ch_ending ch_tail ch_round ch_greatest (vp_updL a_told ch_many.toNatClampNeg v1)) := hD
          refine lv_aload_n hx hb dX0_goesOn_105 rfl (lv_at hl 1 rfl) ?_
          refine lv_aload_n hx hb dX0_goesOn_106 rfl (lv_at hl 1 rfl) ?_
          refine va_get (D := (dC, dI)) (ci := 0) (v := .long ch_greatest) (C := RX0) (T := TX0) (N := 8) hx hb hts iw_X0_goesOn_X0 hown hK hP 0 rfl rfl 7 (by decide) (hts (.fieldLink RX0 31 "GoesInto$Chain" "greatest" "J") (List.mem_of_getElem? (i := 7) rfl)) (fun _ h9 => h9) rfl dX0_goesOn_107 ?_
          refine lv_lload_n hx hb dX0_goesOn_110 rfl (lv_at hl 2 rfl) ?_
          refine va_mmax_long hx hb (hml.trans hl.1.symm) hown (hts (.methodLink RX0 55 Lib.MathLoose.max_long.x) (List.mem_of_getElem? (i := 8) rfl)) (hts (.static Lib.MathLoose.max_long.x) (List.mem_of_getElem? (i := 9) rfl)) (hts (.initialized "java/lang/Math") (List.mem_of_getElem? (i := 10) rfl)) (hts (.code Lib.MathLoose.max_long.x Lib.MathLoose.max_long.code 4 (some .long)) (List.mem_of_getElem? (i := 11) rfl)) (Nat.le_of_ble_eq_true rfl) (Nat.le_of_ble_eq_true rfl) (Nat.zero_le _) (Nat.zero_le _) dX0_goesOn_111 ?_
          refine lv_topl (fun y11z ey11z => ?_)
          have h := xl_at h ey11z
          refine va_put (D := (dC, dI)) (ci := 0) (v := .long y11z) (ty := .long) (C := RX0) (T := TX0) (N := 8) hx hb hts iw_X0_goesOn_X0 tyX0 tyX0_ok nmX0 hown hK hP hD hS 0 rfl rfl 7 (by decide) (hts (.fieldLink RX0 31 "GoesInto$Chain" "greatest" "J") (List.mem_of_getElem? (i := 7) rfl)) (fun _ h9 => h9) rfl (tyX0_ok 7 (by decide)) rfl rfl (Nat.le_of_ble_eq_true rfl) dX0_goesOn_114 (fun H locs hP hD hS => ?_)
          have hP : va_P (dC, dI) vwCl (wd7 cyI cyJ cyZ q_Ch q_told q_Sp y10z ch_kind ch_ending ch_tail ch_round y11z (vp_updL a_told ch_many.toNatClampNeg v1)) H := hP
          have hD : va_D A (wd7 cyI cyJ cyZ q_Ch q_told q_Sp y10z ch_kind ch_ending ch_tail ch_round y11z (vp_updL a_told ch_many.toNatClampNeg v1)) := hD
          refine lv_iconst (v := (1 : Int32)) hx hb dX0_goesOn_117 (by decide) ?_
          obtain rfl := Option.some.inj h
          exact W.zret (v := (1 : Int32)) hx hb hr rfl (fun t ht hW => ⟨⟨_, (), rfl, rfl, by rw [ht]; exact hP, hD⟩, hS.F ht⟩) hS.2.2 dX0_goesOn_118 hlocks
        · have h := xf h c8z
          refine lv_aload_n hx hb dX0_goesOn_63 rfl (lv_at hl 1 rfl) ?_
          refine lv_iconst (v := (1 : Int32)) hx hb dX0_goesOn_64 (by decide) ?_
          refine va_put (D := (dC, dI)) (ci := 0) (v := .int (1 : Int32)) (ty := .int) (C := RX0) (T := TX0) (N := 8) hx hb hts iw_X0_goesOn_X0 tyX0 tyX0_ok nmX0 hown hK hP hD hS 0 rfl rfl 4 (by decide) (hts (.fieldLink RX0 22 "GoesInto$Chain" "ending" "I") (List.mem_of_getElem? (i := 3) rfl)) (fun _ h9 => h9) rfl (tyX0_ok 4 (by decide)) rfl rfl (Nat.le_of_ble_eq_true rfl) dX0_goesOn_65 (fun H locs hP hD hS => ?_)
          have hP : va_P (dC, dI) vwCl (wd7 cyI cyJ cyZ q_Ch q_told q_Sp ch_many ch_kind (1 : Int32) ch_tail ch_round ch_greatest a_told) H := hP
          have hD : va_D A (wd7 cyI cyJ cyZ q_Ch q_told q_Sp ch_many ch_kind (1 : Int32) ch_tail ch_round ch_greatest a_told) := hD
          refine lv_aload_n hx hb dX0_goesOn_68 rfl (lv_at hl 1 rfl) ?_
          refine lv_iload_n hx hb dX0_goesOn_69 rfl (lv_at hl 0 rfl) ?_
          refine va_put (D := (dC, dI)) (ci := 0) (v := .int r5z) (ty := .int) (C := RX0) (T := TX0) (N := 8) hx hb hts iw_X0_goesOn_X0 tyX0 tyX0_ok nmX0 hown hK hP hD hS 0 rfl rfl 5 (by decide) (hts (.fieldLink RX0 25 "GoesInto$Chain" "tail" "I") (List.mem_of_getElem? (i := 4) rfl)) (fun _ h9 => h9) rfl (tyX0_ok 5 (by decide)) rfl rfl (Nat.le_of_ble_eq_true rfl) dX0_goesOn_70 (fun H locs hP hD hS => ?_)
          have hP : va_P (dC, dI) vwCl (wd7 cyI cyJ cyZ q_Ch q_told q_Sp ch_many ch_kind (1 : Int32) r5z ch_round ch_greatest a_told) H := hP
          have hD : va_D A (wd7 cyI cyJ cyZ q_Ch q_told q_Sp ch_many ch_kind (1 : Int32) r5z ch_round ch_greatest a_told) := hD
          refine lv_aload_n hx hb dX0_goesOn_73 rfl (lv_at hl 1 rfl) ?_
          refine lv_aload_n hx hb dX0_goesOn_74 rfl (lv_at hl 1 rfl) ?_
          refine va_get (D := (dC, dI)) (ci := 0) (v := .int ch_many) (C := RX0) (T := TX0) (N := 8) hx hb hts iw_X0_goesOn_X0 hown hK hP 0 rfl rfl 2 (by decide) (hts (.fieldLink RX0 15 "GoesInto$Chain" "many" "I") (List.mem_of_getElem? (i := 2) rfl)) (fun _ h9 => h9) rfl dX0_goesOn_75 ?_
          refine lv_iload_n hx hb dX0_goesOn_78 rfl (lv_at hl 0 rfl) ?_
          refine lv_isub hx hb dX0_goesOn_79 ?_
          refine lv_topi (fun y12z ey12z => ?_)
          have h := xl_at h ey12z
          refine va_put (D := (dC, dI)) (ci := 0) (v := .int y12z) (ty := .int) (C := RX0) (T := TX0) (N := 8) hx hb hts iw_X0_goesOn_X0 tyX0 tyX0_ok nmX0 hown hK hP hD hS 0 rfl rfl 6 (by decide) (hts (.fieldLink RX0 28 "GoesInto$Chain" "round" "I") (List.mem_of_getElem? (i := 5) rfl)) (fun _ h9 => h9) rfl (tyX0_ok 6 (by decide)) rfl rfl (Nat.le_of_ble_eq_true rfl) dX0_goesOn_80 (fun H locs hP hD hS => ?_)
          have hP : va_P (dC, dI) vwCl (wd7 cyI cyJ cyZ q_Ch q_told q_Sp ch_many ch_kind (1 : Int32) r5z y12z ch_greatest a_told) H := hP
          have hD : va_D A (wd7 cyI cyJ cyZ q_Ch q_told q_Sp ch_many ch_kind (1 : Int32) r5z y12z ch_greatest a_told) := hD
          refine lv_iconst (v := (0 : Int32)) hx hb dX0_goesOn_83 (by decide) ?_
          obtain rfl := Option.some.inj h
          exact W.zret (v := (0 : Int32)) hx hb hr rfl (fun t ht hW => ⟨⟨_, (), rfl, rfl, by rw [ht]; exact hP, hD⟩, hS.F ht⟩) hS.2.2 dX0_goesOn_84 hlocks
      · have h := xf h c4z
        exact k_X0_goesOn_24 C0 N res q_Ch q_told q_Sp v1 ch_many ch_kind ch_ending ch_tail ch_round ch_greatest a_told  h _ _ hP hD hS _ (lv_sub hl [0, 1] rfl)
set_option maxRecDepth 100000 in
set_option maxHeartbeats 4000000 in
theorem c_X0_goesOn (l : Launch) (dC : Nat → ClassId) (dI : Nat → Nat → Nat) (cyI cyJ cyZ : ClassId) (N : Nat) (res : Int32 × Int32 × Int32 × Int32 × Int32 × Int64 × (Nat → Int64)) (sz : Nat) (q_Ch : Nat) (q_told : Nat) (q_Sp : Nat) (v1 : Int64) (ch_many : Int32) (ch_kind : Int32) (ch_ending : Int32) (ch_tail : Int32) (ch_round : Int32) (ch_greatest : Int64) (a_told : Nat → Int64) (h : f_X0_goesOn N v1 ch_many ch_ending ch_tail ch_round ch_greatest a_told = some res) : Met l yX0_goesOn wsX0_goesOn rm_X0_goesOn (pC dC dI cyI cyJ cyZ [.ref q_Ch, .long v1] sz (wd7 cyI cyJ cyZ q_Ch q_told q_Sp ch_many ch_kind ch_ending ch_tail ch_round ch_greatest a_told)) (va_Qi (fun (r : Int32) (_ : Unit) => r = res.1) (bW dC dI (fun (u : Unit) => (wd7 cyI cyJ cyZ q_Ch q_told q_Sp res.2.1 ch_kind res.2.2.1 res.2.2.2.1 res.2.2.2.2.1 res.2.2.2.2.2.1 res.2.2.2.2.2.2)) (va_A (wd7 cyI cyJ cyZ q_Ch q_told q_Sp ch_many ch_kind ch_ending ch_tail ch_round ch_greatest a_told) sz)) (va_A (wd7 cyI cyJ cyZ q_Ch q_told q_Sp ch_many ch_kind ch_ending ch_tail ch_round ch_greatest a_told) sz)) 0 0 (va_A (wd7 cyI cyJ cyZ q_Ch q_told q_Sp ch_many ch_kind ch_ending ch_tail ch_round ch_greatest a_told) sz) := by
  refine Met.ofW (cc := cX0_goesOn) (maxL := 4) (ret := (some .boolean)) (by decide) rfl ?_
  intro p e s m args below meth c s₁ B hml hv
  obtain ⟨rfl, hsz, hP, hG, hD0⟩ := hv
  have hx := B.exec
  have hb := B.bytes
  have hr := B.returns
  have hts := atoms_spec (ws := wsX0_goesOn) B.pre
  have hown : s.vm.findClass RX0 = some m.cls := findClass_of_methodNamed B.named
  have hlocks := B.notSynchronized
  subst hsz
  have hD := hD0.self (sz := s.heap.size)
  generalize hAe : va_A (wd7 cyI cyJ cyZ q_Ch q_told q_Sp ch_many ch_kind ch_ending ch_tail ch_round ch_greatest a_told) s.heap.size = A at hD ⊢
  have hA : ∀ q : Nat, s.heap.size ≤ q → A q := fun q h => by rw [← hAe]; exact Or.inr h
  have hS : va_S A s.heap s.heap [] := va_S.rf
  have hl := lv_entry ([.ref q_Ch, .long v1]) (n := 4) (Nat.le_of_ble_eq_true rfl)
  rw [lg_entry_eq]
  generalize (lg_sl ([.ref q_Ch, .long v1]) ++ List.replicate (4 - (lg_sl ([.ref q_Ch, .long v1])).length) Slot.unset).toArray = ls at hl ⊢
  have hl : lv_has ls 4 [(0, .ref q_Ch), (1, .long v1)] := hl
  exact k_X0_goesOn_0 ⟨hx, hb, hr, hml, hown, hts, hlocks, hG, hA⟩ N res q_Ch q_told q_Sp v1 ch_many ch_kind ch_ending ch_tail ch_round ch_greatest a_told  h _ _ hP hD hS _ hl
/-- the cells Pr, Sp, Ch, list, prime, times, told -/
abbrev wd8 (cyI cyJ cyZ : ClassId) (q_Pr : Nat) (q_Sp : Nat) (q_Ch : Nat) (q_list : Nat) (q_prime : Nat) (q_times : Nat) (q_told : Nat) (q_Sc : Nat) (q_parts : Nat) (sp_unlike : Int32) (sp_number : Int64) (sp_partsKept : Int32) (sp_partsNumber : Int64) (ch_many : Int32) (ch_kind : Int32) (ch_ending : Int32) (ch_tail : Int32) (ch_round : Int32) (ch_greatest : Int64) (n_list : Nat) (a_list : Nat → Int32) (a_prime : Nat → Int64) (a_times : Nat → Int32) (a_told : Nat → Int64) : va_W := [(q_Pr, .inr (3, [.ref q_Sc, .ref q_list])), (q_Sp, .inr (6, [.ref q_Pr, .ref q_prime, .ref q_times, .int sp_unlike, .long sp_number, .ref q_parts, .int sp_partsKept, .long sp_partsNumber])), (q_Ch, .inr (0, [.ref q_Sp, .ref q_told, .int ch_many, .int ch_kind, .int ch_ending, .int ch_tail, .int ch_round, .long ch_greatest])), (q_list, .inl (cyI, n_list, .inl a_list)), (q_prime, .inl (cyJ, 12, .inr (.inl a_prime))), (q_times, .inl (cyI, 12, .inl a_times)), (q_told, .inl (cyJ, 201, .inr (.inl a_told)))]
abbrev rm_X0_follow : Room := { frames := 3, cells := 0, slots := 0, locals := 79 }
theorem hd_X0_follow : yX0_follow.cls ≠ "java/lang/invoke/MethodHandle" ∧ yX0_follow.cls ≠ "java/lang/invoke/VarHandle" ∧ (parseMethodDescriptor yX0_follow.desc).map (fun d => d.parameters.length) = some 2 := by decide +kernel
theorem iw_X0_follow_X3 : ∀ w ∈ wsX30, w ∈ wsX0_follow := List.forall_mem_cons.mpr ⟨List.mem_of_getElem? (i := 66) rfl, List.forall_mem_cons.mpr ⟨List.mem_of_getElem? (i := 67) rfl, fun _ h => absurd h List.not_mem_nil⟩⟩
theorem iw_X0_follow_X6 : ∀ w ∈ wsX60, w ∈ wsX0_follow := List.forall_mem_cons.mpr ⟨List.mem_of_getElem? (i := 58) rfl, List.forall_mem_cons.mpr ⟨List.mem_of_getElem? (i := 59) rfl, List.forall_mem_cons.mpr ⟨List.mem_of_getElem? (i := 60) rfl, List.forall_mem_cons.mpr ⟨List.mem_of_getElem? (i := 61) rfl, List.forall_mem_cons.mpr ⟨List.mem_of_getElem? (i := 62) rfl, List.forall_mem_cons.mpr ⟨List.mem_of_getElem? (i := 63) rfl, List.forall_mem_cons.mpr ⟨List.mem_of_getElem? (i := 64) rfl, List.forall_mem_cons.mpr ⟨List.mem_of_getElem? (i := 65) rfl, fun _ h => absurd h List.not_mem_nil⟩⟩⟩⟩⟩⟩⟩⟩
theorem iw_X0_follow_X0 : ∀ w ∈ wsX00, w ∈ wsX0_follow := List.forall_mem_cons.mpr ⟨List.mem_of_getElem? (i := 50) rfl, List.forall_mem_cons.mpr ⟨List.mem_of_getElem? (i := 51) rfl, List.forall_mem_cons.mpr ⟨List.mem_of_getElem? (i := 52) rfl, List.forall_mem_cons.mpr ⟨List.mem_of_getElem? (i := 53) rfl, List.forall_mem_cons.mpr ⟨List.mem_of_getElem? (i := 54) rfl, List.forall_mem_cons.mpr ⟨List.mem_of_getElem? (i := 55) rfl, List.forall_mem_cons.mpr ⟨List.mem_of_getElem? (i := 56) rfl, List.forall_mem_cons.mpr ⟨List.mem_of_getElem? (i := 57) rfl, fun _ h => absurd h List.not_mem_nil⟩⟩⟩⟩⟩⟩⟩⟩
def j_X0_follow_105 (N : Nat) (v4 : Int32) (sp_unlike : Int32) (sp_number : Int64) (ch_many : Int32) (ch_kind : Int32) (ch_ending : Int32) (ch_tail : Int32) (ch_round : Int32) (ch_greatest : Int64) (a_prime : Nat → Int64) (a_times : Nat → Int32) (a_told : Nat → Int64) : Option (Int32 × Int64 × Int32 × Int32 × Int32 × Int32 × Int32 × Int64 × (Nat → Int64) × (Nat → Int32) × (Nat → Int64)) :=
  if v4 = 0 then
    some (sp_unlike, sp_number, ch_many, ch_kind, ch_ending, ch_tail, ch_round, ch_greatest, a_prime, a_times, a_told)
  else
    some (sp_unlike, sp_number, ch_many, ch_kind, (2 : Int32), ch_many, ch_round, ch_greatest, a_prime, a_times, a_told)
set_option maxRecDepth 100000 in
set_option maxHeartbeats 4000000 in
theorem k_X0_follow_105 {p : Program} {l : Launch} {e : Env} {s : State} {m : MethodId} {args : Array Value} {below : List Frame} {meth : Method} {c : Code} {dC : Nat → ClassId} {dI : Nat → Nat → Nat} {cyI cyJ cyZ : ClassId} {A : Nat → Prop} (C0 : mC p s m meth c args cX0_follow none 6 RX0 wsX0_follow (gK dC dI cyI cyJ cyZ) A) (N : Nat) (res : Int32 × Int64 × Int32 × Int32 × Int32 × Int32 × Int32 × Int64 × (Nat → Int64) × (Nat → Int32) × (Nat → Int64)) (q_Pr : Nat) (q_Sp : Nat) (q_Ch : Nat) (q_list : Nat) (q_prime : Nat) (q_times : Nat) (q_told : Nat) (q_Sc : Nat) (q_parts : Nat) (v4 : Int32) (sp_unlike : Int32) (sp_number : Int64) (sp_partsKept : Int32) (sp_partsNumber : Int64) (ch_many : Int32) (ch_kind : Int32) (ch_ending : Int32) (ch_tail : Int32) (ch_round : Int32) (ch_greatest : Int64) (n_list : Nat) (a_list : Nat → Int32) (a_prime : Nat → Int64) (a_times : Nat → Int32) (a_told : Nat → Int64) (h : j_X0_follow_105 N v4 sp_unlike sp_number ch_many ch_kind ch_ending ch_tail ch_round ch_greatest a_prime a_times a_told = some res) : ∀ (H : Heap) (locs : List Loc), va_P (dC, dI) vwCl (wd8 cyI cyJ cyZ q_Pr q_Sp q_Ch q_list q_prime q_times q_told q_Sc q_parts sp_unlike sp_number sp_partsKept sp_partsNumber ch_many ch_kind ch_ending ch_tail ch_round ch_greatest n_list a_list a_prime a_times a_told) H → va_D A (wd8 cyI cyJ cyZ q_Pr q_Sp q_Ch q_list q_prime q_times q_told q_Sc q_parts sp_unlike sp_number sp_partsKept sp_partsNumber ch_many ch_kind ch_ending ch_tail ch_round ch_greatest n_list a_list a_prime a_times a_told) → va_S A s.heap H locs → ∀ (ls : Array Slot), lv_has ls 6 [(0, .ref q_Ch), (4, .int v4)] → W p l e (headSpec wsX0_follow rm_X0_follow).room s m args below meth c H locs 0 0 (MQ below (va_Qv (fun (_ : Unit) => True) (bW dC dI (fun (u : Unit) => (wd8 cyI cyJ cyZ q_Pr q_Sp q_Ch q_list q_prime q_times q_told q_Sc q_parts res.1 res.2.1 sp_partsKept sp_partsNumber res.2.2.1 res.2.2.2.1 res.2.2.2.2.1 res.2.2.2.2.2.1 res.2.2.2.2.2.2.1 res.2.2.2.2.2.2.2.1 n_list a_list res.2.2.2.2.2.2.2.2.1 res.2.2.2.2.2.2.2.2.2.1 res.2.2.2.2.2.2.2.2.2.2)) A) A) args s 0 0 A) (F0 m 105 ls []) := by
  obtain ⟨hx, hb, hr, hml, hown, hts, hlocks, hG, hA⟩ := id C0
  have hK := hG.1
  intro H locs hP hD hS ls hl
  unfold j_X0_follow_105 at h
  refine lv_iload hx hb dX0_follow_105 (lv_at hl 1 rfl) ?_
  refine lv_if_eq (tgt := 123) hx hb dX0_follow_107 (by decide) (fun c4z => ?_) (fun c4z => ?_)
  · have h := xt h c4z
    obtain rfl := Option.some.inj h
    exact W.vret hx hb hr (fun t ht hW => ⟨⟨(), rfl, trivial, by rw [ht]; exact hP, hD⟩, hS.F ht⟩) hS.2.2 dX0_follow_123 hlocks
  · have h := xf h c4z
    refine lv_aload_n hx hb dX0_follow_110 rfl (lv_at hl 0 rfl) ?_
    refine lv_iconst (v := (2 : Int32)) hx hb dX0_follow_111 (by decide) ?_
    refine va_put (D := (dC, dI)) (ci := 0) (v := .int (2 : Int32)) (ty := .int) (C := RX0) (T := TX0) (N := 8) hx hb hts iw_X0_follow_X0 tyX0 tyX0_ok nmX0 hown hK hP hD hS 2 rfl rfl 4 (by decide) (hts (.fieldLink RX0 22 "GoesInto$Chain" "ending" "I") (List.mem_of_getElem? (i := 7) rfl)) (fun _ h9 => h9) rfl (tyX0_ok 4 (by decide)) rfl rfl (Nat.le_of_ble_eq_true rfl) dX0_follow_112 (fun H locs hP hD hS => ?_)
    have hP : va_P (dC, dI) vwCl (wd8 cyI cyJ cyZ q_Pr q_Sp q_Ch q_list q_prime q_times q_told q_Sc q_parts sp_unlike sp_number sp_partsKept sp_partsNumber ch_many ch_kind (2 : Int32) ch_tail ch_round ch_greatest n_list a_list a_prime a_times a_told) H := hP
    have hD : va_D A (wd8 cyI cyJ cyZ q_Pr q_Sp q_Ch q_list q_prime q_times q_told q_Sc q_parts sp_unlike sp_number sp_partsKept sp_partsNumber ch_many ch_kind (2 : Int32) ch_tail ch_round ch_greatest n_list a_list a_prime a_times a_told) := hD
    refine lv_aload_n hx hb dX0_follow_115 rfl (lv_at hl 0 rfl) ?_
    refine lv_aload_n hx hb dX0_follow_116 rfl (lv_at hl 0 rfl) ?_
    refine va_get (D := (dC, dI)) (ci := 0) (v := .int ch_many) (C := RX0) (T := TX0) (N := 8) hx hb hts iw_X0_follow_X0 hown hK hP 2 rfl rfl 2 (by decide) (hts (.fieldLink RX0 15 "GoesInto$Chain" "many" "I") (List.mem_of_getElem? (i := 2) rfl)) (fun _ h9 => h9) rfl dX0_follow_117 ?_
    refine va_put (D := (dC, dI)) (ci := 0) (v := .int ch_many) (ty := .int) (C := RX0) (T := TX0) (N := 8) hx hb hts iw_X0_follow_X0 tyX0 tyX0_ok nmX0 hown hK hP hD hS 2 rfl rfl 5 (by decide) (hts (.fieldLink RX0 25 "GoesInto$Chain" "tail" "I") (List.mem_of_getElem? (i := 8) rfl)) (fun _ h9 => h9) rfl (tyX0_ok 5 (by decide)) rfl rfl (Nat.le_of_ble_eq_true rfl) dX0_follow_120 (fun H locs hP hD hS => ?_)
    have hP : va_P (dC, dI) vwCl (wd8 cyI cyJ cyZ q_Pr q_Sp q_Ch q_list q_prime q_times q_told q_Sc q_parts sp_unlike sp_number sp_partsKept sp_partsNumber ch_many ch_kind (2 : Int32) ch_many ch_round ch_greatest n_list a_list a_prime a_times a_told) H := hP
    have hD : va_D A (wd8 cyI cyJ cyZ q_Pr q_Sp q_Ch q_list q_prime q_times q_told q_Sc q_parts sp_unlike sp_number sp_partsKept sp_partsNumber ch_many ch_kind (2 : Int32) ch_many ch_round ch_greatest n_list a_list a_prime a_times a_told) := hD
    obtain rfl := Option.some.inj h
    exact W.vret hx hb hr (fun t ht hW => ⟨⟨(), rfl, trivial, by rw [ht]; exact hP, hD⟩, hS.F ht⟩) hS.2.2 dX0_follow_123 hlocks
def s_X0_follow_60 (N : Nat) (ch_kind : Int32) (n_list : Nat) (a_list : Nat → Int32) (k_60 : (Int32 × Int32 × Int32 × Int64 × Int32 × Int32 × Int32 × Int32 × Int64 × (Nat → Int64) × (Nat → Int32) × (Nat → Int64)) → Option (Int32 × Int64 × Int32 × Int32 × Int32 × Int32 × Int32 × Int64 × (Nat → Int64) × (Nat → Int32) × (Nat → Int64))) (v4 : Int32) (v5 : Int32) (sp_unlike : Int32) (sp_number : Int64) (ch_many : Int32) (ch_ending : Int32) (ch_tail : Int32) (ch_round : Int32) (ch_greatest : Int64) (a_prime : Nat → Int64) (a_times : Nat → Int32) (a_told : Nat → Int64) : Option (Int32 × Int64 × Int32 × Int32 × Int32 × Int32 × Int32 × Int64 × (Nat → Int64) × (Nat → Int32) × (Nat → Int64)) :=
  if v4 = 0 then
    j_X0_follow_105 N v4 sp_unlike sp_number ch_many ch_kind ch_ending ch_tail ch_round ch_greatest a_prime a_times a_told
  else
    if (201 : Int32) ≤ v5 then
      j_X0_follow_105 N v4 sp_unlike sp_number ch_many ch_kind ch_ending ch_tail ch_round ch_greatest a_prime a_times a_told
    else
      xl (v5 - (1 : Int32)) fun y6z =>
      if y6z < 0 ∨ 201 ≤ y6z.toNatClampNeg then
        none
      else
        Option.bind (f_X6_summed N ch_kind (a_told y6z.toNatClampNeg) sp_unlike sp_number n_list a_list a_prime a_times) fun r8z =>
        Option.bind (f_X0_goesOn N r8z.1 ch_many ch_ending ch_tail ch_round ch_greatest a_told) fun r11z =>
        xl (v5 + (1 : Int32)) fun y14z =>
        k_60 (r11z.1, y14z, r8z.2.1, r8z.2.2.1, r11z.2.1, r11z.2.2.1, r11z.2.2.2.1, r11z.2.2.2.2.1, r11z.2.2.2.2.2.1, r8z.2.2.2.1, r8z.2.2.2.2, r11z.2.2.2.2.2.2)
def l_X0_follow_60 (N : Nat) (ch_kind : Int32) (n_list : Nat) (a_list : Nat → Int32) (n : Nat) (z : Int32 × Int32 × Int32 × Int64 × Int32 × Int32 × Int32 × Int32 × Int64 × (Nat → Int64) × (Nat → Int32) × (Nat → Int64)) : Option (Int32 × Int64 × Int32 × Int32 × Int32 × Int32 × Int32 × Int64 × (Nat → Int64) × (Nat → Int32) × (Nat → Int64)) := lp (fun k z => s_X0_follow_60 N ch_kind n_list a_list k z.1 z.2.1 z.2.2.1 z.2.2.2.1 z.2.2.2.2.1 z.2.2.2.2.2.1 z.2.2.2.2.2.2.1 z.2.2.2.2.2.2.2.1 z.2.2.2.2.2.2.2.2.1 z.2.2.2.2.2.2.2.2.2.1 z.2.2.2.2.2.2.2.2.2.2.1 z.2.2.2.2.2.2.2.2.2.2.2) n z
set_option maxRecDepth 100000 in
set_option maxHeartbeats 4000000 in
theorem k_X0_follow_60 {p : Program} {l : Launch} {e : Env} {s : State} {m : MethodId} {args : Array Value} {below : List Frame} {meth : Method} {c : Code} {dC : Nat → ClassId} {dI : Nat → Nat → Nat} {cyI cyJ cyZ : ClassId} {A : Nat → Prop} (C0 : mC p s m meth c args cX0_follow none 6 RX0 wsX0_follow (gK dC dI cyI cyJ cyZ) A) (N : Nat) (res : Int32 × Int64 × Int32 × Int32 × Int32 × Int32 × Int32 × Int64 × (Nat → Int64) × (Nat → Int32) × (Nat → Int64)) (q_Pr : Nat) (q_Sp : Nat) (q_Ch : Nat) (q_list : Nat) (q_prime : Nat) (q_times : Nat) (q_told : Nat) (q_Sc : Nat) (q_parts : Nat) (sp_partsKept : Int32) (sp_partsNumber : Int64) (ch_kind : Int32) (n_list : Nat) (a_list : Nat → Int32) : ∀ (n : Nat) (v4 : Int32) (v5 : Int32) (sp_unlike : Int32) (sp_number : Int64) (ch_many : Int32) (ch_ending : Int32) (ch_tail : Int32) (ch_round : Int32) (ch_greatest : Int64) (a_prime : Nat → Int64) (a_times : Nat → Int32) (a_told : Nat → Int64), l_X0_follow_60 N ch_kind n_list a_list n (v4, v5, sp_unlike, sp_number, ch_many, ch_ending, ch_tail, ch_round, ch_greatest, a_prime, a_times, a_told) = some res → ∀ (H : Heap) (locs : List Loc), va_P (dC, dI) vwCl (wd8 cyI cyJ cyZ q_Pr q_Sp q_Ch q_list q_prime q_times q_told q_Sc q_parts sp_unlike sp_number sp_partsKept sp_partsNumber ch_many ch_kind ch_ending ch_tail ch_round ch_greatest n_list a_list a_prime a_times a_told) H → va_D A (wd8 cyI cyJ cyZ q_Pr q_Sp q_Ch q_list q_prime q_times q_told q_Sc q_parts sp_unlike sp_number sp_partsKept sp_partsNumber ch_many ch_kind ch_ending ch_tail ch_round ch_greatest n_list a_list a_prime a_times a_told) → va_S A s.heap H locs → ∀ (ls : Array Slot), lv_has ls 6 [(0, .ref q_Ch), (4, .int v4), (5, .int v5)] → W p l e (headSpec wsX0_follow rm_X0_follow).room s m args below meth c H locs 0 0 (MQ below (va_Qv (fun (_ : Unit) => True) (bW dC dI (fun (u : Unit) => (wd8 cyI cyJ cyZ q_Pr q_Sp q_Ch q_list q_prime q_times q_told q_Sc q_parts res.1 res.2.1 sp_partsKept sp_partsNumber res.2.2.1 res.2.2.2.1 res.2.2.2.2.1 res.2.2.2.2.2.1 res.2.2.2.2.2.2.1 res.2.2.2.2.2.2.2.1 n_list a_list res.2.2.2.2.2.2.2.2.1 res.2.2.2.2.2.2.2.2.2.1 res.2.2.2.2.2.2.2.2.2.2)) A) A) args s 0 0 A) (F0 m 60 ls []) := by
  obtain ⟨hx, hb, hr, hml, hown, hts, hlocks, hG, hA⟩ := id C0
  have hK := hG.1
  intro n
  induction n with
  | zero =>
    intro v4 v5 sp_unlike sp_number ch_many ch_ending ch_tail ch_round ch_greatest a_prime a_times a_told h
    cases h
  | succ n ih =>
    intro v4 v5 sp_unlike sp_number ch_many ch_ending ch_tail ch_round ch_greatest a_prime a_times a_told h H locs hP hD hS ls hl
    have h : s_X0_follow_60 N ch_kind n_list a_list (l_X0_follow_60 N ch_kind n_list a_list n) v4 v5 sp_unlike sp_number ch_many ch_ending ch_tail ch_round ch_greatest a_prime a_times a_told = some res := h
    unfold s_X0_follow_60 at h
    refine lv_iload hx hb dX0_follow_60 (lv_at hl 1 rfl) ?_
    refine lv_if_eq (tgt := 105) hx hb dX0_follow_62 (by decide) (fun c3z => ?_) (fun c3z => ?_)
    · have h := xt h c3z
      exact k_X0_follow_105 C0 N res q_Pr q_Sp q_Ch q_list q_prime q_times q_told q_Sc q_parts v4 sp_unlike sp_number sp_partsKept sp_partsNumber ch_many ch_kind ch_ending ch_tail ch_round ch_greatest n_list a_list a_prime a_times a_told  h _ _ hP hD hS _ (lv_sub hl [0, 1] rfl)
    · have h := xf h c3z
      refine lv_iload hx hb dX0_follow_65 (lv_at hl 2 rfl) ?_
      refine lv_sipush (v := (201 : Int32)) hx hb dX0_follow_67 (by decide) ?_
      refine lv_icmp_ge (tgt := 105) hx hb dX0_follow_70 (by decide) (fun c5z => ?_) (fun c5z => ?_)
      · have h := xt h c5z
        exact k_X0_follow_105 C0 N res q_Pr q_Sp q_Ch q_list q_prime q_times q_told q_Sc q_parts v4 sp_unlike sp_number sp_partsKept sp_partsNumber ch_many ch_kind ch_ending ch_tail ch_round ch_greatest n_list a_list a_prime a_times a_told  h _ _ hP hD hS _ (lv_sub hl [0, 1] rfl)
      · have h := xf h c5z
        refine lv_aload_n hx hb dX0_follow_73 rfl (lv_at hl 0 rfl) ?_
        refine lv_aload_n hx hb dX0_follow_74 rfl (lv_at hl 0 rfl) ?_
        refine va_get (D := (dC, dI)) (ci := 0) (v := .ref q_Sp) (C := RX0) (T := TX0) (N := 8) hx hb hts iw_X0_follow_X0 hown hK hP 2 rfl rfl 0 (by decide) (hts (.fieldLink RX0 35 "GoesInto$Chain" "split" "LGoesInto$Split;") (List.mem_of_getElem? (i := 6) rfl)) (fun _ h9 => h9) rfl dX0_follow_75 ?_
        refine lv_aload_n hx hb dX0_follow_78 rfl (lv_at hl 0 rfl) ?_
        refine va_get (D := (dC, dI)) (ci := 0) (v := .int ch_kind) (C := RX0) (T := TX0) (N := 8) hx hb hts iw_X0_follow_X0 hown hK hP 2 rfl rfl 3 (by decide) (hts (.fieldLink RX0 19 "GoesInto$Chain" "kind" "I") (List.mem_of_getElem? (i := 1) rfl)) (fun _ h9 => h9) rfl dX0_follow_79 ?_
        refine lv_aload_n hx hb dX0_follow_82 rfl (lv_at hl 0 rfl) ?_
        refine va_get (D := (dC, dI)) (ci := 0) (v := .ref q_told) (C := RX0) (T := TX0) (N := 8) hx hb hts iw_X0_follow_X0 hown hK hP 2 rfl rfl 1 (by decide) (hts (.fieldLink RX0 11 "GoesInto$Chain" "told" "[J") (List.mem_of_getElem? (i := 3) rfl)) (fun _ h9 => h9) rfl dX0_follow_83 ?_
        refine lv_iload hx hb dX0_follow_86 (lv_at hl 2 rfl) ?_
        refine lv_iconst (v := (1 : Int32)) hx hb dX0_follow_88 (by decide) ?_
        refine lv_isub hx hb dX0_follow_89 ?_
        refine lv_topi (fun y6z ey6z => ?_)
        have h := xl_at h ey6z
        obtain ⟨b7z, h⟩ := xn h
        refine va_lald hx hb hK hP 6 1 rfl rfl b7z dX0_follow_90 ?_
        obtain ⟨r8z, hr8z, h⟩ := xb_at h
        have hPc := hP.sub (ws' := (wd1 cyI cyJ cyZ q_Pr q_Sp q_list q_prime q_times q_Sc q_parts sp_unlike sp_number sp_partsKept sp_partsNumber n_list a_list a_prime a_times)) [0, 1, 3, 4, 5] rfl
        have hDc := hD.sub (ws' := (wd1 cyI cyJ cyZ q_Pr q_Sp q_list q_prime q_times q_Sc q_parts sp_unlike sp_number sp_partsKept sp_partsNumber n_list a_list a_prime a_times)) [0, 1, 3, 4, 5] (by decide) rfl
        refine cal_l [0, 1, 3, 4, 5] [2, 6] (va_runV (As := [.int ch_kind, .long (a_told y6z.toNatClampNeg)]) (rest := [.ref q_Ch]) ⟨hx, hb, hml, hown, hts⟩ (c_X6_summed l dC dI cyI cyJ cyZ N r8z H.size q_Pr q_Sp q_list q_prime q_times q_Sc q_parts ch_kind (a_told y6z.toNatClampNeg) sp_unlike sp_number sp_partsKept sp_partsNumber n_list a_list a_prime a_times hr8z) (cwV 2 hts gX0_follow_X6_summed rfl rfl rfl ⟨rfl, hd_X6_summed⟩ ⟨Nat.le_of_ble_eq_true rfl, Nat.le_of_ble_eq_true rfl⟩) ⟨pC.blind, va_recv hK hPc (ci := 6) (q0 := 1) rfl rfl, pC.pre hPc hG hDc⟩ rfl rfl hl.1 rfl (lv_room (Nat.le_of_ble_eq_true rfl)) dX0_follow_91 ⟨Nat.zero_le _, Nat.zero_le _⟩) hP hD hS hA rfl rfl rfl (by decide) (fun x10z u9z H locs hw hP hD hS => ?_)
        obtain rfl := hw.symm
        have hP : va_P (dC, dI) vwCl (wd8 cyI cyJ cyZ q_Pr q_Sp q_Ch q_list q_prime q_times q_told q_Sc q_parts r8z.2.1 r8z.2.2.1 sp_partsKept sp_partsNumber ch_many ch_kind ch_ending ch_tail ch_round ch_greatest n_list a_list r8z.2.2.2.1 r8z.2.2.2.2 a_told) H := hP.sub [2, 3, 0, 4, 5, 6, 1] rfl
        have hD : va_D A (wd8 cyI cyJ cyZ q_Pr q_Sp q_Ch q_list q_prime q_times q_told q_Sc q_parts r8z.2.1 r8z.2.2.1 sp_partsKept sp_partsNumber ch_many ch_kind ch_ending ch_tail ch_round ch_greatest n_list a_list r8z.2.2.2.1 r8z.2.2.2.2 a_told) := hD.sub [2, 3, 0, 4, 5, 6, 1] (by decide) rfl
        obtain ⟨r11z, hr11z, h⟩ := xb_at h
        have hPc := hP.sub (ws' := (wd7 cyI cyJ cyZ q_Ch q_told q_Sp ch_many ch_kind ch_ending ch_tail ch_round ch_greatest a_told)) [2, 6] rfl
        have hDc := hD.sub (ws' := (wd7 cyI cyJ cyZ q_Ch q_told q_Sp ch_many ch_kind ch_ending ch_tail ch_round ch_greatest a_told)) [2, 6] (by decide) rfl
        refine cal_i [2, 6] [0, 1, 3, 4, 5] (va_runV (As := [.long r8z.1]) (rest := []) ⟨hx, hb, hml, hown, hts⟩ (c_X0_goesOn l dC dI cyI cyJ cyZ N r11z H.size q_Ch q_told q_Sp r8z.1 ch_many ch_kind ch_ending ch_tail ch_round ch_greatest a_told hr11z) (cwV 1 hts gX0_follow_X0_goesOn rfl rfl rfl ⟨rfl, hd_X0_goesOn⟩ ⟨Nat.le_of_ble_eq_true rfl, Nat.le_of_ble_eq_true rfl⟩) ⟨pC.blind, va_recv hK hPc (ci := 0) (q0 := 0) rfl rfl, pC.pre hPc hG hDc⟩ rfl rfl hl.1 rfl (lv_room (Nat.le_of_ble_eq_true rfl)) dX0_follow_94 ⟨Nat.zero_le _, Nat.zero_le _⟩) hP hD hS hA rfl rfl rfl (by decide) (fun x13z u12z H locs hw hP hD hS => ?_)
        obtain rfl := hw.symm
        have hP : va_P (dC, dI) vwCl (wd8 cyI cyJ cyZ q_Pr q_Sp q_Ch q_list q_prime q_times q_told q_Sc q_parts r8z.2.1 r8z.2.2.1 sp_partsKept sp_partsNumber r11z.2.1 ch_kind r11z.2.2.1 r11z.2.2.2.1 r11z.2.2.2.2.1 r11z.2.2.2.2.2.1 n_list a_list r8z.2.2.2.1 r8z.2.2.2.2 r11z.2.2.2.2.2.2) H := hP.sub [0, 1, 5, 2, 3, 4, 6] rfl
        have hD : va_D A (wd8 cyI cyJ cyZ q_Pr q_Sp q_Ch q_list q_prime q_times q_told q_Sc q_parts r8z.2.1 r8z.2.2.1 sp_partsKept sp_partsNumber r11z.2.1 ch_kind r11z.2.2.1 r11z.2.2.2.1 r11z.2.2.2.2.1 r11z.2.2.2.2.2.1 n_list a_list r8z.2.2.2.1 r8z.2.2.2.2 r11z.2.2.2.2.2.2) := hD.sub [0, 1, 5, 2, 3, 4, 6] (by decide) rfl
        refine lv_istore (lv' := [(4, .int r11z.1), (0, .ref q_Ch), (5, .int v5)]) hx hb dX0_follow_97 hl (by decide) rfl (fun ls hl => ?_)
        obtain ⟨y14z, ey14z⟩ : ∃ z : Int32, z = v5 + (1 : Int32) := ⟨_, rfl⟩
        have h := xl_at h ey14z
        refine lv_iinc (v := y14z) (lv' := [(5, .int y14z), (4, .int r11z.1), (0, .ref q_Ch)]) hx hb dX0_follow_99 hl (k := 2) rfl (by rw [ey14z]; rfl) (by decide) rfl (fun ls hl => ?_)
        refine lv_goto (tgt := 60) hx hb dX0_follow_102 (by decide) ?_
        exact ih r11z.1 y14z r8z.2.1 r8z.2.2.1 r11z.2.1 r11z.2.2.1 r11z.2.2.2.1 r11z.2.2.2.2.1 r11z.2.2.2.2.2.1 r8z.2.2.2.1 r8z.2.2.2.2 r11z.2.2.2.2.2.2 h _ _ hP hD hS _ (lv_sub hl [2, 1, 0] rfl)
def j_X0_follow_27 (N : Nat) (v1 : Int32) (v2 : Int64) (sp_unlike : Int32) (sp_number : Int64) (ch_ending : Int32) (ch_tail : Int32) (n_list : Nat) (a_list : Nat → Int32) (a_prime : Nat → Int64) (a_times : Nat → Int32) (a_told : Nat → Int64) : Option (Int32 × Int64 × Int32 × Int32 × Int32 × Int32 × Int32 × Int64 × (Nat → Int64) × (Nat → Int32) × (Nat → Int64)) :=
  if (0 : Int32) < 0 ∨ 201 ≤ (0 : Int32).toNatClampNeg then
    none
  else
    l_X0_follow_60 N v1 n_list a_list N ((1 : Int32), (1 : Int32), sp_unlike, sp_number, (1 : Int32), ch_ending, ch_tail, (0 : Int32), v2, a_prime, a_times, vp_updL a_told (0 : Int32).toNatClampNeg v2)
set_option maxRecDepth 100000 in
set_option maxHeartbeats 4000000 in
theorem k_X0_follow_27 {p : Program} {l : Launch} {e : Env} {s : State} {m : MethodId} {args : Array Value} {below : List Frame} {meth : Method} {c : Code} {dC : Nat → ClassId} {dI : Nat → Nat → Nat} {cyI cyJ cyZ : ClassId} {A : Nat → Prop} (C0 : mC p s m meth c args cX0_follow none 6 RX0 wsX0_follow (gK dC dI cyI cyJ cyZ) A) (N : Nat) (res : Int32 × Int64 × Int32 × Int32 × Int32 × Int32 × Int32 × Int64 × (Nat → Int64) × (Nat → Int32) × (Nat → Int64)) (q_Pr : Nat) (q_Sp : Nat) (q_Ch : Nat) (q_list : Nat) (q_prime : Nat) (q_times : Nat) (q_told : Nat) (q_Sc : Nat) (q_parts : Nat) (v1 : Int32) (v2 : Int64) (sp_unlike : Int32) (sp_number : Int64) (sp_partsKept : Int32) (sp_partsNumber : Int64) (ch_many : Int32) (ch_kind : Int32) (ch_ending : Int32) (ch_tail : Int32) (ch_round : Int32) (ch_greatest : Int64) (n_list : Nat) (a_list : Nat → Int32) (a_prime : Nat → Int64) (a_times : Nat → Int32) (a_told : Nat → Int64) (h : j_X0_follow_27 N v1 v2 sp_unlike sp_number ch_ending ch_tail n_list a_list a_prime a_times a_told = some res) : ∀ (H : Heap) (locs : List Loc), va_P (dC, dI) vwCl (wd8 cyI cyJ cyZ q_Pr q_Sp q_Ch q_list q_prime q_times q_told q_Sc q_parts sp_unlike sp_number sp_partsKept sp_partsNumber ch_many ch_kind ch_ending ch_tail ch_round ch_greatest n_list a_list a_prime a_times a_told) H → va_D A (wd8 cyI cyJ cyZ q_Pr q_Sp q_Ch q_list q_prime q_times q_told q_Sc q_parts sp_unlike sp_number sp_partsKept sp_partsNumber ch_many ch_kind ch_ending ch_tail ch_round ch_greatest n_list a_list a_prime a_times a_told) → va_S A s.heap H locs → ∀ (ls : Array Slot), lv_has ls 6 [(0, .ref q_Ch), (1, .int v1), (2, .long v2)] → W p l e (headSpec wsX0_follow rm_X0_follow).room s m args below meth c H locs 0 0 (MQ below (va_Qv (fun (_ : Unit) => True) (bW dC dI (fun (u : Unit) => (wd8 cyI cyJ cyZ q_Pr q_Sp q_Ch q_list q_prime q_times q_told q_Sc q_parts res.1 res.2.1 sp_partsKept sp_partsNumber res.2.2.1 res.2.2.2.1 res.2.2.2.2.1 res.2.2.2.2.2.1 res.2.2.2.2.2.2.1 res.2.2.2.2.2.2.2.1 n_list a_list res.2.2.2.2.2.2.2.2.1 res.2.2.2.2.2.2.2.2.2.1 res.2.2.2.2.2.2.2.2.2.2)) A) A) args s 0 0 A) (F0 m 27 ls []) := by
  obtain ⟨hx, hb, hr, hml, hown, hts, hlocks, hG, hA⟩ := id C0
  have hK := hG.1
  intro H locs hP hD hS ls hl
  unfold j_X0_follow_27 at h
  refine lv_aload_n hx hb dX0_follow_27 rfl (lv_at hl 0 rfl) ?_
  refine lv_iload_n hx hb dX0_follow_28 rfl (lv_at hl 1 rfl) ?_
  refine va_put (D := (dC, dI)) (ci := 0) (v := .int v1) (ty := .int) (C := RX0) (T := TX0) (N := 8) hx hb hts iw_X0_follow_X0 tyX0 tyX0_ok nmX0 hown hK hP hD hS 2 rfl rfl 3 (by decide) (hts (.fieldLink RX0 19 "GoesInto$Chain" "kind" "I") (List.mem_of_getElem? (i := 1) rfl)) (fun _ h9 => h9) rfl (tyX0_ok 3 (by decide)) rfl rfl (Nat.le_of_ble_eq_true rfl) dX0_follow_29 (fun H locs hP hD hS => ?_)
  have hP : va_P (dC, dI) vwCl (wd8 cyI cyJ cyZ q_Pr q_Sp q_Ch q_list q_prime q_times q_told q_Sc q_parts sp_unlike sp_number sp_partsKept sp_partsNumber ch_many v1 ch_ending ch_tail ch_round ch_greatest n_list a_list a_prime a_times a_told) H := hP
  have hD : va_D A (wd8 cyI cyJ cyZ q_Pr q_Sp q_Ch q_list q_prime q_times q_told q_Sc q_parts sp_unlike sp_number sp_partsKept sp_partsNumber ch_many v1 ch_ending ch_tail ch_round ch_greatest n_list a_list a_prime a_times a_told) := hD
  refine lv_aload_n hx hb dX0_follow_32 rfl (lv_at hl 0 rfl) ?_
  refine va_get (D := (dC, dI)) (ci := 0) (v := .ref q_told) (C := RX0) (T := TX0) (N := 8) hx hb hts iw_X0_follow_X0 hown hK hP 2 rfl rfl 1 (by decide) (hts (.fieldLink RX0 11 "GoesInto$Chain" "told" "[J") (List.mem_of_getElem? (i := 3) rfl)) (fun _ h9 => h9) rfl dX0_follow_33 ?_
  refine lv_iconst (v := (0 : Int32)) hx hb dX0_follow_36 (by decide) ?_
  refine lv_lload_n hx hb dX0_follow_37 rfl (lv_at hl 2 rfl) ?_
  obtain ⟨b2z, h⟩ := xn h
  refine va_last hx hb hK hP hD hS 6 1 rfl rfl b2z dX0_follow_38 (fun H locs hP hD hS => ?_)
  have hP : va_P (dC, dI) vwCl (wd8 cyI cyJ cyZ q_Pr q_Sp q_Ch q_list q_prime q_times q_told q_Sc q_parts sp_unlike sp_number sp_partsKept sp_partsNumber ch_many v1 ch_ending ch_tail ch_round ch_greatest n_list a_list a_prime a_times (vp_updL a_told (0 : Int32).toNatClampNeg v2)) H := hP
  have hD : va_D A (wd8 cyI cyJ cyZ q_Pr q_Sp q_Ch q_list q_prime q_times q_told q_Sc q_parts sp_unlike sp_number sp_partsKept sp_partsNumber ch_many v1 ch_ending ch_tail ch_round ch_greatest n_list a_list a_prime a_times (vp_updL a_told (0 : Int32).toNatClampNeg v2)) := hD
  refine lv_aload_n hx hb dX0_follow_39 rfl (lv_at hl 0 rfl) ?_
  refine lv_iconst (v := (1 : Int32)) hx hb dX0_follow_40 (by decide) ?_
  refine va_put (D := (dC, dI)) (ci := 0) (v := .int (1 : Int32)) (ty := .int) (C := RX0) (T := TX0) (N := 8) hx hb hts iw_X0_follow_X0 tyX0 tyX0_ok nmX0 hown hK hP hD hS 2 rfl rfl 2 (by decide) (hts (.fieldLink RX0 15 "GoesInto$Chain" "many" "I") (List.mem_of_getElem? (i := 2) rfl)) (fun _ h9 => h9) rfl (tyX0_ok 2 (by decide)) rfl rfl (Nat.le_of_ble_eq_true rfl) dX0_follow_41 (fun H locs hP hD hS => ?_)
  have hP : va_P (dC, dI) vwCl (wd8 cyI cyJ cyZ q_Pr q_Sp q_Ch q_list q_prime q_times q_told q_Sc q_parts sp_unlike sp_number sp_partsKept sp_partsNumber (1 : Int32) v1 ch_ending ch_tail ch_round ch_greatest n_list a_list a_prime a_times (vp_updL a_told (0 : Int32).toNatClampNeg v2)) H := hP
  have hD : va_D A (wd8 cyI cyJ cyZ q_Pr q_Sp q_Ch q_list q_prime q_times q_told q_Sc q_parts sp_unlike sp_number sp_partsKept sp_partsNumber (1 : Int32) v1 ch_ending ch_tail ch_round ch_greatest n_list a_list a_prime a_times (vp_updL a_told (0 : Int32).toNatClampNeg v2)) := hD
  refine lv_aload_n hx hb dX0_follow_44 rfl (lv_at hl 0 rfl) ?_
  refine lv_lload_n hx hb dX0_follow_45 rfl (lv_at hl 2 rfl) ?_
  refine va_put (D := (dC, dI)) (ci := 0) (v := .long v2) (ty := .long) (C := RX0) (T := TX0) (N := 8) hx hb hts iw_X0_follow_X0 tyX0 tyX0_ok nmX0 hown hK hP hD hS 2 rfl rfl 7 (by decide) (hts (.fieldLink RX0 31 "GoesInto$Chain" "greatest" "J") (List.mem_of_getElem? (i := 4) rfl)) (fun _ h9 => h9) rfl (tyX0_ok 7 (by decide)) rfl rfl (Nat.le_of_ble_eq_true rfl) dX0_follow_46 (fun H locs hP hD hS => ?_)
  have hP : va_P (dC, dI) vwCl (wd8 cyI cyJ cyZ q_Pr q_Sp q_Ch q_list q_prime q_times q_told q_Sc q_parts sp_unlike sp_number sp_partsKept sp_partsNumber (1 : Int32) v1 ch_ending ch_tail ch_round v2 n_list a_list a_prime a_times (vp_updL a_told (0 : Int32).toNatClampNeg v2)) H := hP
  have hD : va_D A (wd8 cyI cyJ cyZ q_Pr q_Sp q_Ch q_list q_prime q_times q_told q_Sc q_parts sp_unlike sp_number sp_partsKept sp_partsNumber (1 : Int32) v1 ch_ending ch_tail ch_round v2 n_list a_list a_prime a_times (vp_updL a_told (0 : Int32).toNatClampNeg v2)) := hD
  refine lv_aload_n hx hb dX0_follow_49 rfl (lv_at hl 0 rfl) ?_
  refine lv_iconst (v := (0 : Int32)) hx hb dX0_follow_50 (by decide) ?_
  refine va_put (D := (dC, dI)) (ci := 0) (v := .int (0 : Int32)) (ty := .int) (C := RX0) (T := TX0) (N := 8) hx hb hts iw_X0_follow_X0 tyX0 tyX0_ok nmX0 hown hK hP hD hS 2 rfl rfl 6 (by decide) (hts (.fieldLink RX0 28 "GoesInto$Chain" "round" "I") (List.mem_of_getElem? (i := 5) rfl)) (fun _ h9 => h9) rfl (tyX0_ok 6 (by decide)) rfl rfl (Nat.le_of_ble_eq_true rfl) dX0_follow_51 (fun H locs hP hD hS => ?_)
  have hP : va_P (dC, dI) vwCl (wd8 cyI cyJ cyZ q_Pr q_Sp q_Ch q_list q_prime q_times q_told q_Sc q_parts sp_unlike sp_number sp_partsKept sp_partsNumber (1 : Int32) v1 ch_ending ch_tail (0 : Int32) v2 n_list a_list a_prime a_times (vp_updL a_told (0 : Int32).toNatClampNeg v2)) H := hP
  have hD : va_D A (wd8 cyI cyJ cyZ q_Pr q_Sp q_Ch q_list q_prime q_times q_told q_Sc q_parts sp_unlike sp_number sp_partsKept sp_partsNumber (1 : Int32) v1 ch_ending ch_tail (0 : Int32) v2 n_list a_list a_prime a_times (vp_updL a_told (0 : Int32).toNatClampNeg v2)) := hD
  refine lv_iconst (v := (1 : Int32)) hx hb dX0_follow_54 (by decide) ?_
  refine lv_istore (lv' := [(4, .int (1 : Int32)), (0, .ref q_Ch), (1, .int v1), (2, .long v2)]) hx hb dX0_follow_55 hl (by decide) rfl (fun ls hl => ?_)
  refine lv_iconst (v := (1 : Int32)) hx hb dX0_follow_57 (by decide) ?_
  refine lv_istore (lv' := [(5, .int (1 : Int32)), (4, .int (1 : Int32)), (0, .ref q_Ch), (1, .int v1), (2, .long v2)]) hx hb dX0_follow_58 hl (by decide) rfl (fun ls hl => ?_)
  exact k_X0_follow_60 C0 N res q_Pr q_Sp q_Ch q_list q_prime q_times q_told q_Sc q_parts sp_partsKept sp_partsNumber v1 n_list a_list N (1 : Int32) (1 : Int32) sp_unlike sp_number (1 : Int32) ch_ending ch_tail (0 : Int32) v2 a_prime a_times (vp_updL a_told (0 : Int32).toNatClampNeg v2) h _ _ hP hD hS _ (lv_sub hl [2, 1, 0] rfl)
def f_X0_follow (N : Nat) (v1 : Int32) (v2 : Int64) (sp_unlike : Int32) (sp_number : Int64) (ch_many : Int32) (ch_kind : Int32) (ch_ending : Int32) (ch_tail : Int32) (ch_round : Int32) (ch_greatest : Int64) (n_list : Nat) (a_list : Nat → Int32) (a_prime : Nat → Int64) (a_times : Nat → Int32) (a_told : Nat → Int64) : Option (Int32 × Int64 × Int32 × Int32 × Int32 × Int32 × Int32 × Int64 × (Nat → Int64) × (Nat → Int32) × (Nat → Int64)) :=
  if v1 = ch_kind then
    if ch_many ≤ 0 then
      j_X0_follow_27 N v1 v2 sp_unlike sp_number ch_ending ch_tail n_list a_list a_prime a_times a_told
    else
      if (0 : Int32) < 0 ∨ 201 ≤ (0 : Int32).toNatClampNeg then
        none
      else
        if (a_told (0 : Int32).toNatClampNeg) = v2 then
          some (sp_unlike, sp_number, ch_many, ch_kind, ch_ending, ch_tail, ch_round, ch_greatest, a_prime, a_times, a_told)
        else
          j_X0_follow_27 N v1 v2 sp_unlike sp_number ch_ending ch_tail n_list a_list a_prime a_times a_told
  else
    j_X0_follow_27 N v1 v2 sp_unlike sp_number ch_ending ch_tail n_list a_list a_prime a_times a_told
set_option maxRecDepth 100000 in
set_option maxHeartbeats 4000000 in
theorem k_X0_follow_0 {p : Program} {l : Launch} {e : Env} {s : State} {m : MethodId} {args : Array Value} {below : List Frame} {meth : Method} {c : Code} {dC : Nat → ClassId} {dI : Nat → Nat → Nat} {cyI cyJ cyZ : ClassId} {A : Nat → Prop} (C0 : mC p s m meth c args cX0_follow none 6 RX0 wsX0_follow (gK dC dI cyI cyJ cyZ) A) (N : Nat) (res : Int32 × Int64 × Int32 × Int32 × Int32 × Int32 × Int32 × Int64 × (Nat → Int64) × (Nat → Int32) × (Nat → Int64)) (q_Pr : Nat) (q_Sp : Nat) (q_Ch : Nat) (q_list : Nat) (q_prime : Nat) (q_times : Nat) (q_told : Nat) (q_Sc : Nat) (q_parts : Nat) (v1 : Int32) (v2 : Int64) (sp_unlike : Int32) (sp_number : Int64) (sp_partsKept : Int32) (sp_partsNumber : Int64) (ch_many : Int32) (ch_kind : Int32) (ch_ending : Int32) (ch_tail : Int32) (ch_round : Int32) (ch_greatest : Int64) (n_list : Nat) (a_list : Nat → Int32) (a_prime : Nat → Int64) (a_times : Nat → Int32) (a_told : Nat → Int64) (h : f_X0_follow N v1 v2 sp_unlike sp_number ch_many ch_kind ch_ending ch_tail ch_round ch_greatest n_list a_list a_prime a_times a_told = some res) : ∀ (H : Heap) (locs : List Loc), va_P (dC, dI) vwCl (wd8 cyI cyJ cyZ q_Pr q_Sp q_Ch q_list q_prime q_times q_told q_Sc q_parts sp_unlike sp_number sp_partsKept sp_partsNumber ch_many ch_kind ch_ending ch_tail ch_round ch_greatest n_list a_list a_prime a_times a_told) H → va_D A (wd8 cyI cyJ cyZ q_Pr q_Sp q_Ch q_list q_prime q_times q_told q_Sc q_parts sp_unlike sp_number sp_partsKept sp_partsNumber ch_many ch_kind ch_ending ch_tail ch_round ch_greatest n_list a_list a_prime a_times a_told) → va_S A s.heap H locs → ∀ (ls : Array Slot), lv_has ls 6 [(0, .ref q_Ch), (1, .int v1), (2, .long v2)] → W p l e (headSpec wsX0_follow rm_X0_follow).room s m args below meth c H locs 0 0 (MQ below (va_Qv (fun (_ : Unit) => True) (bW dC dI (fun (u : Unit) => (wd8 cyI cyJ cyZ q_Pr q_Sp q_Ch q_list q_prime q_times q_told q_Sc q_parts res.1 res.2.1 sp_partsKept sp_partsNumber res.2.2.1 res.2.2.2.1 res.2.2.2.2.1 res.2.2.2.2.2.1 res.2.2.2.2.2.2.1 res.2.2.2.2.2.2.2.1 n_list a_list res.2.2.2.2.2.2.2.2.1 res.2.2.2.2.2.2.2.2.2.1 res.2.2.2.2.2.2.2.2.2.2)) A) A) args s 0 0 A) (F0 m 0 ls []) := by
  obtain ⟨hx, hb, hr, hml, hown, hts, hlocks, hG, hA⟩ := id C0
  have hK := hG.1
  intro H locs hP hD hS ls hl
  unfold f_X0_follow at h
  refine lv_iload_n hx hb dX0_follow_0 rfl (lv_at hl 1 rfl) ?_
  refine lv_aload_n hx hb dX0_follow_1 rfl (lv_at hl 0 rfl) ?_
  refine va_get (D := (dC, dI)) (ci := 0) (v := .int ch_kind) (C := RX0) (T := TX0) (N := 8) hx hb hts iw_X0_follow_X0 hown hK hP 2 rfl rfl 3 (by decide) (hts (.fieldLink RX0 19 "GoesInto$Chain" "kind" "I") (List.mem_of_getElem? (i := 1) rfl)) (fun _ h9 => h9) rfl dX0_follow_2 ?_
  refine lv_icmp_ne (tgt := 27) hx hb dX0_follow_5 (by decide) (fun c1z => ?_) (fun c1z => ?_)
  · have h := xf h c1z
    exact k_X0_follow_27 C0 N res q_Pr q_Sp q_Ch q_list q_prime q_times q_told q_Sc q_parts v1 v2 sp_unlike sp_number sp_partsKept sp_partsNumber ch_many ch_kind ch_ending ch_tail ch_round ch_greatest n_list a_list a_prime a_times a_told  h _ _ hP hD hS _ (lv_sub hl [0, 1, 2] rfl)
  · have h := xt h c1z
    refine lv_aload_n hx hb dX0_follow_8 rfl (lv_at hl 0 rfl) ?_
    refine va_get (D := (dC, dI)) (ci := 0) (v := .int ch_many) (C := RX0) (T := TX0) (N := 8) hx hb hts iw_X0_follow_X0 hown hK hP 2 rfl rfl 2 (by decide) (hts (.fieldLink RX0 15 "GoesInto$Chain" "many" "I") (List.mem_of_getElem? (i := 2) rfl)) (fun _ h9 => h9) rfl dX0_follow_9 ?_
    refine lv_if_le (tgt := 27) hx hb dX0_follow_12 (by decide) (fun c15z => ?_) (fun c15z => ?_)
    · have h := xt h c15z
      exact k_X0_follow_27 C0 N res q_Pr q_Sp q_Ch q_list q_prime q_times q_told q_Sc q_parts v1 v2 sp_unlike sp_number sp_partsKept sp_partsNumber ch_many ch_kind ch_ending ch_tail ch_round ch_greatest n_list a_list a_prime a_times a_told  h _ _ hP hD hS _ (lv_sub hl [0, 1, 2] rfl)
    · have h := xf h c15z
      refine lv_aload_n hx hb dX0_follow_15 rfl (lv_at hl 0 rfl) ?_
      refine va_get (D := (dC, dI)) (ci := 0) (v := .ref q_told) (C := RX0) (T := TX0) (N := 8) hx hb hts iw_X0_follow_X0 hown hK hP 2 rfl rfl 1 (by decide) (hts (.fieldLink RX0 11 "GoesInto$Chain" "told" "[J") (List.mem_of_getElem? (i := 3) rfl)) (fun _ h9 => h9) rfl dX0_follow_16 ?_
      refine lv_iconst (v := (0 : Int32)) hx hb dX0_follow_19 (by decide) ?_
      obtain ⟨b16z, h⟩ := xn h
      refine va_lald hx hb hK hP 6 1 rfl rfl b16z dX0_follow_20 ?_
      refine lv_lload_n hx hb dX0_follow_21 rfl (lv_at hl 2 rfl) ?_
      refine W.lcmp hx hb dX0_follow_22 ?_
      refine lv_if_ne (tgt := 27) hx hb dX0_follow_23 (by decide) (fun c17z => ?_) (fun c17z => ?_)
      · have c17z := fun z => c17z ((lg_cmp_eq _ _).mpr z)
        have h := xf h c17z
        exact k_X0_follow_27 C0 N res q_Pr q_Sp q_Ch q_list q_prime q_times q_told q_Sc q_parts v1 v2 sp_unlike sp_number sp_partsKept sp_partsNumber ch_many ch_kind ch_ending ch_tail ch_round ch_greatest n_list a_list a_prime a_times a_told  h _ _ hP hD hS _ (lv_sub hl [0, 1, 2] rfl)
      · have c17z := (lg_cmp_eq _ _).mp c17z
        have h := xt h c17z
        obtain rfl := Option.some.inj h
        exact W.vret hx hb hr (fun t ht hW => ⟨⟨(), rfl, trivial, by rw [ht]; exact hP, hD⟩, hS.F ht⟩) hS.2.2 dX0_follow_26 hlocks
set_option maxRecDepth 100000 in
set_option maxHeartbeats 4000000 in
theorem c_X0_follow (l : Launch) (dC : Nat → ClassId) (dI : Nat → Nat → Nat) (cyI cyJ cyZ : ClassId) (N : Nat) (res : Int32 × Int64 × Int32 × Int32 × Int32 × Int32 × Int32 × Int64 × (Nat → Int64) × (Nat → Int32) × (Nat → Int64)) (sz : Nat) (q_Pr : Nat) (q_Sp : Nat) (q_Ch : Nat) (q_list : Nat) (q_prime : Nat) (q_times : Nat) (q_told : Nat) (q_Sc : Nat) (q_parts : Nat) (v1 : Int32) (v2 : Int64) (sp_unlike : Int32) (sp_number : Int64) (sp_partsKept : Int32) (sp_partsNumber : Int64) (ch_many : Int32) (ch_kind : Int32) (ch_ending : Int32) (ch_tail : Int32) (ch_round : Int32) (ch_greatest : Int64) (n_list : Nat) (a_list : Nat → Int32) (a_prime : Nat → Int64) (a_times : Nat → Int32) (a_told : Nat → Int64) (h : f_X0_follow N v1 v2 sp_unlike sp_number ch_many ch_kind ch_ending ch_tail ch_round ch_greatest n_list a_list a_prime a_times a_told = some res) : Met l yX0_follow wsX0_follow rm_X0_follow (pC dC dI cyI cyJ cyZ [.ref q_Ch, .int v1, .long v2] sz (wd8 cyI cyJ cyZ q_Pr q_Sp q_Ch q_list q_prime q_times q_told q_Sc q_parts sp_unlike sp_number sp_partsKept sp_partsNumber ch_many ch_kind ch_ending ch_tail ch_round ch_greatest n_list a_list a_prime a_times a_told)) (va_Qv (fun (_ : Unit) => True) (bW dC dI (fun (u : Unit) => (wd8 cyI cyJ cyZ q_Pr q_Sp q_Ch q_list q_prime q_times q_told q_Sc q_parts res.1 res.2.1 sp_partsKept sp_partsNumber res.2.2.1 res.2.2.2.1 res.2.2.2.2.1 res.2.2.2.2.2.1 res.2.2.2.2.2.2.1 res.2.2.2.2.2.2.2.1 n_list a_list res.2.2.2.2.2.2.2.2.1 res.2.2.2.2.2.2.2.2.2.1 res.2.2.2.2.2.2.2.2.2.2)) (va_A (wd8 cyI cyJ cyZ q_Pr q_Sp q_Ch q_list q_prime q_times q_told q_Sc q_parts sp_unlike sp_number sp_partsKept sp_partsNumber ch_many ch_kind ch_ending ch_tail ch_round ch_greatest n_list a_list a_prime a_times a_told) sz)) (va_A (wd8 cyI cyJ cyZ q_Pr q_Sp q_Ch q_list q_prime q_times q_told q_Sc q_parts sp_unlike sp_number sp_partsKept sp_partsNumber ch_many ch_kind ch_ending ch_tail ch_round ch_greatest n_list a_list a_prime a_times a_told) sz)) 0 0 (va_A (wd8 cyI cyJ cyZ q_Pr q_Sp q_Ch q_list q_prime q_times q_told q_Sc q_parts sp_unlike sp_number sp_partsKept sp_partsNumber ch_many ch_kind ch_ending ch_tail ch_round ch_greatest n_list a_list a_prime a_times a_told) sz) := by
  refine Met.ofW (cc := cX0_follow) (maxL := 6) (ret := none) (by decide) rfl ?_
  intro p e s m args below meth c s₁ B hml hv
  obtain ⟨rfl, hsz, hP, hG, hD0⟩ := hv
  have hx := B.exec
  have hb := B.bytes
  have hr := B.returns
  have hts := atoms_spec (ws := wsX0_follow) B.pre
  have hown : s.vm.findClass RX0 = some m.cls := findClass_of_methodNamed B.named
  have hlocks := B.notSynchronized
  subst hsz
  have hD := hD0.self (sz := s.heap.size)
  generalize hAe : va_A (wd8 cyI cyJ cyZ q_Pr q_Sp q_Ch q_list q_prime q_times q_told q_Sc q_parts sp_unlike sp_number sp_partsKept sp_partsNumber ch_many ch_kind ch_ending ch_tail ch_round ch_greatest n_list a_list a_prime a_times a_told) s.heap.size = A at hD ⊢
  have hA : ∀ q : Nat, s.heap.size ≤ q → A q := fun q h => by rw [← hAe]; exact Or.inr h
  have hS : va_S A s.heap s.heap [] := va_S.rf
  have hl := lv_entry ([.ref q_Ch, .int v1, .long v2]) (n := 6) (Nat.le_of_ble_eq_true rfl)
  rw [lg_entry_eq]
  generalize (lg_sl ([.ref q_Ch, .int v1, .long v2]) ++ List.replicate (6 - (lg_sl ([.ref q_Ch, .int v1, .long v2])).length) Slot.unset).toArray = ls at hl ⊢
  have hl : lv_has ls 6 [(0, .ref q_Ch), (1, .int v1), (2, .long v2)] := hl
  exact k_X0_follow_0 ⟨hx, hb, hr, hml, hown, hts, hlocks, hG, hA⟩ N res q_Pr q_Sp q_Ch q_list q_prime q_times q_told q_Sc q_parts v1 v2 sp_unlike sp_number sp_partsKept sp_partsNumber ch_many ch_kind ch_ending ch_tail ch_round ch_greatest n_list a_list a_prime a_times a_told  h _ _ hP hD hS _ hl
abbrev rm_X0_numberAt : Room := { frames := 0, cells := 0, slots := 0, locals := 0 }
theorem hd_X0_numberAt : yX0_numberAt.cls ≠ "java/lang/invoke/MethodHandle" ∧ yX0_numberAt.cls ≠ "java/lang/invoke/VarHandle" ∧ (parseMethodDescriptor yX0_numberAt.desc).map (fun d => d.parameters.length) = some 1 := by decide +kernel
theorem iw_X0_numberAt_X0 : ∀ w ∈ wsX00, w ∈ wsX0_numberAt := List.forall_mem_cons.mpr ⟨List.mem_of_getElem? (i := 7) rfl, List.forall_mem_cons.mpr ⟨List.mem_of_getElem? (i := 8) rfl, List.forall_mem_cons.mpr ⟨List.mem_of_getElem? (i := 9) rfl, List.forall_mem_cons.mpr ⟨List.mem_of_getElem? (i := 10) rfl, List.forall_mem_cons.mpr ⟨List.mem_of_getElem? (i := 11) rfl, List.forall_mem_cons.mpr ⟨List.mem_of_getElem? (i := 12) rfl, List.forall_mem_cons.mpr ⟨List.mem_of_getElem? (i := 13) rfl, List.forall_mem_cons.mpr ⟨List.mem_of_getElem? (i := 14) rfl, fun _ h => absurd h List.not_mem_nil⟩⟩⟩⟩⟩⟩⟩⟩
def j_X0_numberAt_59 (N : Nat) (v2 : Int32) (ch_many : Int32) (a_told : Nat → Int64) : Option (Int64) :=
  if v2 < 0 then
    some (-4 : Int64)
  else
    if ch_many ≤ v2 then
      some (-4 : Int64)
    else
      if (201 : Int32) ≤ v2 then
        some (-4 : Int64)
      else
        if v2 < 0 ∨ 201 ≤ v2.toNatClampNeg then
          none
        else
          some (a_told v2.toNatClampNeg)
set_option maxRecDepth 100000 in
set_option maxHeartbeats 4000000 in
theorem k_X0_numberAt_59 {p : Program} {l : Launch} {e : Env} {s : State} {m : MethodId} {args : Array Value} {below : List Frame} {meth : Method} {c : Code} {dC : Nat → ClassId} {dI : Nat → Nat → Nat} {cyI cyJ cyZ : ClassId} {A : Nat → Prop} (C0 : mC p s m meth c args cX0_numberAt (some .long) 3 RX0 wsX0_numberAt (gK dC dI cyI cyJ cyZ) A) (N : Nat) (res : Int64) (q_Ch : Nat) (q_told : Nat) (q_Sp : Nat) (v2 : Int32) (ch_many : Int32) (ch_kind : Int32) (ch_ending : Int32) (ch_tail : Int32) (ch_round : Int32) (ch_greatest : Int64) (a_told : Nat → Int64) (h : j_X0_numberAt_59 N v2 ch_many a_told = some res) : ∀ (H : Heap) (locs : List Loc), va_P (dC, dI) vwCl (wd7 cyI cyJ cyZ q_Ch q_told q_Sp ch_many ch_kind ch_ending ch_tail ch_round ch_greatest a_told) H → va_D A (wd7 cyI cyJ cyZ q_Ch q_told q_Sp ch_many ch_kind ch_ending ch_tail ch_round ch_greatest a_told) → va_S A s.heap H locs → ∀ (ls : Array Slot), lv_has ls 3 [(0, .ref q_Ch), (2, .int v2)] → W p l e (headSpec wsX0_numberAt rm_X0_numberAt).room s m args below meth c H locs 0 0 (MQ below (va_Ql (fun (r : Int64) (_ : Unit) => r = res) (bW dC dI (fun (u : Unit) => (wd7 cyI cyJ cyZ q_Ch q_told q_Sp ch_many ch_kind ch_ending ch_tail ch_round ch_greatest a_told)) A) A) args s 0 0 A) (F0 m 59 ls []) := by
  obtain ⟨hx, hb, hr, hml, hown, hts, hlocks, hG, hA⟩ := id C0
  have hK := hG.1
  intro H locs hP hD hS ls hl
  unfold j_X0_numberAt_59 at h
  refine lv_iload_n hx hb dX0_numberAt_59 rfl (lv_at hl 1 rfl) ?_
  refine lv_if_lt (tgt := 87) hx hb dX0_numberAt_60 (by decide) (fun c3z => ?_) (fun c3z => ?_)
  · have h := xt h c3z
    refine lv_ldc2 (v := (-4 : Int64)) hx hb hown (hts (.constantLong RX0 61 (-4)) (List.mem_of_getElem? (i := 6) rfl)) dX0_numberAt_87 ?_
    obtain rfl := Option.some.inj h
    exact W.lret (v := (-4 : Int64)) hx hb hr (fun t ht hW => ⟨⟨_, (), rfl, rfl, by rw [ht]; exact hP, hD⟩, hS.F ht⟩) hS.2.2 dX0_numberAt_90 hlocks
  · have h := xf h c3z
    refine lv_iload_n hx hb dX0_numberAt_63 rfl (lv_at hl 1 rfl) ?_
    refine lv_aload_n hx hb dX0_numberAt_64 rfl (lv_at hl 0 rfl) ?_
    refine va_get (D := (dC, dI)) (ci := 0) (v := .int ch_many) (C := RX0) (T := TX0) (N := 8) hx hb hts iw_X0_numberAt_X0 hown hK hP 0 rfl rfl 2 (by decide) (hts (.fieldLink RX0 15 "GoesInto$Chain" "many" "I") (List.mem_of_getElem? (i := 4) rfl)) (fun _ h9 => h9) rfl dX0_numberAt_65 ?_
    refine lv_icmp_ge (tgt := 87) hx hb dX0_numberAt_68 (by decide) (fun c4z => ?_) (fun c4z => ?_)
    · have h := xt h c4z
      refine lv_ldc2 (v := (-4 : Int64)) hx hb hown (hts (.constantLong RX0 61 (-4)) (List.mem_of_getElem? (i := 6) rfl)) dX0_numberAt_87 ?_
      obtain rfl := Option.some.inj h
      exact W.lret (v := (-4 : Int64)) hx hb hr (fun t ht hW => ⟨⟨_, (), rfl, rfl, by rw [ht]; exact hP, hD⟩, hS.F ht⟩) hS.2.2 dX0_numberAt_90 hlocks
    · have h := xf h c4z
      refine lv_iload_n hx hb dX0_numberAt_71 rfl (lv_at hl 1 rfl) ?_
      refine lv_sipush (v := (201 : Int32)) hx hb dX0_numberAt_72 (by decide) ?_
      refine lv_icmp_ge (tgt := 87) hx hb dX0_numberAt_75 (by decide) (fun c5z => ?_) (fun c5z => ?_)
      · have h := xt h c5z
        refine lv_ldc2 (v := (-4 : Int64)) hx hb hown (hts (.constantLong RX0 61 (-4)) (List.mem_of_getElem? (i := 6) rfl)) dX0_numberAt_87 ?_
        obtain rfl := Option.some.inj h
        exact W.lret (v := (-4 : Int64)) hx hb hr (fun t ht hW => ⟨⟨_, (), rfl, rfl, by rw [ht]; exact hP, hD⟩, hS.F ht⟩) hS.2.2 dX0_numberAt_90 hlocks
      · have h := xf h c5z
        refine lv_aload_n hx hb dX0_numberAt_78 rfl (lv_at hl 0 rfl) ?_
        refine va_get (D := (dC, dI)) (ci := 0) (v := .ref q_told) (C := RX0) (T := TX0) (N := 8) hx hb hts iw_X0_numberAt_X0 hown hK hP 0 rfl rfl 1 (by decide) (hts (.fieldLink RX0 11 "GoesInto$Chain" "told" "[J") (List.mem_of_getElem? (i := 5) rfl)) (fun _ h9 => h9) rfl dX0_numberAt_79 ?_
        refine lv_iload_n hx hb dX0_numberAt_82 rfl (lv_at hl 1 rfl) ?_
        obtain ⟨b6z, h⟩ := xn h
        refine va_lald hx hb hK hP 1 1 rfl rfl b6z dX0_numberAt_83 ?_
        refine lv_goto (tgt := 90) hx hb dX0_numberAt_84 (by decide) ?_
        obtain rfl := Option.some.inj h
        exact W.lret (v := a_told v2.toNatClampNeg) hx hb hr (fun t ht hW => ⟨⟨_, (), rfl, rfl, by rw [ht]; exact hP, hD⟩, hS.F ht⟩) hS.2.2 dX0_numberAt_90 hlocks
def j_X0_numberAt_42 (N : Nat) (v2 : Int32) (ch_many : Int32) (ch_ending : Int32) (ch_tail : Int32) (a_told : Nat → Int64) : Option (Int64) :=
  if ch_ending = 0 then
    if v2 = ch_tail then
      some (0 : Int64)
    else
      j_X0_numberAt_59 N v2 ch_many a_told
  else
    j_X0_numberAt_59 N v2 ch_many a_told
set_option maxRecDepth 100000 in
set_option maxHeartbeats 4000000 in
theorem k_X0_numberAt_42 {p : Program} {l : Launch} {e : Env} {s : State} {m : MethodId} {args : Array Value} {below : List Frame} {meth : Method} {c : Code} {dC : Nat → ClassId} {dI : Nat → Nat → Nat} {cyI cyJ cyZ : ClassId} {A : Nat → Prop} (C0 : mC p s m meth c args cX0_numberAt (some .long) 3 RX0 wsX0_numberAt (gK dC dI cyI cyJ cyZ) A) (N : Nat) (res : Int64) (q_Ch : Nat) (q_told : Nat) (q_Sp : Nat) (v2 : Int32) (ch_many : Int32) (ch_kind : Int32) (ch_ending : Int32) (ch_tail : Int32) (ch_round : Int32) (ch_greatest : Int64) (a_told : Nat → Int64) (h : j_X0_numberAt_42 N v2 ch_many ch_ending ch_tail a_told = some res) : ∀ (H : Heap) (locs : List Loc), va_P (dC, dI) vwCl (wd7 cyI cyJ cyZ q_Ch q_told q_Sp ch_many ch_kind ch_ending ch_tail ch_round ch_greatest a_told) H → va_D A (wd7 cyI cyJ cyZ q_Ch q_told q_Sp ch_many ch_kind ch_ending ch_tail ch_round ch_greatest a_told) → va_S A s.heap H locs → ∀ (ls : Array Slot), lv_has ls 3 [(0, .ref q_Ch), (2, .int v2)] → W p l e (headSpec wsX0_numberAt rm_X0_numberAt).room s m args below meth c H locs 0 0 (MQ below (va_Ql (fun (r : Int64) (_ : Unit) => r = res) (bW dC dI (fun (u : Unit) => (wd7 cyI cyJ cyZ q_Ch q_told q_Sp ch_many ch_kind ch_ending ch_tail ch_round ch_greatest a_told)) A) A) args s 0 0 A) (F0 m 42 ls []) := by
  obtain ⟨hx, hb, hr, hml, hown, hts, hlocks, hG, hA⟩ := id C0
  have hK := hG.1
  intro H locs hP hD hS ls hl
  unfold j_X0_numberAt_42 at h
  refine lv_aload_n hx hb dX0_numberAt_42 rfl (lv_at hl 0 rfl) ?_
  refine va_get (D := (dC, dI)) (ci := 0) (v := .int ch_ending) (C := RX0) (T := TX0) (N := 8) hx hb hts iw_X0_numberAt_X0 hown hK hP 0 rfl rfl 4 (by decide) (hts (.fieldLink RX0 22 "GoesInto$Chain" "ending" "I") (List.mem_of_getElem? (i := 1) rfl)) (fun _ h9 => h9) rfl dX0_numberAt_43 ?_
  refine lv_if_ne (tgt := 59) hx hb dX0_numberAt_46 (by decide) (fun c2z => ?_) (fun c2z => ?_)
  · have h := xf h c2z
    exact k_X0_numberAt_59 C0 N res q_Ch q_told q_Sp v2 ch_many ch_kind ch_ending ch_tail ch_round ch_greatest a_told  h _ _ hP hD hS _ (lv_sub hl [0, 1] rfl)
  · have h := xt h c2z
    refine lv_iload_n hx hb dX0_numberAt_49 rfl (lv_at hl 1 rfl) ?_
    refine lv_aload_n hx hb dX0_numberAt_50 rfl (lv_at hl 0 rfl) ?_
    refine va_get (D := (dC, dI)) (ci := 0) (v := .int ch_tail) (C := RX0) (T := TX0) (N := 8) hx hb hts iw_X0_numberAt_X0 hown hK hP 0 rfl rfl 5 (by decide) (hts (.fieldLink RX0 25 "GoesInto$Chain" "tail" "I") (List.mem_of_getElem? (i := 2) rfl)) (fun _ h9 => h9) rfl dX0_numberAt_51 ?_
    refine lv_icmp_ne (tgt := 59) hx hb dX0_numberAt_54 (by decide) (fun c7z => ?_) (fun c7z => ?_)
    · have h := xf h c7z
      exact k_X0_numberAt_59 C0 N res q_Ch q_told q_Sp v2 ch_many ch_kind ch_ending ch_tail ch_round ch_greatest a_told  h _ _ hP hD hS _ (lv_sub hl [0, 1] rfl)
    · have h := xt h c7z
      refine lv_lconst (v := (0 : Int64)) hx hb dX0_numberAt_57 (by decide) ?_
      obtain rfl := Option.some.inj h
      exact W.lret (v := (0 : Int64)) hx hb hr (fun t ht hW => ⟨⟨_, (), rfl, rfl, by rw [ht]; exact hP, hD⟩, hS.F ht⟩) hS.2.2 dX0_numberAt_58 hlocks
def f_X0_numberAt (N : Nat) (v1 : Int32) (ch_many : Int32) (ch_ending : Int32) (ch_tail : Int32) (ch_round : Int32) (a_told : Nat → Int64) : Option (Int64) :=
  if ch_ending = (1 : Int32) then
    if v1 < ch_tail then
      j_X0_numberAt_42 N v1 ch_many ch_ending ch_tail a_told
    else
      if ch_round ≤ 0 then
        j_X0_numberAt_42 N v1 ch_many ch_ending ch_tail a_told
      else
        if ch_round = 0 then
          none
        else
          xl (ch_tail + ((v1 - ch_tail) - (v1 - ch_tail) / ch_round * ch_round)) fun y11z =>
          j_X0_numberAt_42 N y11z ch_many ch_ending ch_tail a_told
  else
    j_X0_numberAt_42 N v1 ch_many ch_ending ch_tail a_told
set_option maxRecDepth 100000 in
set_option maxHeartbeats 4000000 in
theorem k_X0_numberAt_0 {p : Program} {l : Launch} {e : Env} {s : State} {m : MethodId} {args : Array Value} {below : List Frame} {meth : Method} {c : Code} {dC : Nat → ClassId} {dI : Nat → Nat → Nat} {cyI cyJ cyZ : ClassId} {A : Nat → Prop} (C0 : mC p s m meth c args cX0_numberAt (some .long) 3 RX0 wsX0_numberAt (gK dC dI cyI cyJ cyZ) A) (N : Nat) (res : Int64) (q_Ch : Nat) (q_told : Nat) (q_Sp : Nat) (v1 : Int32) (ch_many : Int32) (ch_kind : Int32) (ch_ending : Int32) (ch_tail : Int32) (ch_round : Int32) (ch_greatest : Int64) (a_told : Nat → Int64) (h : f_X0_numberAt N v1 ch_many ch_ending ch_tail ch_round a_told = some res) : ∀ (H : Heap) (locs : List Loc), va_P (dC, dI) vwCl (wd7 cyI cyJ cyZ q_Ch q_told q_Sp ch_many ch_kind ch_ending ch_tail ch_round ch_greatest a_told) H → va_D A (wd7 cyI cyJ cyZ q_Ch q_told q_Sp ch_many ch_kind ch_ending ch_tail ch_round ch_greatest a_told) → va_S A s.heap H locs → ∀ (ls : Array Slot), lv_has ls 3 [(0, .ref q_Ch), (1, .int v1)] → W p l e (headSpec wsX0_numberAt rm_X0_numberAt).room s m args below meth c H locs 0 0 (MQ below (va_Ql (fun (r : Int64) (_ : Unit) => r = res) (bW dC dI (fun (u : Unit) => (wd7 cyI cyJ cyZ q_Ch q_told q_Sp ch_many ch_kind ch_ending ch_tail ch_round ch_greatest a_told)) A) A) args s 0 0 A) (F0 m 0 ls []) := by
  obtain ⟨hx, hb, hr, hml, hown, hts, hlocks, hG, hA⟩ := id C0
  have hK := hG.1
  intro H locs hP hD hS ls hl
  unfold f_X0_numberAt at h
  refine lv_iload_n hx hb dX0_numberAt_0 rfl (lv_at hl 1 rfl) ?_
  refine lv_istore_n (lv' := [(2, .int v1), (0, .ref q_Ch), (1, .int v1)]) hx hb dX0_numberAt_1 rfl hl (by decide) rfl (fun ls hl => ?_)
  refine lv_aload_n hx hb dX0_numberAt_2 rfl (lv_at hl 1 rfl) ?_
  refine va_get (D := (dC, dI)) (ci := 0) (v := .int ch_ending) (C := RX0) (T := TX0) (N := 8) hx hb hts iw_X0_numberAt_X0 hown hK hP 0 rfl rfl 4 (by decide) (hts (.fieldLink RX0 22 "GoesInto$Chain" "ending" "I") (List.mem_of_getElem? (i := 1) rfl)) (fun _ h9 => h9) rfl dX0_numberAt_3 ?_
  refine lv_iconst (v := (1 : Int32)) hx hb dX0_numberAt_6 (by decide) ?_
  refine lv_icmp_ne (tgt := 42) hx hb dX0_numberAt_7 (by decide) (fun c1z => ?_) (fun c1z => ?_)
  · have h := xf h c1z
    exact k_X0_numberAt_42 C0 N res q_Ch q_told q_Sp v1 ch_many ch_kind ch_ending ch_tail ch_round ch_greatest a_told  h _ _ hP hD hS _ (lv_sub hl [1, 0] rfl)
  · have h := xt h c1z
    refine lv_iload_n hx hb dX0_numberAt_10 rfl (lv_at hl 2 rfl) ?_
    refine lv_aload_n hx hb dX0_numberAt_11 rfl (lv_at hl 1 rfl) ?_
    refine va_get (D := (dC, dI)) (ci := 0) (v := .int ch_tail) (C := RX0) (T := TX0) (N := 8) hx hb hts iw_X0_numberAt_X0 hown hK hP 0 rfl rfl 5 (by decide) (hts (.fieldLink RX0 25 "GoesInto$Chain" "tail" "I") (List.mem_of_getElem? (i := 2) rfl)) (fun _ h9 => h9) rfl dX0_numberAt_12 ?_
    refine lv_icmp_lt (tgt := 42) hx hb dX0_numberAt_15 (by decide) (fun c8z => ?_) (fun c8z => ?_)
    · have h := xt h c8z
      exact k_X0_numberAt_42 C0 N res q_Ch q_told q_Sp v1 ch_many ch_kind ch_ending ch_tail ch_round ch_greatest a_told  h _ _ hP hD hS _ (lv_sub hl [1, 0] rfl)
    · have h := xf h c8z
      refine lv_aload_n hx hb dX0_numberAt_18 rfl (lv_at hl 1 rfl) ?_
      refine va_get (D := (dC, dI)) (ci := 0) (v := .int ch_round) (C := RX0) (T := TX0) (N := 8) hx hb hts iw_X0_numberAt_X0 hown hK hP 0 rfl rfl 6 (by decide) (hts (.fieldLink RX0 28 "GoesInto$Chain" "round" "I") (List.mem_of_getElem? (i := 3) rfl)) (fun _ h9 => h9) rfl dX0_numberAt_19 ?_
      refine lv_if_le (tgt := 42) hx hb dX0_numberAt_22 (by decide) (fun c9z => ?_) (fun c9z => ?_)
      · have h := xt h c9z
        exact k_X0_numberAt_42 C0 N res q_Ch q_told q_Sp v1 ch_many ch_kind ch_ending ch_tail ch_round ch_greatest a_told  h _ _ hP hD hS _ (lv_sub hl [1, 0] rfl)
      · have h := xf h c9z
        refine lv_aload_n hx hb dX0_numberAt_25 rfl (lv_at hl 1 rfl) ?_
        refine va_get (D := (dC, dI)) (ci := 0) (v := .int ch_tail) (C := RX0) (T := TX0) (N := 8) hx hb hts iw_X0_numberAt_X0 hown hK hP 0 rfl rfl 5 (by decide) (hts (.fieldLink RX0 25 "GoesInto$Chain" "tail" "I") (List.mem_of_getElem? (i := 2) rfl)) (fun _ h9 => h9) rfl dX0_numberAt_26 ?_
        refine lv_iload_n hx hb dX0_numberAt_29 rfl (lv_at hl 2 rfl) ?_
        refine lv_aload_n hx hb dX0_numberAt_30 rfl (lv_at hl 1 rfl) ?_
        refine va_get (D := (dC, dI)) (ci := 0) (v := .int ch_tail) (C := RX0) (T := TX0) (N := 8) hx hb hts iw_X0_numberAt_X0 hown hK hP 0 rfl rfl 5 (by decide) (hts (.fieldLink RX0 25 "GoesInto$Chain" "tail" "I") (List.mem_of_getElem? (i := 2) rfl)) (fun _ h9 => h9) rfl dX0_numberAt_31 ?_
        refine lv_isub hx hb dX0_numberAt_34 ?_
        refine lv_aload_n hx hb dX0_numberAt_35 rfl (lv_at hl 1 rfl) ?_
        refine va_get (D := (dC, dI)) (ci := 0) (v := .int ch_round) (C := RX0) (T := TX0) (N := 8) hx hb hts iw_X0_numberAt_X0 hown hK hP 0 rfl rfl 6 (by decide) (hts (.fieldLink RX0 28 "GoesInto$Chain" "round" "I") (List.mem_of_getElem? (i := 3) rfl)) (fun _ h9 => h9) rfl dX0_numberAt_36 ?_
        obtain ⟨b10z, h⟩ := xn h
        refine lv_irem hx hb dX0_numberAt_39 b10z ?_
        refine lv_iadd hx hb dX0_numberAt_40 ?_
        refine lv_topi (fun y11z ey11z => ?_)
        have h := xl_at h ey11z
        refine lv_istore_n (lv' := [(2, .int y11z), (0, .ref q_Ch), (1, .int v1)]) hx hb dX0_numberAt_41 rfl hl (by decide) rfl (fun ls hl => ?_)
        exact k_X0_numberAt_42 C0 N res q_Ch q_told q_Sp y11z ch_many ch_kind ch_ending ch_tail ch_round ch_greatest a_told  h _ _ hP hD hS _ (lv_sub hl [1, 0] rfl)
set_option maxRecDepth 100000 in
set_option maxHeartbeats 4000000 in
theorem c_X0_numberAt (l : Launch) (dC : Nat → ClassId) (dI : Nat → Nat → Nat) (cyI cyJ cyZ : ClassId) (N : Nat) (res : Int64) (sz : Nat) (q_Ch : Nat) (q_told : Nat) (q_Sp : Nat) (v1 : Int32) (ch_many : Int32) (ch_kind : Int32) (ch_ending : Int32) (ch_tail : Int32) (ch_round : Int32) (ch_greatest : Int64) (a_told : Nat → Int64) (h : f_X0_numberAt N v1 ch_many ch_ending ch_tail ch_round a_told = some res) : Met l yX0_numberAt wsX0_numberAt rm_X0_numberAt (pC dC dI cyI cyJ cyZ [.ref q_Ch, .int v1] sz (wd7 cyI cyJ cyZ q_Ch q_told q_Sp ch_many ch_kind ch_ending ch_tail ch_round ch_greatest a_told)) (va_Ql (fun (r : Int64) (_ : Unit) => r = res) (bW dC dI (fun (u : Unit) => (wd7 cyI cyJ cyZ q_Ch q_told q_Sp ch_many ch_kind ch_ending ch_tail ch_round ch_greatest a_told)) (va_A (wd7 cyI cyJ cyZ q_Ch q_told q_Sp ch_many ch_kind ch_ending ch_tail ch_round ch_greatest a_told) sz)) (va_A (wd7 cyI cyJ cyZ q_Ch q_told q_Sp ch_many ch_kind ch_ending ch_tail ch_round ch_greatest a_told) sz)) 0 0 (va_A (wd7 cyI cyJ cyZ q_Ch q_told q_Sp ch_many ch_kind ch_ending ch_tail ch_round ch_greatest a_told) sz) := by
  refine Met.ofW (cc := cX0_numberAt) (maxL := 3) (ret := (some .long)) (by decide) rfl ?_
  intro p e s m args below meth c s₁ B hml hv
  obtain ⟨rfl, hsz, hP, hG, hD0⟩ := hv
  have hx := B.exec
  have hb := B.bytes
  have hr := B.returns
  have hts := atoms_spec (ws := wsX0_numberAt) B.pre
  have hown : s.vm.findClass RX0 = some m.cls := findClass_of_methodNamed B.named
  have hlocks := B.notSynchronized
  subst hsz
  have hD := hD0.self (sz := s.heap.size)
  generalize hAe : va_A (wd7 cyI cyJ cyZ q_Ch q_told q_Sp ch_many ch_kind ch_ending ch_tail ch_round ch_greatest a_told) s.heap.size = A at hD ⊢
  have hA : ∀ q : Nat, s.heap.size ≤ q → A q := fun q h => by rw [← hAe]; exact Or.inr h
  have hS : va_S A s.heap s.heap [] := va_S.rf
  have hl := lv_entry ([.ref q_Ch, .int v1]) (n := 3) (Nat.le_of_ble_eq_true rfl)
  rw [lg_entry_eq]
  generalize (lg_sl ([.ref q_Ch, .int v1]) ++ List.replicate (3 - (lg_sl ([.ref q_Ch, .int v1])).length) Slot.unset).toArray = ls at hl ⊢
  have hl : lv_has ls 3 [(0, .ref q_Ch), (1, .int v1)] := hl
  exact k_X0_numberAt_0 ⟨hx, hb, hr, hml, hown, hts, hlocks, hG, hA⟩ N res q_Ch q_told q_Sp v1 ch_many ch_kind ch_ending ch_tail ch_round ch_greatest a_told  h _ _ hP hD hS _ hl
