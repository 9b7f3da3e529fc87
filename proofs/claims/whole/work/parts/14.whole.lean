/-- the cells Wh -/
abbrev wd21 (cyI cyJ cyZ : ClassId) (q_Wh : Nat) (q_Sp : Nat) (q_Pr : Nat) (q_base : Nat) (q_power : Nat) (q_powerSum : Nat) (q_found : Nat) (wh_powers : Int32) (wh_many : Int32) (wh_told : Int64) : va_W := [(q_Wh, .inr (9, [.ref q_Sp, .ref q_Pr, .ref q_base, .ref q_power, .ref q_powerSum, .int wh_powers, .ref q_found, .int wh_many, .long wh_told]))]
abbrev rm_X9_howMany : Room := { frames := 0, cells := 0, slots := 0, locals := 0 }
theorem hd_X9_howMany : yX9_howMany.cls ≠ "java/lang/invoke/MethodHandle" ∧ yX9_howMany.cls ≠ "java/lang/invoke/VarHandle" ∧ (parseMethodDescriptor yX9_howMany.desc).map (fun d => d.parameters.length) = some 0 := by decide +kernel
theorem iw_X9_howMany_X9 : ∀ w ∈ wsX90, w ∈ wsX9_howMany := List.forall_mem_cons.mpr ⟨List.mem_of_getElem? (i := 2) rfl, List.forall_mem_cons.mpr ⟨List.mem_of_getElem? (i := 3) rfl, List.forall_mem_cons.mpr ⟨List.mem_of_getElem? (i := 4) rfl, List.forall_mem_cons.mpr ⟨List.mem_of_getElem? (i := 5) rfl, List.forall_mem_cons.mpr ⟨List.mem_of_getElem? (i := 6) rfl, List.forall_mem_cons.mpr ⟨List.mem_of_getElem? (i := 7) rfl, List.forall_mem_cons.mpr ⟨List.mem_of_getElem? (i := 8) rfl, List.forall_mem_cons.mpr ⟨List.mem_of_getElem? (i := 9) rfl, List.forall_mem_cons.mpr ⟨List.mem_of_getElem? (i := 10) rfl, fun _ h => absurd h List.not_mem_nil⟩⟩⟩⟩⟩⟩⟩⟩⟩
def f_X9_howMany (N : Nat) (wh_many : Int32) : Option (Int32) :=
  some wh_many
set_option maxRecDepth 100000 in
set_option maxHeartbeats 4000000 in
theorem k_X9_howMany_0 {p : Program} {l : Launch} {e : Env} {s : State} {m : MethodId} {args : Array Value} {below : List Frame} {meth : Method} {c : Code} {dC : Nat → ClassId} {dI : Nat → Nat → Nat} {cyI cyJ cyZ : ClassId} {A : Nat → Prop} (C0 : mC p s m meth c args cX9_howMany (some .int) 1 RX9 wsX9_howMany (gK dC dI cyI cyJ cyZ) A) (N : Nat) (res : Int32) (q_Wh : Nat) (q_Sp : Nat) (q_Pr : Nat) (q_base : Nat) (q_power : Nat) (q_powerSum : Nat) (q_found : Nat) (wh_powers : Int32) (wh_many : Int32) (wh_told : Int64) (h : f_X9_howMany N wh_many = some res) : ∀ (H : Heap) (locs : List Loc), va_P (dC, dI) vwCl (wd21 cyI cyJ cyZ q_Wh q_Sp q_Pr q_base q_power q_powerSum q_found wh_powers wh_many wh_told) H → va_D A (wd21 cyI cyJ cyZ q_Wh q_Sp q_Pr q_base q_power q_powerSum q_found wh_powers wh_many wh_told) → va_S A s.heap H locs → ∀ (ls : Array Slot), lv_has ls 1 [(0, .ref q_Wh)] → W p l e (headSpec wsX9_howMany rm_X9_howMany).room s m args below meth c H locs 0 0 (MQ below (va_Qi (fun (r : Int32) (_ : Unit) => r = res) (bW dC dI (fun (u : Unit) => (wd21 cyI cyJ cyZ q_Wh q_Sp q_Pr q_base q_power q_powerSum q_found wh_powers wh_many wh_told)) A) A) args s 0 0 A) (F0 m 0 ls []) := by
  obtain ⟨hx, hb, hr, hml, hown, hts, hlocks, hG, hA⟩ := id C0
  have hK := hG.1
  intro H locs hP hD hS ls hl
  unfold f_X9_howMany at h
  refine lv_aload_n hx hb dX9_howMany_0 rfl (lv_at hl 0 rfl) ?_
  refine va_get (D := (dC, dI)) (ci := 9) (v := .int wh_many) (C := RX9) (T := TX9) (N := 9) hx hb hts iw_X9_howMany_X9 hown hK hP 0 rfl rfl 7 (by decide) (hts (.fieldLink RX9 28 "GoesInto$Whole" "many" "I") (List.mem_of_getElem? (i := 1) rfl)) (fun _ h9 => h9) rfl dX9_howMany_1 ?_
  obtain rfl := Option.some.inj h
  exact W.iret (v := wh_many) hx hb hr (fun t ht hW => ⟨⟨_, (), rfl, rfl, by rw [ht]; exact hP, hD⟩, hS.F ht⟩) hS.2.2 dX9_howMany_4 hlocks
set_option maxRecDepth 100000 in
set_option maxHeartbeats 4000000 in
theorem c_X9_howMany (l : Launch) (dC : Nat → ClassId) (dI : Nat → Nat → Nat) (cyI cyJ cyZ : ClassId) (N : Nat) (res : Int32) (sz : Nat) (q_Wh : Nat) (q_Sp : Nat) (q_Pr : Nat) (q_base : Nat) (q_power : Nat) (q_powerSum : Nat) (q_found : Nat) (wh_powers : Int32) (wh_many : Int32) (wh_told : Int64) (h : f_X9_howMany N  wh_many = some res) : Met l yX9_howMany wsX9_howMany rm_X9_howMany (pC dC dI cyI cyJ cyZ [.ref q_Wh] sz (wd21 cyI cyJ cyZ q_Wh q_Sp q_Pr q_base q_power q_powerSum q_found wh_powers wh_many wh_told)) (va_Qi (fun (r : Int32) (_ : Unit) => r = res) (bW dC dI (fun (u : Unit) => (wd21 cyI cyJ cyZ q_Wh q_Sp q_Pr q_base q_power q_powerSum q_found wh_powers wh_many wh_told)) (va_A (wd21 cyI cyJ cyZ q_Wh q_Sp q_Pr q_base q_power q_powerSum q_found wh_powers wh_many wh_told) sz)) (va_A (wd21 cyI cyJ cyZ q_Wh q_Sp q_Pr q_base q_power q_powerSum q_found wh_powers wh_many wh_told) sz)) 0 0 (va_A (wd21 cyI cyJ cyZ q_Wh q_Sp q_Pr q_base q_power q_powerSum q_found wh_powers wh_many wh_told) sz) := by
  refine Met.ofW (cc := cX9_howMany) (maxL := 1) (ret := (some .int)) (by decide) rfl ?_
  intro p e s m args below meth c s₁ B hml hv
  obtain ⟨rfl, hsz, hP, hG, hD0⟩ := hv
  have hx := B.exec
  have hb := B.bytes
  have hr := B.returns
  have hts := atoms_spec (ws := wsX9_howMany) B.pre
  have hown : s.vm.findClass RX9 = some m.cls := findClass_of_methodNamed B.named
  have hlocks := B.notSynchronized
  subst hsz
  have hD := hD0.self (sz := s.heap.size)
  generalize hAe : va_A (wd21 cyI cyJ cyZ q_Wh q_Sp q_Pr q_base q_power q_powerSum q_found wh_powers wh_many wh_told) s.heap.size = A at hD ⊢
  have hA : ∀ q : Nat, s.heap.size ≤ q → A q := fun q h => by rw [← hAe]; exact Or.inr h
  have hS : va_S A s.heap s.heap [] := va_S.rf
  have hl := lv_entry ([.ref q_Wh]) (n := 1) (Nat.le_of_ble_eq_true rfl)
  rw [lg_entry_eq]
  generalize (lg_sl ([.ref q_Wh]) ++ List.replicate (1 - (lg_sl ([.ref q_Wh])).length) Slot.unset).toArray = ls at hl ⊢
  have hl : lv_has ls 1 [(0, .ref q_Wh)] := hl
  exact k_X9_howMany_0 ⟨hx, hb, hr, hml, hown, hts, hlocks, hG, hA⟩ N res q_Wh q_Sp q_Pr q_base q_power q_powerSum q_found wh_powers wh_many wh_told  h _ _ hP hD hS _ hl
/-- the cells Wh, found -/
abbrev wd22 (cyI cyJ cyZ : ClassId) (q_Wh : Nat) (q_found : Nat) (q_Sp : Nat) (q_Pr : Nat) (q_base : Nat) (q_power : Nat) (q_powerSum : Nat) (wh_powers : Int32) (wh_many : Int32) (wh_told : Int64) (a_found : Nat → Int64) : va_W := [(q_Wh, .inr (9, [.ref q_Sp, .ref q_Pr, .ref q_base, .ref q_power, .ref q_powerSum, .int wh_powers, .ref q_found, .int wh_many, .long wh_told])), (q_found, .inl (cyJ, 640, .inr (.inl a_found)))]
abbrev rm_X9_numberAt : Room := { frames := 0, cells := 0, slots := 0, locals := 0 }
theorem hd_X9_numberAt : yX9_numberAt.cls ≠ "java/lang/invoke/MethodHandle" ∧ yX9_numberAt.cls ≠ "java/lang/invoke/VarHandle" ∧ (parseMethodDescriptor yX9_numberAt.desc).map (fun d => d.parameters.length) = some 1 := by decide +kernel
theorem iw_X9_numberAt_X9 : ∀ w ∈ wsX90, w ∈ wsX9_numberAt := List.forall_mem_cons.mpr ⟨List.mem_of_getElem? (i := 3) rfl, List.forall_mem_cons.mpr ⟨List.mem_of_getElem? (i := 4) rfl, List.forall_mem_cons.mpr ⟨List.mem_of_getElem? (i := 5) rfl, List.forall_mem_cons.mpr ⟨List.mem_of_getElem? (i := 6) rfl, List.forall_mem_cons.mpr ⟨List.mem_of_getElem? (i := 7) rfl, List.forall_mem_cons.mpr ⟨List.mem_of_getElem? (i := 8) rfl, List.forall_mem_cons.mpr ⟨List.mem_of_getElem? (i := 9) rfl, List.forall_mem_cons.mpr ⟨List.mem_of_getElem? (i := 10) rfl, List.forall_mem_cons.mpr ⟨List.mem_of_getElem? (i := 11) rfl, fun _ h => absurd h List.not_mem_nil⟩⟩⟩⟩⟩⟩⟩⟩⟩
def f_X9_numberAt (N : Nat) (v1 : Int32) (wh_many : Int32) (a_found : Nat → Int64) : Option (Int32) :=
  if v1 < 0 then
    some (-4 : Int32)
  else
    if wh_many ≤ v1 then
      some (-4 : Int32)
    else
      if (640 : Int32) ≤ v1 then
        some (-4 : Int32)
      else
        if v1 < 0 ∨ 640 ≤ v1.toNatClampNeg then
          none
        else
          some ((a_found v1.toNatClampNeg).toInt32)
set_option maxRecDepth 100000 in
set_option maxHeartbeats 4000000 in
theorem k_X9_numberAt_0 {p : Program} {l : Launch} {e : Env} {s : State} {m : MethodId} {args : Array Value} {below : List Frame} {meth : Method} {c : Code} {dC : Nat → ClassId} {dI : Nat → Nat → Nat} {cyI cyJ cyZ : ClassId} {A : Nat → Prop} (C0 : mC p s m meth c args cX9_numberAt (some .int) 2 RX9 wsX9_numberAt (gK dC dI cyI cyJ cyZ) A) (N : Nat) (res : Int32) (q_Wh : Nat) (q_found : Nat) (q_Sp : Nat) (q_Pr : Nat) (q_base : Nat) (q_power : Nat) (q_powerSum : Nat) (v1 : Int32) (wh_powers : Int32) (wh_many : Int32) (wh_told : Int64) (a_found : Nat → Int64) (h : f_X9_numberAt N v1 wh_many a_found = some res) : ∀ (H : Heap) (locs : List Loc), va_P (dC, dI) vwCl (wd22 cyI cyJ cyZ q_Wh q_found q_Sp q_Pr q_base q_power q_powerSum wh_powers wh_many wh_told a_found) H → va_D A (wd22 cyI cyJ cyZ q_Wh q_found q_Sp q_Pr q_base q_power q_powerSum wh_powers wh_many wh_told a_found) → va_S A s.heap H locs → ∀ (ls : Array Slot), lv_has ls 2 [(0, .ref q_Wh), (1, .int v1)] → W p l e (headSpec wsX9_numberAt rm_X9_numberAt).room s m args below meth c H locs 0 0 (MQ below (va_Qi (fun (r : Int32) (_ : Unit) => r = res) (bW dC dI (fun (u : Unit) => (wd22 cyI cyJ cyZ q_Wh q_found q_Sp q_Pr q_base q_power q_powerSum wh_powers wh_many wh_told a_found)) A) A) args s 0 0 A) (F0 m 0 ls []) := by
  obtain ⟨hx, hb, hr, hml, hown, hts, hlocks, hG, hA⟩ := id C0
  have hK := hG.1
  intro H locs hP hD hS ls hl
  unfold f_X9_numberAt at h
  refine lv_iload_n hx hb dX9_numberAt_0 rfl (lv_at hl 1 rfl) ?_
  refine lv_if_lt (tgt := 29) hx hb dX9_numberAt_1 (by decide) (fun c1z => ?_) (fun c1z => ?_)
  · have h := xt h c1z
    refine lv_bipush (v := (-4 : Int32)) hx hb dX9_numberAt_29 (by decide) ?_
    obtain rfl := Option.some.inj h
    exact W.iret (v := (-4 : Int32)) hx hb hr (fun t ht hW => ⟨⟨_, (), rfl, rfl, by rw [ht]; exact hP, hD⟩, hS.F ht⟩) hS.2.2 dX9_numberAt_31 hlocks
  · have h := xf h c1z
    refine lv_iload_n hx hb dX9_numberAt_4 rfl (lv_at hl 1 rfl) ?_
    refine lv_aload_n hx hb dX9_numberAt_5 rfl (lv_at hl 0 rfl) ?_
    refine va_get (D := (dC, dI)) (ci := 9) (v := .int wh_many) (C := RX9) (T := TX9) (N := 9) hx hb hts iw_X9_numberAt_X9 hown hK hP 0 rfl rfl 7 (by decide) (hts (.fieldLink RX9 28 "GoesInto$Whole" "many" "I") (List.mem_of_getElem? (i := 1) rfl)) (fun _ h9 => h9) rfl dX9_numberAt_6 ?_
    refine lv_icmp_ge (tgt := 29) hx hb dX9_numberAt_9 (by decide) (fun c2z => ?_) (fun c2z => ?_)
    · have h := xt h c2z
      refine lv_bipush (v := (-4 : Int32)) hx hb dX9_numberAt_29 (by decide) ?_
      obtain rfl := Option.some.inj h
      exact W.iret (v := (-4 : Int32)) hx hb hr (fun t ht hW => ⟨⟨_, (), rfl, rfl, by rw [ht]; exact hP, hD⟩, hS.F ht⟩) hS.2.2 dX9_numberAt_31 hlocks
    · have h := xf h c2z
      refine lv_iload_n hx hb dX9_numberAt_12 rfl (lv_at hl 1 rfl) ?_
      refine lv_sipush (v := (640 : Int32)) hx hb dX9_numberAt_13 (by decide) ?_
      refine lv_icmp_ge (tgt := 29) hx hb dX9_numberAt_16 (by decide) (fun c3z => ?_) (fun c3z => ?_)
      · have h := xt h c3z
        refine lv_bipush (v := (-4 : Int32)) hx hb dX9_numberAt_29 (by decide) ?_
        obtain rfl := Option.some.inj h
        exact W.iret (v := (-4 : Int32)) hx hb hr (fun t ht hW => ⟨⟨_, (), rfl, rfl, by rw [ht]; exact hP, hD⟩, hS.F ht⟩) hS.2.2 dX9_numberAt_31 hlocks
      · have h := xf h c3z
        refine lv_aload_n hx hb dX9_numberAt_19 rfl (lv_at hl 0 rfl) ?_
        refine va_get (D := (dC, dI)) (ci := 9) (v := .ref q_found) (C := RX9) (T := TX9) (N := 9) hx hb hts iw_X9_numberAt_X9 hown hK hP 0 rfl rfl 6 (by decide) (hts (.fieldLink RX9 25 "GoesInto$Whole" "found" "[J") (List.mem_of_getElem? (i := 2) rfl)) (fun _ h9 => h9) rfl dX9_numberAt_20 ?_
        refine lv_iload_n hx hb dX9_numberAt_23 rfl (lv_at hl 1 rfl) ?_
        obtain ⟨b4z, h⟩ := xn h
        refine va_lald hx hb hK hP 1 1 rfl rfl b4z dX9_numberAt_24 ?_
        refine lv_l2i (v := (a_found v1.toNatClampNeg).toInt32) hx hb dX9_numberAt_25 rfl ?_
        refine lv_goto (tgt := 31) hx hb dX9_numberAt_26 (by decide) ?_
        obtain rfl := Option.some.inj h
        exact W.iret (v := (a_found v1.toNatClampNeg).toInt32) hx hb hr (fun t ht hW => ⟨⟨_, (), rfl, rfl, by rw [ht]; exact hP, hD⟩, hS.F ht⟩) hS.2.2 dX9_numberAt_31 hlocks
set_option maxRecDepth 100000 in
set_option maxHeartbeats 4000000 in
theorem c_X9_numberAt (l : Launch) (dC : Nat → ClassId) (dI : Nat → Nat → Nat) (cyI cyJ cyZ : ClassId) (N : Nat) (res : Int32) (sz : Nat) (q_Wh : Nat) (q_found : Nat) (q_Sp : Nat) (q_Pr : Nat) (q_base : Nat) (q_power : Nat) (q_powerSum : Nat) (v1 : Int32) (wh_powers : Int32) (wh_many : Int32) (wh_told : Int64) (a_found : Nat → Int64) (h : f_X9_numberAt N v1 wh_many a_found = some res) : Met l yX9_numberAt wsX9_numberAt rm_X9_numberAt (pC dC dI cyI cyJ cyZ [.ref q_Wh, .int v1] sz (wd22 cyI cyJ cyZ q_Wh q_found q_Sp q_Pr q_base q_power q_powerSum wh_powers wh_many wh_told a_found)) (va_Qi (fun (r : Int32) (_ : Unit) => r = res) (bW dC dI (fun (u : Unit) => (wd22 cyI cyJ cyZ q_Wh q_found q_Sp q_Pr q_base q_power q_powerSum wh_powers wh_many wh_told a_found)) (va_A (wd22 cyI cyJ cyZ q_Wh q_found q_Sp q_Pr q_base q_power q_powerSum wh_powers wh_many wh_told a_found) sz)) (va_A (wd22 cyI cyJ cyZ q_Wh q_found q_Sp q_Pr q_base q_power q_powerSum wh_powers wh_many wh_told a_found) sz)) 0 0 (va_A (wd22 cyI cyJ cyZ q_Wh q_found q_Sp q_Pr q_base q_power q_powerSum wh_powers wh_many wh_told a_found) sz) := by
  refine Met.ofW (cc := cX9_numberAt) (maxL := 2) (ret := (some .int)) (by decide) rfl ?_
  intro p e s m args below meth c s₁ B hml hv
  obtain ⟨rfl, hsz, hP, hG, hD0⟩ := hv
  have hx := B.exec
  have hb := B.bytes
  have hr := B.returns
  have hts := atoms_spec (ws := wsX9_numberAt) B.pre
  have hown : s.vm.findClass RX9 = some m.cls := findClass_of_methodNamed B.named
  have hlocks := B.notSynchronized
  subst hsz
  have hD := hD0.self (sz := s.heap.size)
  generalize hAe : va_A (wd22 cyI cyJ cyZ q_Wh q_found q_Sp q_Pr q_base q_power q_powerSum wh_powers wh_many wh_told a_found) s.heap.size = A at hD ⊢
  have hA : ∀ q : Nat, s.heap.size ≤ q → A q := fun q h => by rw [← hAe]; exact Or.inr h
  have hS : va_S A s.heap s.heap [] := va_S.rf
  have hl := lv_entry ([.ref q_Wh, .int v1]) (n := 2) (Nat.le_of_ble_eq_true rfl)
  rw [lg_entry_eq]
  generalize (lg_sl ([.ref q_Wh, .int v1]) ++ List.replicate (2 - (lg_sl ([.ref q_Wh, .int v1])).length) Slot.unset).toArray = ls at hl ⊢
  have hl : lv_has ls 2 [(0, .ref q_Wh), (1, .int v1)] := hl
  exact k_X9_numberAt_0 ⟨hx, hb, hr, hml, hown, hts, hlocks, hG, hA⟩ N res q_Wh q_found q_Sp q_Pr q_base q_power q_powerSum v1 wh_powers wh_many wh_told a_found  h _ _ hP hD hS _ hl
/-- the cells Pr, Wh, list -/
abbrev wd23 (cyI cyJ cyZ : ClassId) (q_Pr : Nat) (q_Wh : Nat) (q_list : Nat) (q_Sc : Nat) (q_Sp : Nat) (q_base : Nat) (q_power : Nat) (q_powerSum : Nat) (q_found : Nat) (wh_powers : Int32) (wh_many : Int32) (wh_told : Int64) (n_list : Nat) (a_list : Nat → Int32) : va_W := [(q_Pr, .inr (3, [.ref q_Sc, .ref q_list])), (q_Wh, .inr (9, [.ref q_Sp, .ref q_Pr, .ref q_base, .ref q_power, .ref q_powerSum, .int wh_powers, .ref q_found, .int wh_many, .long wh_told])), (q_list, .inl (cyI, n_list, .inl a_list))]
abbrev rm_X9_isPrime : Room := { frames := 0, cells := 0, slots := 0, locals := 0 }
theorem hd_X9_isPrime : yX9_isPrime.cls ≠ "java/lang/invoke/MethodHandle" ∧ yX9_isPrime.cls ≠ "java/lang/invoke/VarHandle" ∧ (parseMethodDescriptor yX9_isPrime.desc).map (fun d => d.parameters.length) = some 1 := by decide +kernel
theorem iw_X9_isPrime_X3 : ∀ w ∈ wsX30, w ∈ wsX9_isPrime := List.forall_mem_cons.mpr ⟨List.mem_of_getElem? (i := 12) rfl, List.forall_mem_cons.mpr ⟨List.mem_of_getElem? (i := 13) rfl, fun _ h => absurd h List.not_mem_nil⟩⟩
theorem iw_X9_isPrime_X9 : ∀ w ∈ wsX90, w ∈ wsX9_isPrime := List.forall_mem_cons.mpr ⟨List.mem_of_getElem? (i := 3) rfl, List.forall_mem_cons.mpr ⟨List.mem_of_getElem? (i := 4) rfl, List.forall_mem_cons.mpr ⟨List.mem_of_getElem? (i := 5) rfl, List.forall_mem_cons.mpr ⟨List.mem_of_getElem? (i := 6) rfl, List.forall_mem_cons.mpr ⟨List.mem_of_getElem? (i := 7) rfl, List.forall_mem_cons.mpr ⟨List.mem_of_getElem? (i := 8) rfl, List.forall_mem_cons.mpr ⟨List.mem_of_getElem? (i := 9) rfl, List.forall_mem_cons.mpr ⟨List.mem_of_getElem? (i := 10) rfl, List.forall_mem_cons.mpr ⟨List.mem_of_getElem? (i := 11) rfl, fun _ h => absurd h List.not_mem_nil⟩⟩⟩⟩⟩⟩⟩⟩⟩
def j_X9_isPrime_64 (N : Nat) (v1 : Int64) : Option (Int32) :=
  if v1 ≤ (1 : Int64) then
    some (0 : Int32)
  else
    some (1 : Int32)
set_option maxRecDepth 100000 in
set_option maxHeartbeats 4000000 in
theorem k_X9_isPrime_64 {p : Program} {l : Launch} {e : Env} {s : State} {m : MethodId} {args : Array Value} {below : List Frame} {meth : Method} {c : Code} {dC : Nat → ClassId} {dI : Nat → Nat → Nat} {cyI cyJ cyZ : ClassId} {A : Nat → Prop} (C0 : mC p s m meth c args cX9_isPrime (some .boolean) 7 RX9 wsX9_isPrime (gK dC dI cyI cyJ cyZ) A) (N : Nat) (res : Int32) (q_Pr : Nat) (q_Wh : Nat) (q_list : Nat) (q_Sc : Nat) (q_Sp : Nat) (q_base : Nat) (q_power : Nat) (q_powerSum : Nat) (q_found : Nat) (v1 : Int64) (wh_powers : Int32) (wh_many : Int32) (wh_told : Int64) (n_list : Nat) (a_list : Nat → Int32) (h : j_X9_isPrime_64 N v1 = some res) : ∀ (H : Heap) (locs : List Loc), va_P (dC, dI) vwCl (wd23 cyI cyJ cyZ q_Pr q_Wh q_list q_Sc q_Sp q_base q_power q_powerSum q_found wh_powers wh_many wh_told n_list a_list) H → va_D A (wd23 cyI cyJ cyZ q_Pr q_Wh q_list q_Sc q_Sp q_base q_power q_powerSum q_found wh_powers wh_many wh_told n_list a_list) → va_S A s.heap H locs → ∀ (ls : Array Slot), lv_has ls 7 [(1, .long v1)] → W p l e (headSpec wsX9_isPrime rm_X9_isPrime).room s m args below meth c H locs 0 0 (MQ below (va_Qi (fun (r : Int32) (_ : Unit) => r = res) (bW dC dI (fun (u : Unit) => (wd23 cyI cyJ cyZ q_Pr q_Wh q_list q_Sc q_Sp q_base q_power q_powerSum q_found wh_powers wh_many wh_told n_list a_list)) A) A) args s 0 0 A) (F0 m 64 ls []) := by
  obtain ⟨hx, hb, hr, hml, hown, hts, hlocks, hG, hA⟩ := id C0
  have hK := hG.1
  intro H locs hP hD hS ls hl
  unfold j_X9_isPrime_64 at h
  refine lv_lload_n hx hb dX9_isPrime_64 rfl (lv_at hl 0 rfl) ?_
  refine lv_lconst (v := (1 : Int64)) hx hb dX9_isPrime_65 (by decide) ?_
  refine W.lcmp hx hb dX9_isPrime_66 ?_
  refine lv_if_le (tgt := 74) hx hb dX9_isPrime_67 (by decide) (fun c2z => ?_) (fun c2z => ?_)
  · have c2z := (lg_cmp_le _ _).mp c2z
    have h := xt h c2z
    refine lv_iconst (v := (0 : Int32)) hx hb dX9_isPrime_74 (by decide) ?_
    obtain rfl := Option.some.inj h
    exact W.zret (v := (0 : Int32)) hx hb hr rfl (fun t ht hW => ⟨⟨_, (), rfl, rfl, by rw [ht]; exact hP, hD⟩, hS.F ht⟩) hS.2.2 dX9_isPrime_75 hlocks
  · have c2z := fun z => c2z ((lg_cmp_le _ _).mpr z)
    have h := xf h c2z
    refine lv_iconst (v := (1 : Int32)) hx hb dX9_isPrime_70 (by decide) ?_
    refine lv_goto (tgt := 75) hx hb dX9_isPrime_71 (by decide) ?_
    obtain rfl := Option.some.inj h
    exact W.zret (v := (1 : Int32)) hx hb hr rfl (fun t ht hW => ⟨⟨_, (), rfl, rfl, by rw [ht]; exact hP, hD⟩, hS.F ht⟩) hS.2.2 dX9_isPrime_75 hlocks
def s_X9_isPrime_11 (N : Nat) (v1 : Int64) (n_list : Nat) (a_list : Nat → Int32) (k_11 : (Int32) → Option (Int32)) (v4 : Int32) : Option (Int32) :=
  if (nI n_list) ≤ v4 then
    j_X9_isPrime_64 N v1
  else
    if v4 < 0 ∨ n_list ≤ v4.toNatClampNeg then
      none
    else
      xl ((a_list v4.toNatClampNeg).toInt64) fun y4z =>
      if y4z < (2 : Int64) then
        j_X9_isPrime_64 N v1
      else
        if (y4z * y4z) ≤ v1 then
          if y4z = 0 then
            none
          else
            if (v1 - v1 / y4z * y4z) = (0 : Int64) then
              some (0 : Int32)
            else
              xl (v4 + (1 : Int32)) fun y9z =>
              k_11 y9z
        else
          j_X9_isPrime_64 N v1
def l_X9_isPrime_11 (N : Nat) (v1 : Int64) (n_list : Nat) (a_list : Nat → Int32) (n : Nat) (z : Int32) : Option (Int32) := lp (fun k z => s_X9_isPrime_11 N v1 n_list a_list k z) n z
set_option maxRecDepth 100000 in
set_option maxHeartbeats 4000000 in
theorem k_X9_isPrime_11 {p : Program} {l : Launch} {e : Env} {s : State} {m : MethodId} {args : Array Value} {below : List Frame} {meth : Method} {c : Code} {dC : Nat → ClassId} {dI : Nat → Nat → Nat} {cyI cyJ cyZ : ClassId} {A : Nat → Prop} (C0 : mC p s m meth c args cX9_isPrime (some .boolean) 7 RX9 wsX9_isPrime (gK dC dI cyI cyJ cyZ) A) (N : Nat) (res : Int32) (q_Pr : Nat) (q_Wh : Nat) (q_list : Nat) (q_Sc : Nat) (q_Sp : Nat) (q_base : Nat) (q_power : Nat) (q_powerSum : Nat) (q_found : Nat) (v1 : Int64) (wh_powers : Int32) (wh_many : Int32) (wh_told : Int64) (n_list : Nat) (a_list : Nat → Int32) : ∀ (n : Nat) (v4 : Int32), l_X9_isPrime_11 N v1 n_list a_list n v4 = some res → ∀ (H : Heap) (locs : List Loc), va_P (dC, dI) vwCl (wd23 cyI cyJ cyZ q_Pr q_Wh q_list q_Sc q_Sp q_base q_power q_powerSum q_found wh_powers wh_many wh_told n_list a_list) H → va_D A (wd23 cyI cyJ cyZ q_Pr q_Wh q_list q_Sc q_Sp q_base q_power q_powerSum q_found wh_powers wh_many wh_told n_list a_list) → va_S A s.heap H locs → ∀ (ls : Array Slot), lv_has ls 7 [(1, .long v1), (3, .ref q_list), (4, .int v4)] → W p l e (headSpec wsX9_isPrime rm_X9_isPrime).room s m args below meth c H locs 0 0 (MQ below (va_Qi (fun (r : Int32) (_ : Unit) => r = res) (bW dC dI (fun (u : Unit) => (wd23 cyI cyJ cyZ q_Pr q_Wh q_list q_Sc q_Sp q_base q_power q_powerSum q_found wh_powers wh_many wh_told n_list a_list)) A) A) args s 0 0 A) (F0 m 11 ls []) := by
  obtain ⟨hx, hb, hr, hml, hown, hts, hlocks, hG, hA⟩ := id C0
  have hK := hG.1
  intro n
  induction n with
  | zero =>
    intro v4 h
    cases h
  | succ n ih =>
    intro v4 h H locs hP hD hS ls hl
    have h : s_X9_isPrime_11 N v1 n_list a_list (l_X9_isPrime_11 N v1 n_list a_list n) v4 = some res := h
    unfold s_X9_isPrime_11 at h
    refine lv_iload hx hb dX9_isPrime_11 (lv_at hl 2 rfl) ?_
    refine lv_aload_n hx hb dX9_isPrime_13 rfl (lv_at hl 1 rfl) ?_
    refine va_alen (v := nI n_list) hx hb hK hP 2 0 rfl rfl rfl dX9_isPrime_14 ?_
    refine lv_icmp_ge (tgt := 64) hx hb dX9_isPrime_15 (by decide) (fun c1z => ?_) (fun c1z => ?_)
    · have h := xt h c1z
      exact k_X9_isPrime_64 C0 N res q_Pr q_Wh q_list q_Sc q_Sp q_base q_power q_powerSum q_found v1 wh_powers wh_many wh_told n_list a_list  h _ _ hP hD hS _ (lv_sub hl [0] rfl)
    · have h := xf h c1z
      refine lv_aload_n hx hb dX9_isPrime_18 rfl (lv_at hl 1 rfl) ?_
      refine lv_iload hx hb dX9_isPrime_19 (lv_at hl 2 rfl) ?_
      obtain ⟨b3z, h⟩ := xn h
      refine va_iald hx hb hK hP 2 0 rfl rfl b3z dX9_isPrime_21 ?_
      refine lv_i2l (v := (a_list v4.toNatClampNeg).toInt64) hx hb dX9_isPrime_22 rfl ?_
      refine lv_topl (fun y4z ey4z => ?_)
      have h := xl_at h ey4z
      refine lv_lstore (lv' := [(5, .long y4z), (1, .long v1), (3, .ref q_list), (4, .int v4)]) hx hb dX9_isPrime_23 hl (by decide) rfl (fun ls hl => ?_)
      refine lv_lload hx hb dX9_isPrime_25 (lv_at hl 0 rfl) ?_
      refine lv_ldc2 (v := (2 : Int64)) hx hb hown (hts (.constantLong RX9 88 (2)) (List.mem_of_getElem? (i := 2) rfl)) dX9_isPrime_27 ?_
      refine W.lcmp hx hb dX9_isPrime_30 ?_
      refine lv_if_lt (tgt := 64) hx hb dX9_isPrime_31 (by decide) (fun c5z => ?_) (fun c5z => ?_)
      · have c5z := (lg_cmp_lt _ _).mp c5z
        have h := xt h c5z
        exact k_X9_isPrime_64 C0 N res q_Pr q_Wh q_list q_Sc q_Sp q_base q_power q_powerSum q_found v1 wh_powers wh_many wh_told n_list a_list  h _ _ hP hD hS _ (lv_sub hl [1] rfl)
      · have c5z := fun z => c5z ((lg_cmp_lt _ _).mpr z)
        have h := xf h c5z
        refine lv_lload hx hb dX9_isPrime_34 (lv_at hl 0 rfl) ?_
        refine lv_lload hx hb dX9_isPrime_36 (lv_at hl 0 rfl) ?_
        refine lv_lmul hx hb dX9_isPrime_38 ?_
        refine lv_lload_n hx hb dX9_isPrime_39 rfl (lv_at hl 1 rfl) ?_
        refine W.lcmp hx hb dX9_isPrime_40 ?_
        refine lv_if_le (tgt := 47) hx hb dX9_isPrime_41 (by decide) (fun c6z => ?_) (fun c6z => ?_)
        · have c6z := (lg_cmp_le _ _).mp c6z
          have h := xt h c6z
          refine lv_lload_n hx hb dX9_isPrime_47 rfl (lv_at hl 1 rfl) ?_
          refine lv_lload hx hb dX9_isPrime_48 (lv_at hl 0 rfl) ?_
          obtain ⟨b7z, h⟩ := xn h
          refine lv_lrem hx hb dX9_isPrime_50 b7z ?_
          refine lv_lconst (v := (0 : Int64)) hx hb dX9_isPrime_51 (by decide) ?_
          refine W.lcmp hx hb dX9_isPrime_52 ?_
          refine lv_if_ne (tgt := 58) hx hb dX9_isPrime_53 (by decide) (fun c8z => ?_) (fun c8z => ?_)
          · have c8z := fun z => c8z ((lg_cmp_eq _ _).mpr z)
            have h := xf h c8z
            obtain ⟨y9z, ey9z⟩ : ∃ z : Int32, z = v4 + (1 : Int32) := ⟨_, rfl⟩
            have h := xl_at h ey9z
            refine lv_iinc (v := y9z) (lv' := [(4, .int y9z), (5, .long y4z), (1, .long v1), (3, .ref q_list)]) hx hb dX9_isPrime_58 hl (k := 3) rfl (by rw [ey9z]; rfl) (by decide) rfl (fun ls hl => ?_)
            refine lv_goto (tgt := 11) hx hb dX9_isPrime_61 (by decide) ?_
            exact ih y9z h _ _ hP hD hS _ (lv_sub hl [2, 3, 0] rfl)
          · have c8z := (lg_cmp_eq _ _).mp c8z
            have h := xt h c8z
            refine lv_iconst (v := (0 : Int32)) hx hb dX9_isPrime_56 (by decide) ?_
            obtain rfl := Option.some.inj h
            exact W.zret (v := (0 : Int32)) hx hb hr rfl (fun t ht hW => ⟨⟨_, (), rfl, rfl, by rw [ht]; exact hP, hD⟩, hS.F ht⟩) hS.2.2 dX9_isPrime_57 hlocks
        · have c6z := fun z => c6z ((lg_cmp_le _ _).mpr z)
          have h := xf h c6z
          refine lv_goto (tgt := 64) hx hb dX9_isPrime_44 (by decide) ?_
          exact k_X9_isPrime_64 C0 N res q_Pr q_Wh q_list q_Sc q_Sp q_base q_power q_powerSum q_found v1 wh_powers wh_many wh_told n_list a_list  h _ _ hP hD hS _ (lv_sub hl [1] rfl)
def f_X9_isPrime (N : Nat) (v1 : Int64) (n_list : Nat) (a_list : Nat → Int32) : Option (Int32) :=
  l_X9_isPrime_11 N v1 n_list a_list N (0 : Int32)
set_option maxRecDepth 100000 in
set_option maxHeartbeats 4000000 in
theorem k_X9_isPrime_0 {p : Program} {l : Launch} {e : Env} {s : State} {m : MethodId} {args : Array Value} {below : List Frame} {meth : Method} {c : Code} {dC : Nat → ClassId} {dI : Nat → Nat → Nat} {cyI cyJ cyZ : ClassId} {A : Nat → Prop} (C0 : mC p s m meth c args cX9_isPrime (some .boolean) 7 RX9 wsX9_isPrime (gK dC dI cyI cyJ cyZ) A) (N : Nat) (res : Int32) (q_Pr : Nat) (q_Wh : Nat) (q_list : Nat) (q_Sc : Nat) (q_Sp : Nat) (q_base : Nat) (q_power : Nat) (q_powerSum : Nat) (q_found : Nat) (v1 : Int64) (wh_powers : Int32) (wh_many : Int32) (wh_told : Int64) (n_list : Nat) (a_list : Nat → Int32) (h : f_X9_isPrime N v1 n_list a_list = some res) : ∀ (H : Heap) (locs : List Loc), va_P (dC, dI) vwCl (wd23 cyI cyJ cyZ q_Pr q_Wh q_list q_Sc q_Sp q_base q_power q_powerSum q_found wh_powers wh_many wh_told n_list a_list) H → va_D A (wd23 cyI cyJ cyZ q_Pr q_Wh q_list q_Sc q_Sp q_base q_power q_powerSum q_found wh_powers wh_many wh_told n_list a_list) → va_S A s.heap H locs → ∀ (ls : Array Slot), lv_has ls 7 [(0, .ref q_Wh), (1, .long v1)] → W p l e (headSpec wsX9_isPrime rm_X9_isPrime).room s m args below meth c H locs 0 0 (MQ below (va_Qi (fun (r : Int32) (_ : Unit) => r = res) (bW dC dI (fun (u : Unit) => (wd23 cyI cyJ cyZ q_Pr q_Wh q_list q_Sc q_Sp q_base q_power q_powerSum q_found wh_powers wh_many wh_told n_list a_list)) A) A) args s 0 0 A) (F0 m 0 ls []) := by
  obtain ⟨hx, hb, hr, hml, hown, hts, hlocks, hG, hA⟩ := id C0
  have hK := hG.1
  intro H locs hP hD hS ls hl
  unfold f_X9_isPrime at h
  refine lv_aload_n hx hb dX9_isPrime_0 rfl (lv_at hl 0 rfl) ?_
  refine va_get (D := (dC, dI)) (ci := 9) (v := .ref q_Pr) (C := RX9) (T := TX9) (N := 9) hx hb hts iw_X9_isPrime_X9 hown hK hP 1 rfl rfl 1 (by decide) (hts (.fieldLink RX9 39 "GoesInto$Whole" "primes" "LGoesInto$Primes;") (List.mem_of_getElem? (i := 1) rfl)) (fun _ h9 => h9) rfl dX9_isPrime_1 ?_
  refine va_getN (D := (dC, dI)) (ci := 3) (v := .ref q_list) (C := RX3) (T := TX3) (N := 2) (host := "GoesInto") hx hb hts iw_X9_isPrime_X3 hown hK hP 0 rfl rfl 1 (by decide) (va_Nw.use rfl hG.2.2.2.2.2.2.2.2.2.2.2.1) (fun _ h9 => h9) rfl dX9_isPrime_4 ?_
  refine lv_astore_n (lv' := [(3, .ref q_list), (0, .ref q_Wh), (1, .long v1)]) hx hb dX9_isPrime_7 rfl hl (by decide) rfl (fun ls hl => ?_)
  refine lv_iconst (v := (0 : Int32)) hx hb dX9_isPrime_8 (by decide) ?_
  refine lv_istore (lv' := [(4, .int (0 : Int32)), (3, .ref q_list), (0, .ref q_Wh), (1, .long v1)]) hx hb dX9_isPrime_9 hl (by decide) rfl (fun ls hl => ?_)
  exact k_X9_isPrime_11 C0 N res q_Pr q_Wh q_list q_Sc q_Sp q_base q_power q_powerSum q_found v1 wh_powers wh_many wh_told n_list a_list N (0 : Int32) h _ _ hP hD hS _ (lv_sub hl [3, 1, 0] rfl)
set_option maxRecDepth 100000 in
set_option maxHeartbeats 4000000 in
theorem c_X9_isPrime (l : Launch) (dC : Nat → ClassId) (dI : Nat → Nat → Nat) (cyI cyJ cyZ : ClassId) (N : Nat) (res : Int32) (sz : Nat) (q_Pr : Nat) (q_Wh : Nat) (q_list : Nat) (q_Sc : Nat) (q_Sp : Nat) (q_base : Nat) (q_power : Nat) (q_powerSum : Nat) (q_found : Nat) (v1 : Int64) (wh_powers : Int32) (wh_many : Int32) (wh_told : Int64) (n_list : Nat) (a_list : Nat → Int32) (h : f_X9_isPrime N v1 n_list a_list = some res) : Met l yX9_isPrime wsX9_isPrime rm_X9_isPrime (pC dC dI cyI cyJ cyZ [.ref q_Wh, .long v1] sz (wd23 cyI cyJ cyZ q_Pr q_Wh q_list q_Sc q_Sp q_base q_power q_powerSum q_found wh_powers wh_many wh_told n_list a_list)) (va_Qi (fun (r : Int32) (_ : Unit) => r = res) (bW dC dI (fun (u : Unit) => (wd23 cyI cyJ cyZ q_Pr q_Wh q_list q_Sc q_Sp q_base q_power q_powerSum q_found wh_powers wh_many wh_told n_list a_list)) (va_A (wd23 cyI cyJ cyZ q_Pr q_Wh q_list q_Sc q_Sp q_base q_power q_powerSum q_found wh_powers wh_many wh_told n_list a_list) sz)) (va_A (wd23 cyI cyJ cyZ q_Pr q_Wh q_list q_Sc q_Sp q_base q_power q_powerSum q_found wh_powers wh_many wh_told n_list a_list) sz)) 0 0 (va_A (wd23 cyI cyJ cyZ q_Pr q_Wh q_list q_Sc q_Sp q_base q_power q_powerSum q_found wh_powers wh_many wh_told n_list a_list) sz) := by
  refine Met.ofW (cc := cX9_isPrime) (maxL := 7) (ret := (some .boolean)) (by decide) rfl ?_
  intro p e s m args below meth c s₁ B hml hv
  obtain ⟨rfl, hsz, hP, hG, hD0⟩ := hv
  have hx := B.exec
  have hb := B.bytes
  have hr := B.returns
  have hts := atoms_spec (ws := wsX9_isPrime) B.pre
  have hown : s.vm.findClass RX9 = some m.cls := findClass_of_methodNamed B.named
  have hlocks := B.notSynchronized
  subst hsz
  have hD := hD0.self (sz := s.heap.size)
  generalize hAe : va_A (wd23 cyI cyJ cyZ q_Pr q_Wh q_list q_Sc q_Sp q_base q_power q_powerSum q_found wh_powers wh_many wh_told n_list a_list) s.heap.size = A at hD ⊢
  have hA : ∀ q : Nat, s.heap.size ≤ q → A q := fun q h => by rw [← hAe]; exact Or.inr h
  have hS : va_S A s.heap s.heap [] := va_S.rf
  have hl := lv_entry ([.ref q_Wh, .long v1]) (n := 7) (Nat.le_of_ble_eq_true rfl)
  rw [lg_entry_eq]
  generalize (lg_sl ([.ref q_Wh, .long v1]) ++ List.replicate (7 - (lg_sl ([.ref q_Wh, .long v1])).length) Slot.unset).toArray = ls at hl ⊢
  have hl : lv_has ls 7 [(0, .ref q_Wh), (1, .long v1)] := hl
  exact k_X9_isPrime_0 ⟨hx, hb, hr, hml, hown, hts, hlocks, hG, hA⟩ N res q_Pr q_Wh q_list q_Sc q_Sp q_base q_power q_powerSum q_found v1 wh_powers wh_many wh_told n_list a_list  h _ _ hP hD hS _ hl
/-- the cells Wh, base, power, powerSum -/
abbrev wd24 (cyI cyJ cyZ : ClassId) (q_Wh : Nat) (q_base : Nat) (q_power : Nat) (q_powerSum : Nat) (q_Sp : Nat) (q_Pr : Nat) (q_found : Nat) (wh_powers : Int32) (wh_many : Int32) (wh_told : Int64) (a_base : Nat → Int64) (a_power : Nat → Int64) (a_powerSum : Nat → Int64) : va_W := [(q_Wh, .inr (9, [.ref q_Sp, .ref q_Pr, .ref q_base, .ref q_power, .ref q_powerSum, .int wh_powers, .ref q_found, .int wh_many, .long wh_told])), (q_base, .inl (cyJ, 400, .inr (.inl a_base))), (q_power, .inl (cyJ, 400, .inr (.inl a_power))), (q_powerSum, .inl (cyJ, 400, .inr (.inl a_powerSum)))]
abbrev rm_X9_keepPower : Room := { frames := 0, cells := 0, slots := 0, locals := 0 }
theorem hd_X9_keepPower : yX9_keepPower.cls ≠ "java/lang/invoke/MethodHandle" ∧ yX9_keepPower.cls ≠ "java/lang/invoke/VarHandle" ∧ (parseMethodDescriptor yX9_keepPower.desc).map (fun d => d.parameters.length) = some 3 := by decide +kernel
theorem iw_X9_keepPower_X9 : ∀ w ∈ wsX90, w ∈ wsX9_keepPower := List.forall_mem_cons.mpr ⟨List.mem_of_getElem? (i := 5) rfl, List.forall_mem_cons.mpr ⟨List.mem_of_getElem? (i := 6) rfl, List.forall_mem_cons.mpr ⟨List.mem_of_getElem? (i := 7) rfl, List.forall_mem_cons.mpr ⟨List.mem_of_getElem? (i := 8) rfl, List.forall_mem_cons.mpr ⟨List.mem_of_getElem? (i := 9) rfl, List.forall_mem_cons.mpr ⟨List.mem_of_getElem? (i := 10) rfl, List.forall_mem_cons.mpr ⟨List.mem_of_getElem? (i := 11) rfl, List.forall_mem_cons.mpr ⟨List.mem_of_getElem? (i := 12) rfl, List.forall_mem_cons.mpr ⟨List.mem_of_getElem? (i := 13) rfl, fun _ h => absurd h List.not_mem_nil⟩⟩⟩⟩⟩⟩⟩⟩⟩
def j_X9_keepPower_101 (N : Nat) (v1 : Int64) (v3 : Int64) (v5 : Int64) (v7 : Int32) (wh_powers : Int32) (a_base : Nat → Int64) (a_power : Nat → Int64) (a_powerSum : Nat → Int64) : Option (Int32 × (Nat → Int64) × (Nat → Int64) × (Nat → Int64)) :=
  if v7 < 0 ∨ 400 ≤ v7.toNatClampNeg then
    none
  else
    xl (wh_powers + (1 : Int32)) fun y5z =>
    some (y5z, vp_updL a_base v7.toNatClampNeg v1, vp_updL a_power v7.toNatClampNeg v3, vp_updL a_powerSum v7.toNatClampNeg v5)
set_option maxRecDepth 100000 in
set_option maxHeartbeats 4000000 in
theorem k_X9_keepPower_101 {p : Program} {l : Launch} {e : Env} {s : State} {m : MethodId} {args : Array Value} {below : List Frame} {meth : Method} {c : Code} {dC : Nat → ClassId} {dI : Nat → Nat → Nat} {cyI cyJ cyZ : ClassId} {A : Nat → Prop} (C0 : mC p s m meth c args cX9_keepPower none 9 RX9 wsX9_keepPower (gK dC dI cyI cyJ cyZ) A) (N : Nat) (res : Int32 × (Nat → Int64) × (Nat → Int64) × (Nat → Int64)) (q_Wh : Nat) (q_base : Nat) (q_power : Nat) (q_powerSum : Nat) (q_Sp : Nat) (q_Pr : Nat) (q_found : Nat) (v1 : Int64) (v3 : Int64) (v5 : Int64) (v7 : Int32) (wh_powers : Int32) (wh_many : Int32) (wh_told : Int64) (a_base : Nat → Int64) (a_power : Nat → Int64) (a_powerSum : Nat → Int64) (h : j_X9_keepPower_101 N v1 v3 v5 v7 wh_powers a_base a_power a_powerSum = some res) : ∀ (H : Heap) (locs : List Loc), va_P (dC, dI) vwCl (wd24 cyI cyJ cyZ q_Wh q_base q_power q_powerSum q_Sp q_Pr q_found wh_powers wh_many wh_told a_base a_power a_powerSum) H → va_D A (wd24 cyI cyJ cyZ q_Wh q_base q_power q_powerSum q_Sp q_Pr q_found wh_powers wh_many wh_told a_base a_power a_powerSum) → va_S A s.heap H locs → ∀ (ls : Array Slot), lv_has ls 9 [(0, .ref q_Wh), (1, .long v1), (3, .long v3), (5, .long v5), (7, .int v7)] → W p l e (headSpec wsX9_keepPower rm_X9_keepPower).room s m args below meth c H locs 0 0 (MQ below (va_Qv (fun (_ : Unit) => True) (bW dC dI (fun (u : Unit) => (wd24 cyI cyJ cyZ q_Wh q_base q_power q_powerSum q_Sp q_Pr q_found res.1 wh_many wh_told res.2.1 res.2.2.1 res.2.2.2)) A) A) args s 0 0 A) (F0 m 101 ls []) := by
  obtain ⟨hx, hb, hr, hml, hown, hts, hlocks, hG, hA⟩ := id C0
  have hK := hG.1
  intro H locs hP hD hS ls hl
  unfold j_X9_keepPower_101 at h
  refine lv_aload_n hx hb dX9_keepPower_101 rfl (lv_at hl 0 rfl) ?_
  refine va_get (D := (dC, dI)) (ci := 9) (v := .ref q_base) (C := RX9) (T := TX9) (N := 9) hx hb hts iw_X9_keepPower_X9 hown hK hP 0 rfl rfl 2 (by decide) (hts (.fieldLink RX9 11 "GoesInto$Whole" "base" "[J") (List.mem_of_getElem? (i := 3) rfl)) (fun _ h9 => h9) rfl dX9_keepPower_102 ?_
  refine lv_iload hx hb dX9_keepPower_105 (lv_at hl 4 rfl) ?_
  refine lv_lload_n hx hb dX9_keepPower_107 rfl (lv_at hl 1 rfl) ?_
  obtain ⟨b4z, h⟩ := xn h
  refine va_last hx hb hK hP hD hS 1 1 rfl rfl b4z dX9_keepPower_108 (fun H locs hP hD hS => ?_)
  have hP : va_P (dC, dI) vwCl (wd24 cyI cyJ cyZ q_Wh q_base q_power q_powerSum q_Sp q_Pr q_found wh_powers wh_many wh_told (vp_updL a_base v7.toNatClampNeg v1) a_power a_powerSum) H := hP
  have hD : va_D A (wd24 cyI cyJ cyZ q_Wh q_base q_power q_powerSum q_Sp q_Pr q_found wh_powers wh_many wh_told (vp_updL a_base v7.toNatClampNeg v1) a_power a_powerSum) := hD
  refine lv_aload_n hx hb dX9_keepPower_109 rfl (lv_at hl 0 rfl) ?_
  refine va_get (D := (dC, dI)) (ci := 9) (v := .ref q_power) (C := RX9) (T := TX9) (N := 9) hx hb hts iw_X9_keepPower_X9 hown hK hP 0 rfl rfl 3 (by decide) (hts (.fieldLink RX9 15 "GoesInto$Whole" "power" "[J") (List.mem_of_getElem? (i := 4) rfl)) (fun _ h9 => h9) rfl dX9_keepPower_110 ?_
  refine lv_iload hx hb dX9_keepPower_113 (lv_at hl 4 rfl) ?_
  refine lv_lload_n hx hb dX9_keepPower_115 rfl (lv_at hl 2 rfl) ?_
  refine va_last hx hb hK hP hD hS 2 1 rfl rfl b4z dX9_keepPower_116 (fun H locs hP hD hS => ?_)
  have hP : va_P (dC, dI) vwCl (wd24 cyI cyJ cyZ q_Wh q_base q_power q_powerSum q_Sp q_Pr q_found wh_powers wh_many wh_told (vp_updL a_base v7.toNatClampNeg v1) (vp_updL a_power v7.toNatClampNeg v3) a_powerSum) H := hP
  have hD : va_D A (wd24 cyI cyJ cyZ q_Wh q_base q_power q_powerSum q_Sp q_Pr q_found wh_powers wh_many wh_told (vp_updL a_base v7.toNatClampNeg v1) (vp_updL a_power v7.toNatClampNeg v3) a_powerSum) := hD
  refine lv_aload_n hx hb dX9_keepPower_117 rfl (lv_at hl 0 rfl) ?_
  refine va_get (D := (dC, dI)) (ci := 9) (v := .ref q_powerSum) (C := RX9) (T := TX9) (N := 9) hx hb hts iw_X9_keepPower_X9 hown hK hP 0 rfl rfl 4 (by decide) (hts (.fieldLink RX9 18 "GoesInto$Whole" "powerSum" "[J") (List.mem_of_getElem? (i := 2) rfl)) (fun _ h9 => h9) rfl dX9_keepPower_118 ?_
  refine lv_iload hx hb dX9_keepPower_121 (lv_at hl 4 rfl) ?_
  refine lv_lload hx hb dX9_keepPower_123 (lv_at hl 3 rfl) ?_
  refine va_last hx hb hK hP hD hS 3 1 rfl rfl b4z dX9_keepPower_125 (fun H locs hP hD hS => ?_)
  have hP : va_P (dC, dI) vwCl (wd24 cyI cyJ cyZ q_Wh q_base q_power q_powerSum q_Sp q_Pr q_found wh_powers wh_many wh_told (vp_updL a_base v7.toNatClampNeg v1) (vp_updL a_power v7.toNatClampNeg v3) (vp_updL a_powerSum v7.toNatClampNeg v5)) H := hP
  have hD : va_D A (wd24 cyI cyJ cyZ q_Wh q_base q_power q_powerSum q_Sp q_Pr q_found wh_powers wh_many wh_told (vp_updL a_base v7.toNatClampNeg v1) (vp_updL a_power v7.toNatClampNeg v3) (vp_updL a_powerSum v7.toNatClampNeg v5)) := hD
  refine lv_aload_n hx hb dX9_keepPower_126 rfl (lv_at hl 0 rfl) ?_
  refine lv_dup hx hb dX9_keepPower_127 rfl ?_
  refine va_get (D := (dC, dI)) (ci := 9) (v := .int wh_powers) (C := RX9) (T := TX9) (N := 9) hx hb hts iw_X9_keepPower_X9 hown hK hP 0 rfl rfl 5 (by decide) (hts (.fieldLink RX9 21 "GoesInto$Whole" "powers" "I") (List.mem_of_getElem? (i := 1) rfl)) (fun _ h9 => h9) rfl dX9_keepPower_128 ?_
  refine lv_iconst (v := (1 : Int32)) hx hb dX9_keepPower_131 (by decide) ?_
  refine lv_iadd hx hb dX9_keepPower_132 ?_
  refine lv_topi (fun y5z ey5z => ?_)
  have h := xl_at h ey5z
  refine va_put (D := (dC, dI)) (ci := 9) (v := .int y5z) (ty := .int) (C := RX9) (T := TX9) (N := 9) hx hb hts iw_X9_keepPower_X9 tyX9 tyX9_ok nmX9 hown hK hP hD hS 0 rfl rfl 5 (by decide) (hts (.fieldLink RX9 21 "GoesInto$Whole" "powers" "I") (List.mem_of_getElem? (i := 1) rfl)) (fun _ h9 => h9) rfl (tyX9_ok 5 (by decide)) rfl rfl (Nat.le_of_ble_eq_true rfl) dX9_keepPower_133 (fun H locs hP hD hS => ?_)
  have hP : va_P (dC, dI) vwCl (wd24 cyI cyJ cyZ q_Wh q_base q_power q_powerSum q_Sp q_Pr q_found y5z wh_many wh_told (vp_updL a_base v7.toNatClampNeg v1) (vp_updL a_power v7.toNatClampNeg v3) (vp_updL a_powerSum v7.toNatClampNeg v5)) H := hP
  have hD : va_D A (wd24 cyI cyJ cyZ q_Wh q_base q_power q_powerSum q_Sp q_Pr q_found y5z wh_many wh_told (vp_updL a_base v7.toNatClampNeg v1) (vp_updL a_power v7.toNatClampNeg v3) (vp_updL a_powerSum v7.toNatClampNeg v5)) := hD
  obtain rfl := Option.some.inj h
  exact W.vret hx hb hr (fun t ht hW => ⟨⟨(), rfl, trivial, by rw [ht]; exact hP, hD⟩, hS.F ht⟩) hS.2.2 dX9_keepPower_136 hlocks
def s_X9_keepPower_25 (N : Nat) (v1 : Int64) (v3 : Int64) (v5 : Int64) (wh_powers : Int32) (k_25 : (Int32 × Int32 × (Nat → Int64) × (Nat → Int64) × (Nat → Int64)) → Option (Int32 × (Nat → Int64) × (Nat → Int64) × (Nat → Int64))) (v7 : Int32) (v8 : Int32) (a_base : Nat → Int64) (a_power : Nat → Int64) (a_powerSum : Nat → Int64) : Option (Int32 × (Nat → Int64) × (Nat → Int64) × (Nat → Int64)) :=
  if v8 < 0 then
    j_X9_keepPower_101 N v1 v3 v5 v7 wh_powers a_base a_power a_powerSum
  else
    if v8 < 0 ∨ 400 ≤ v8.toNatClampNeg then
      none
    else
      if (a_powerSum v8.toNatClampNeg) ≤ v5 then
        j_X9_keepPower_101 N v1 v3 v5 v7 wh_powers a_base a_power a_powerSum
      else
        xl (a_base v8.toNatClampNeg) fun y8z =>
        if (v8 + (1 : Int32)) < 0 ∨ 400 ≤ (v8 + (1 : Int32)).toNatClampNeg then
          none
        else
          xl (a_power v8.toNatClampNeg) fun y10z =>
          xl (a_powerSum v8.toNatClampNeg) fun y11z =>
          xl (v8 + (-1 : Int32)) fun y12z =>
          k_25 (v8, y12z, vp_updL a_base (v8 + (1 : Int32)).toNatClampNeg y8z, vp_updL a_power (v8 + (1 : Int32)).toNatClampNeg y10z, vp_updL a_powerSum (v8 + (1 : Int32)).toNatClampNeg y11z)
def l_X9_keepPower_25 (N : Nat) (v1 : Int64) (v3 : Int64) (v5 : Int64) (wh_powers : Int32) (n : Nat) (z : Int32 × Int32 × (Nat → Int64) × (Nat → Int64) × (Nat → Int64)) : Option (Int32 × (Nat → Int64) × (Nat → Int64) × (Nat → Int64)) := lp (fun k z => s_X9_keepPower_25 N v1 v3 v5 wh_powers k z.1 z.2.1 z.2.2.1 z.2.2.2.1 z.2.2.2.2) n z
set_option maxRecDepth 100000 in
set_option maxHeartbeats 4000000 in
theorem k_X9_keepPower_25 {p : Program} {l : Launch} {e : Env} {s : State} {m : MethodId} {args : Array Value} {below : List Frame} {meth : Method} {c : Code} {dC : Nat → ClassId} {dI : Nat → Nat → Nat} {cyI cyJ cyZ : ClassId} {A : Nat → Prop} (C0 : mC p s m meth c args cX9_keepPower none 9 RX9 wsX9_keepPower (gK dC dI cyI cyJ cyZ) A) (N : Nat) (res : Int32 × (Nat → Int64) × (Nat → Int64) × (Nat → Int64)) (q_Wh : Nat) (q_base : Nat) (q_power : Nat) (q_powerSum : Nat) (q_Sp : Nat) (q_Pr : Nat) (q_found : Nat) (v1 : Int64) (v3 : Int64) (v5 : Int64) (wh_powers : Int32) (wh_many : Int32) (wh_told : Int64) : ∀ (n : Nat) (v7 : Int32) (v8 : Int32) (a_base : Nat → Int64) (a_power : Nat → Int64) (a_powerSum : Nat → Int64), l_X9_keepPower_25 N v1 v3 v5 wh_powers n (v7, v8, a_base, a_power, a_powerSum) = some res → ∀ (H : Heap) (locs : List Loc), va_P (dC, dI) vwCl (wd24 cyI cyJ cyZ q_Wh q_base q_power q_powerSum q_Sp q_Pr q_found wh_powers wh_many wh_told a_base a_power a_powerSum) H → va_D A (wd24 cyI cyJ cyZ q_Wh q_base q_power q_powerSum q_Sp q_Pr q_found wh_powers wh_many wh_told a_base a_power a_powerSum) → va_S A s.heap H locs → ∀ (ls : Array Slot), lv_has ls 9 [(0, .ref q_Wh), (1, .long v1), (3, .long v3), (5, .long v5), (7, .int v7), (8, .int v8)] → W p l e (headSpec wsX9_keepPower rm_X9_keepPower).room s m args below meth c H locs 0 0 (MQ below (va_Qv (fun (_ : Unit) => True) (bW dC dI (fun (u : Unit) => (wd24 cyI cyJ cyZ q_Wh q_base q_power q_powerSum q_Sp q_Pr q_found res.1 wh_many wh_told res.2.1 res.2.2.1 res.2.2.2)) A) A) args s 0 0 A) (F0 m 25 ls []) := by
  obtain ⟨hx, hb, hr, hml, hown, hts, hlocks, hG, hA⟩ := id C0
  have hK := hG.1
  intro n
  induction n with
  | zero =>
    intro v7 v8 a_base a_power a_powerSum h
    cases h
  | succ n ih =>
    intro v7 v8 a_base a_power a_powerSum h H locs hP hD hS ls hl
    have h : s_X9_keepPower_25 N v1 v3 v5 wh_powers (l_X9_keepPower_25 N v1 v3 v5 wh_powers n) v7 v8 a_base a_power a_powerSum = some res := h
    unfold s_X9_keepPower_25 at h
    refine lv_iload hx hb dX9_keepPower_25 (lv_at hl 5 rfl) ?_
    refine lv_if_lt (tgt := 101) hx hb dX9_keepPower_27 (by decide) (fun c3z => ?_) (fun c3z => ?_)
    · have h := xt h c3z
      exact k_X9_keepPower_101 C0 N res q_Wh q_base q_power q_powerSum q_Sp q_Pr q_found v1 v3 v5 v7 wh_powers wh_many wh_told a_base a_power a_powerSum  h _ _ hP hD hS _ (lv_sub hl [0, 1, 2, 3, 4] rfl)
    · have h := xf h c3z
      refine lv_aload_n hx hb dX9_keepPower_30 rfl (lv_at hl 0 rfl) ?_
      refine va_get (D := (dC, dI)) (ci := 9) (v := .ref q_powerSum) (C := RX9) (T := TX9) (N := 9) hx hb hts iw_X9_keepPower_X9 hown hK hP 0 rfl rfl 4 (by decide) (hts (.fieldLink RX9 18 "GoesInto$Whole" "powerSum" "[J") (List.mem_of_getElem? (i := 2) rfl)) (fun _ h9 => h9) rfl dX9_keepPower_31 ?_
      refine lv_iload hx hb dX9_keepPower_34 (lv_at hl 5 rfl) ?_
      obtain ⟨b6z, h⟩ := xn h
      refine va_lald hx hb hK hP 3 1 rfl rfl b6z dX9_keepPower_36 ?_
      refine lv_lload hx hb dX9_keepPower_37 (lv_at hl 3 rfl) ?_
      refine W.lcmp hx hb dX9_keepPower_39 ?_
      refine lv_if_le (tgt := 101) hx hb dX9_keepPower_40 (by decide) (fun c7z => ?_) (fun c7z => ?_)
      · have c7z := (lg_cmp_le _ _).mp c7z
        have h := xt h c7z
        exact k_X9_keepPower_101 C0 N res q_Wh q_base q_power q_powerSum q_Sp q_Pr q_found v1 v3 v5 v7 wh_powers wh_many wh_told a_base a_power a_powerSum  h _ _ hP hD hS _ (lv_sub hl [0, 1, 2, 3, 4] rfl)
      · have c7z := fun z => c7z ((lg_cmp_le _ _).mpr z)
        have h := xf h c7z
        refine lv_aload_n hx hb dX9_keepPower_43 rfl (lv_at hl 0 rfl) ?_
        refine va_get (D := (dC, dI)) (ci := 9) (v := .ref q_base) (C := RX9) (T := TX9) (N := 9) hx hb hts iw_X9_keepPower_X9 hown hK hP 0 rfl rfl 2 (by decide) (hts (.fieldLink RX9 11 "GoesInto$Whole" "base" "[J") (List.mem_of_getElem? (i := 3) rfl)) (fun _ h9 => h9) rfl dX9_keepPower_44 ?_
        refine lv_iload hx hb dX9_keepPower_47 (lv_at hl 5 rfl) ?_
        refine lv_iconst (v := (1 : Int32)) hx hb dX9_keepPower_49 (by decide) ?_
        refine lv_iadd hx hb dX9_keepPower_50 ?_
        refine lv_aload_n hx hb dX9_keepPower_51 rfl (lv_at hl 0 rfl) ?_
        refine va_get (D := (dC, dI)) (ci := 9) (v := .ref q_base) (C := RX9) (T := TX9) (N := 9) hx hb hts iw_X9_keepPower_X9 hown hK hP 0 rfl rfl 2 (by decide) (hts (.fieldLink RX9 11 "GoesInto$Whole" "base" "[J") (List.mem_of_getElem? (i := 3) rfl)) (fun _ h9 => h9) rfl dX9_keepPower_52 ?_
        refine lv_iload hx hb dX9_keepPower_55 (lv_at hl 5 rfl) ?_
        refine va_lald hx hb hK hP 1 1 rfl rfl b6z dX9_keepPower_57 ?_
        refine lv_topl (fun y8z ey8z => ?_)
        have h := xl_at h ey8z
        obtain ⟨b9z, h⟩ := xn h
        refine va_last hx hb hK hP hD hS 1 1 rfl rfl b9z dX9_keepPower_58 (fun H locs hP hD hS => ?_)
        have hP : va_P (dC, dI) vwCl (wd24 cyI cyJ cyZ q_Wh q_base q_power q_powerSum q_Sp q_Pr q_found wh_powers wh_many wh_told (vp_updL a_base (v8 + (1 : Int32)).toNatClampNeg y8z) a_power a_powerSum) H := hP
        have hD : va_D A (wd24 cyI cyJ cyZ q_Wh q_base q_power q_powerSum q_Sp q_Pr q_found wh_powers wh_many wh_told (vp_updL a_base (v8 + (1 : Int32)).toNatClampNeg y8z) a_power a_powerSum) := hD
        refine lv_aload_n hx hb dX9_keepPower_59 rfl (lv_at hl 0 rfl) ?_
        refine va_get (D := (dC, dI)) (ci := 9) (v := .ref q_power) (C := RX9) (T := TX9) (N := 9) hx hb hts iw_X9_keepPower_X9 hown hK hP 0 rfl rfl 3 (by decide) (hts (.fieldLink RX9 15 "GoesInto$Whole" "power" "[J") (List.mem_of_getElem? (i := 4) rfl)) (fun _ h9 => h9) rfl dX9_keepPower_60 ?_
        refine lv_iload hx hb dX9_keepPower_63 (lv_at hl 5 rfl) ?_
        refine lv_iconst (v := (1 : Int32)) hx hb dX9_keepPower_65 (by decide) ?_
        refine lv_iadd hx hb dX9_keepPower_66 ?_
        refine lv_aload_n hx hb dX9_keepPower_67 rfl (lv_at hl 0 rfl) ?_
        refine va_get (D := (dC, dI)) (ci := 9) (v := .ref q_power) (C := RX9) (T := TX9) (N := 9) hx hb hts iw_X9_keepPower_X9 hown hK hP 0 rfl rfl 3 (by decide) (hts (.fieldLink RX9 15 "GoesInto$Whole" "power" "[J") (List.mem_of_getElem? (i := 4) rfl)) (fun _ h9 => h9) rfl dX9_keepPower_68 ?_
        refine lv_iload hx hb dX9_keepPower_71 (lv_at hl 5 rfl) ?_
        refine va_lald hx hb hK hP 2 1 rfl rfl b6z dX9_keepPower_73 ?_
        refine lv_topl (fun y10z ey10z => ?_)
        have h := xl_at h ey10z
        refine va_last hx hb hK hP hD hS 2 1 rfl rfl b9z dX9_keepPower_74 (fun H locs hP hD hS => ?_)
        have hP : va_P (dC, dI) vwCl (wd24 cyI cyJ cyZ q_Wh q_base q_power q_powerSum q_Sp q_Pr q_found wh_powers wh_many wh_told (vp_updL a_base (v8 + (1 : Int32)).toNatClampNeg y8z) (vp_updL a_power (v8 + (1 : Int32)).toNatClampNeg y10z) a_powerSum) H := hP
        have hD : va_D A (wd24 cyI cyJ cyZ q_Wh q_base q_power q_powerSum q_Sp q_Pr q_found wh_powers wh_many wh_told (vp_updL a_base (v8 + (1 : Int32)).toNatClampNeg y8z) (vp_updL a_power (v8 + (1 : Int32)).toNatClampNeg y10z) a_powerSum) := hD
        refine lv_aload_n hx hb dX9_keepPower_75 rfl (lv_at hl 0 rfl) ?_
        refine va_get (D := (dC, dI)) (ci := 9) (v := .ref q_powerSum) (C := RX9) (T := TX9) (N := 9) hx hb hts iw_X9_keepPower_X9 hown hK hP 0 rfl rfl 4 (by decide) (hts (.fieldLink RX9 18 "GoesInto$Whole" "powerSum" "[J") (List.mem_of_getElem? (i := 2) rfl)) (fun _ h9 => h9) rfl dX9_keepPower_76 ?_
        refine lv_iload hx hb dX9_keepPower_79 (lv_at hl 5 rfl) ?_
        refine lv_iconst (v := (1 : Int32)) hx hb dX9_keepPower_81 (by decide) ?_
        refine lv_iadd hx hb dX9_keepPower_82 ?_
        refine lv_aload_n hx hb dX9_keepPower_83 rfl (lv_at hl 0 rfl) ?_
        refine va_get (D := (dC, dI)) (ci := 9) (v := .ref q_powerSum) (C := RX9) (T := TX9) (N := 9) hx hb hts iw_X9_keepPower_X9 hown hK hP 0 rfl rfl 4 (by decide) (hts (.fieldLink RX9 18 "GoesInto$Whole" "powerSum" "[J") (List.mem_of_getElem? (i := 2) rfl)) (fun _ h9 => h9) rfl dX9_keepPower_84 ?_
        refine lv_iload hx hb dX9_keepPower_87 (lv_at hl 5 rfl) ?_
        refine va_lald hx hb hK hP 3 1 rfl rfl b6z dX9_keepPower_89 ?_
        refine lv_topl (fun y11z ey11z => ?_)
        have h := xl_at h ey11z
        refine va_last hx hb hK hP hD hS 3 1 rfl rfl b9z dX9_keepPower_90 (fun H locs hP hD hS => ?_)
        have hP : va_P (dC, dI) vwCl (wd24 cyI cyJ cyZ q_Wh q_base q_power q_powerSum q_Sp q_Pr q_found wh_powers wh_many wh_told (vp_updL a_base (v8 + (1 : Int32)).toNatClampNeg y8z) (vp_updL a_power (v8 + (1 : Int32)).toNatClampNeg y10z) (vp_updL a_powerSum (v8 + (1 : Int32)).toNatClampNeg y11z)) H := hP
        have hD : va_D A (wd24 cyI cyJ cyZ q_Wh q_base q_power q_powerSum q_Sp q_Pr q_found wh_powers wh_many wh_told (vp_updL a_base (v8 + (1 : Int32)).toNatClampNeg y8z) (vp_updL a_power (v8 + (1 : Int32)).toNatClampNeg y10z) (vp_updL a_powerSum (v8 + (1 : Int32)).toNatClampNeg y11z)) := hD
        refine lv_iload hx hb dX9_keepPower_91 (lv_at hl 5 rfl) ?_
        refine lv_istore (lv' := [(7, .int v8), (0, .ref q_Wh), (1, .long v1), (3, .long v3), (5, .long v5), (8, .int v8)]) hx hb dX9_keepPower_93 hl (by decide) rfl (fun ls hl => ?_)
        obtain ⟨y12z, ey12z⟩ : ∃ z : Int32, z = v8 + (-1 : Int32) := ⟨_, rfl⟩
        have h := xl_at h ey12z
        refine lv_iinc (v := y12z) (lv' := [(8, .int y12z), (7, .int v8), (0, .ref q_Wh), (1, .long v1), (3, .long v3), (5, .long v5)]) hx hb dX9_keepPower_95 hl (k := 5) rfl (by rw [ey12z]; rfl) (by decide) rfl (fun ls hl => ?_)
        refine lv_goto (tgt := 25) hx hb dX9_keepPower_98 (by decide) ?_
        exact ih v8 y12z (vp_updL a_base (v8 + (1 : Int32)).toNatClampNeg y8z) (vp_updL a_power (v8 + (1 : Int32)).toNatClampNeg y10z) (vp_updL a_powerSum (v8 + (1 : Int32)).toNatClampNeg y11z) h _ _ hP hD hS _ (lv_sub hl [2, 3, 4, 5, 1, 0] rfl)
def f_X9_keepPower (N : Nat) (v1 : Int64) (v3 : Int64) (v5 : Int64) (wh_powers : Int32) (a_base : Nat → Int64) (a_power : Nat → Int64) (a_powerSum : Nat → Int64) : Option (Int32 × (Nat → Int64) × (Nat → Int64) × (Nat → Int64)) :=
  if wh_powers < (400 : Int32) then
    xl (wh_powers - (1 : Int32)) fun y2z =>
    l_X9_keepPower_25 N v1 v3 v5 wh_powers N (wh_powers, y2z, a_base, a_power, a_powerSum)
  else
    some (wh_powers, a_base, a_power, a_powerSum)
set_option maxRecDepth 100000 in
set_option maxHeartbeats 4000000 in
theorem k_X9_keepPower_0 {p : Program} {l : Launch} {e : Env} {s : State} {m : MethodId} {args : Array Value} {below : List Frame} {meth : Method} {c : Code} {dC : Nat → ClassId} {dI : Nat → Nat → Nat} {cyI cyJ cyZ : ClassId} {A : Nat → Prop} (C0 : mC p s m meth c args cX9_keepPower none 9 RX9 wsX9_keepPower (gK dC dI cyI cyJ cyZ) A) (N : Nat) (res : Int32 × (Nat → Int64) × (Nat → Int64) × (Nat → Int64)) (q_Wh : Nat) (q_base : Nat) (q_power : Nat) (q_powerSum : Nat) (q_Sp : Nat) (q_Pr : Nat) (q_found : Nat) (v1 : Int64) (v3 : Int64) (v5 : Int64) (wh_powers : Int32) (wh_many : Int32) (wh_told : Int64) (a_base : Nat → Int64) (a_power : Nat → Int64) (a_powerSum : Nat → Int64) (h : f_X9_keepPower N v1 v3 v5 wh_powers a_base a_power a_powerSum = some res) : ∀ (H : Heap) (locs : List Loc), va_P (dC, dI) vwCl (wd24 cyI cyJ cyZ q_Wh q_base q_power q_powerSum q_Sp q_Pr q_found wh_powers wh_many wh_told a_base a_power a_powerSum) H → va_D A (wd24 cyI cyJ cyZ q_Wh q_base q_power q_powerSum q_Sp q_Pr q_found wh_powers wh_many wh_told a_base a_power a_powerSum) → va_S A s.heap H locs → ∀ (ls : Array Slot), lv_has ls 9 [(0, .ref q_Wh), (1, .long v1), (3, .long v3), (5, .long v5)] → W p l e (headSpec wsX9_keepPower rm_X9_keepPower).room s m args below meth c H locs 0 0 (MQ below (va_Qv (fun (_ : Unit) => True) (bW dC dI (fun (u : Unit) => (wd24 cyI cyJ cyZ q_Wh q_base q_power q_powerSum q_Sp q_Pr q_found res.1 wh_many wh_told res.2.1 res.2.2.1 res.2.2.2)) A) A) args s 0 0 A) (F0 m 0 ls []) := by
  obtain ⟨hx, hb, hr, hml, hown, hts, hlocks, hG, hA⟩ := id C0
  have hK := hG.1
  intro H locs hP hD hS ls hl
  unfold f_X9_keepPower at h
  refine lv_aload_n hx hb dX9_keepPower_0 rfl (lv_at hl 0 rfl) ?_
  refine va_get (D := (dC, dI)) (ci := 9) (v := .int wh_powers) (C := RX9) (T := TX9) (N := 9) hx hb hts iw_X9_keepPower_X9 hown hK hP 0 rfl rfl 5 (by decide) (hts (.fieldLink RX9 21 "GoesInto$Whole" "powers" "I") (List.mem_of_getElem? (i := 1) rfl)) (fun _ h9 => h9) rfl dX9_keepPower_1 ?_
  refine lv_sipush (v := (400 : Int32)) hx hb dX9_keepPower_4 (by decide) ?_
  refine lv_icmp_lt (tgt := 11) hx hb dX9_keepPower_7 (by decide) (fun c1z => ?_) (fun c1z => ?_)
  · have h := xt h c1z
    refine lv_aload_n hx hb dX9_keepPower_11 rfl (lv_at hl 0 rfl) ?_
    refine va_get (D := (dC, dI)) (ci := 9) (v := .int wh_powers) (C := RX9) (T := TX9) (N := 9) hx hb hts iw_X9_keepPower_X9 hown hK hP 0 rfl rfl 5 (by decide) (hts (.fieldLink RX9 21 "GoesInto$Whole" "powers" "I") (List.mem_of_getElem? (i := 1) rfl)) (fun _ h9 => h9) rfl dX9_keepPower_12 ?_
    refine lv_istore (lv' := [(7, .int wh_powers), (0, .ref q_Wh), (1, .long v1), (3, .long v3), (5, .long v5)]) hx hb dX9_keepPower_15 hl (by decide) rfl (fun ls hl => ?_)
    refine lv_aload_n hx hb dX9_keepPower_17 rfl (lv_at hl 1 rfl) ?_
    refine va_get (D := (dC, dI)) (ci := 9) (v := .int wh_powers) (C := RX9) (T := TX9) (N := 9) hx hb hts iw_X9_keepPower_X9 hown hK hP 0 rfl rfl 5 (by decide) (hts (.fieldLink RX9 21 "GoesInto$Whole" "powers" "I") (List.mem_of_getElem? (i := 1) rfl)) (fun _ h9 => h9) rfl dX9_keepPower_18 ?_
    refine lv_iconst (v := (1 : Int32)) hx hb dX9_keepPower_21 (by decide) ?_
    refine lv_isub hx hb dX9_keepPower_22 ?_
    refine lv_topi (fun y2z ey2z => ?_)
    have h := xl_at h ey2z
    refine lv_istore (lv' := [(8, .int y2z), (7, .int wh_powers), (0, .ref q_Wh), (1, .long v1), (3, .long v3), (5, .long v5)]) hx hb dX9_keepPower_23 hl (by decide) rfl (fun ls hl => ?_)
    exact k_X9_keepPower_25 C0 N res q_Wh q_base q_power q_powerSum q_Sp q_Pr q_found v1 v3 v5 wh_powers wh_many wh_told N wh_powers y2z a_base a_power a_powerSum h _ _ hP hD hS _ (lv_sub hl [2, 3, 4, 5, 1, 0] rfl)
  · have h := xf h c1z
    obtain rfl := Option.some.inj h
    exact W.vret hx hb hr (fun t ht hW => ⟨⟨(), rfl, trivial, by rw [ht]; exact hP, hD⟩, hS.F ht⟩) hS.2.2 dX9_keepPower_10 hlocks
set_option maxRecDepth 100000 in
set_option maxHeartbeats 4000000 in
theorem c_X9_keepPower (l : Launch) (dC : Nat → ClassId) (dI : Nat → Nat → Nat) (cyI cyJ cyZ : ClassId) (N : Nat) (res : Int32 × (Nat → Int64) × (Nat → Int64) × (Nat → Int64)) (sz : Nat) (q_Wh : Nat) (q_base : Nat) (q_power : Nat) (q_powerSum : Nat) (q_Sp : Nat) (q_Pr : Nat) (q_found : Nat) (v1 : Int64) (v3 : Int64) (v5 : Int64) (wh_powers : Int32) (wh_many : Int32) (wh_told : Int64) (a_base : Nat → Int64) (a_power : Nat → Int64) (a_powerSum : Nat → Int64) (h : f_X9_keepPower N v1 v3 v5 wh_powers a_base a_power a_powerSum = some res) : Met l yX9_keepPower wsX9_keepPower rm_X9_keepPower (pC dC dI cyI cyJ cyZ [.ref q_Wh, .long v1, .long v3, .long v5] sz (wd24 cyI cyJ cyZ q_Wh q_base q_power q_powerSum q_Sp q_Pr q_found wh_powers wh_many wh_told a_base a_power a_powerSum)) (va_Qv (fun (_ : Unit) => True) (bW dC dI (fun (u : Unit) => (wd24 cyI cyJ cyZ q_Wh q_base q_power q_powerSum q_Sp q_Pr q_found res.1 wh_many wh_told res.2.1 res.2.2.1 res.2.2.2)) (va_A (wd24 cyI cyJ cyZ q_Wh q_base q_power q_powerSum q_Sp q_Pr q_found wh_powers wh_many wh_told a_base a_power a_powerSum) sz)) (va_A (wd24 cyI cyJ cyZ q_Wh q_base q_power q_powerSum q_Sp q_Pr q_found wh_powers wh_many wh_told a_base a_power a_powerSum) sz)) 0 0 (va_A (wd24 cyI cyJ cyZ q_Wh q_base q_power q_powerSum q_Sp q_Pr q_found wh_powers wh_many wh_told a_base a_power a_powerSum) sz) := by
  refine Met.ofW (cc := cX9_keepPower) (maxL := 9) (ret := none) (by decide) rfl ?_
  intro p e s m args below meth c s₁ B hml hv
  obtain ⟨rfl, hsz, hP, hG, hD0⟩ := hv
  have hx := B.exec
  have hb := B.bytes
  have hr := B.returns
  have hts := atoms_spec (ws := wsX9_keepPower) B.pre
  have hown : s.vm.findClass RX9 = some m.cls := findClass_of_methodNamed B.named
  have hlocks := B.notSynchronized
  subst hsz
  have hD := hD0.self (sz := s.heap.size)
  generalize hAe : va_A (wd24 cyI cyJ cyZ q_Wh q_base q_power q_powerSum q_Sp q_Pr q_found wh_powers wh_many wh_told a_base a_power a_powerSum) s.heap.size = A at hD ⊢
  have hA : ∀ q : Nat, s.heap.size ≤ q → A q := fun q h => by rw [← hAe]; exact Or.inr h
  have hS : va_S A s.heap s.heap [] := va_S.rf
  have hl := lv_entry ([.ref q_Wh, .long v1, .long v3, .long v5]) (n := 9) (Nat.le_of_ble_eq_true rfl)
  rw [lg_entry_eq]
  generalize (lg_sl ([.ref q_Wh, .long v1, .long v3, .long v5]) ++ List.replicate (9 - (lg_sl ([.ref q_Wh, .long v1, .long v3, .long v5])).length) Slot.unset).toArray = ls at hl ⊢
  have hl : lv_has ls 9 [(0, .ref q_Wh), (1, .long v1), (3, .long v3), (5, .long v5)] := hl
  exact k_X9_keepPower_0 ⟨hx, hb, hr, hml, hown, hts, hlocks, hG, hA⟩ N res q_Wh q_base q_power q_powerSum q_Sp q_Pr q_found v1 v3 v5 wh_powers wh_many wh_told a_base a_power a_powerSum  h _ _ hP hD hS _ hl
/-- the cells Pr, Sp, Wh, list, prime, times, parts, base, power, powerSum -/
abbrev wd25 (cyI cyJ cyZ : ClassId) (q_Pr : Nat) (q_Sp : Nat) (q_Wh : Nat) (q_list : Nat) (q_prime : Nat) (q_times : Nat) (q_parts : Nat) (q_base : Nat) (q_power : Nat) (q_powerSum : Nat) (q_Sc : Nat) (q_found : Nat) (sp_unlike : Int32) (sp_number : Int64) (sp_partsKept : Int32) (sp_partsNumber : Int64) (wh_powers : Int32) (wh_many : Int32) (wh_told : Int64) (n_list : Nat) (a_list : Nat → Int32) (a_prime : Nat → Int64) (a_times : Nat → Int32) (a_parts : Nat → Int64) (a_base : Nat → Int64) (a_power : Nat → Int64) (a_powerSum : Nat → Int64) : va_W := [(q_Pr, .inr (3, [.ref q_Sc, .ref q_list])), (q_Sp, .inr (6, [.ref q_Pr, .ref q_prime, .ref q_times, .int sp_unlike, .long sp_number, .ref q_parts, .int sp_partsKept, .long sp_partsNumber])), (q_Wh, .inr (9, [.ref q_Sp, .ref q_Pr, .ref q_base, .ref q_power, .ref q_powerSum, .int wh_powers, .ref q_found, .int wh_many, .long wh_told])), (q_list, .inl (cyI, n_list, .inl a_list)), (q_prime, .inl (cyJ, 12, .inr (.inl a_prime))), (q_times, .inl (cyI, 12, .inl a_times)), (q_parts, .inl (cyJ, 2304, .inr (.inl a_parts))), (q_base, .inl (cyJ, 400, .inr (.inl a_base))), (q_power, .inl (cyJ, 400, .inr (.inl a_power))), (q_powerSum, .inl (cyJ, 400, .inr (.inl a_powerSum)))]
abbrev rm_X9_keepPrimes : Room := { frames := 3, cells := 0, slots := 0, locals := 72 }
theorem hd_X9_keepPrimes : yX9_keepPrimes.cls ≠ "java/lang/invoke/MethodHandle" ∧ yX9_keepPrimes.cls ≠ "java/lang/invoke/VarHandle" ∧ (parseMethodDescriptor yX9_keepPrimes.desc).map (fun d => d.parameters.length) = some 1 := by decide +kernel
theorem iw_X9_keepPrimes_X3 : ∀ w ∈ wsX30, w ∈ wsX9_keepPrimes := List.forall_mem_cons.mpr ⟨List.mem_of_getElem? (i := 72) rfl, List.forall_mem_cons.mpr ⟨List.mem_of_getElem? (i := 73) rfl, fun _ h => absurd h List.not_mem_nil⟩⟩
theorem iw_X9_keepPrimes_X6 : ∀ w ∈ wsX60, w ∈ wsX9_keepPrimes := List.forall_mem_cons.mpr ⟨List.mem_of_getElem? (i := 64) rfl, List.forall_mem_cons.mpr ⟨List.mem_of_getElem? (i := 65) rfl, List.forall_mem_cons.mpr ⟨List.mem_of_getElem? (i := 66) rfl, List.forall_mem_cons.mpr ⟨List.mem_of_getElem? (i := 67) rfl, List.forall_mem_cons.mpr ⟨List.mem_of_getElem? (i := 68) rfl, List.forall_mem_cons.mpr ⟨List.mem_of_getElem? (i := 69) rfl, List.forall_mem_cons.mpr ⟨List.mem_of_getElem? (i := 70) rfl, List.forall_mem_cons.mpr ⟨List.mem_of_getElem? (i := 71) rfl, fun _ h => absurd h List.not_mem_nil⟩⟩⟩⟩⟩⟩⟩⟩
theorem iw_X9_keepPrimes_X9 : ∀ w ∈ wsX90, w ∈ wsX9_keepPrimes := List.forall_mem_cons.mpr ⟨List.mem_of_getElem? (i := 55) rfl, List.forall_mem_cons.mpr ⟨List.mem_of_getElem? (i := 56) rfl, List.forall_mem_cons.mpr ⟨List.mem_of_getElem? (i := 57) rfl, List.forall_mem_cons.mpr ⟨List.mem_of_getElem? (i := 58) rfl, List.forall_mem_cons.mpr ⟨List.mem_of_getElem? (i := 59) rfl, List.forall_mem_cons.mpr ⟨List.mem_of_getElem? (i := 60) rfl, List.forall_mem_cons.mpr ⟨List.mem_of_getElem? (i := 61) rfl, List.forall_mem_cons.mpr ⟨List.mem_of_getElem? (i := 62) rfl, List.forall_mem_cons.mpr ⟨List.mem_of_getElem? (i := 63) rfl, fun _ h => absurd h List.not_mem_nil⟩⟩⟩⟩⟩⟩⟩⟩⟩
def s_X9_keepPrimes_19 (N : Nat) (v3 : Int32) (sp_unlike : Int32) (sp_number : Int64) (n_list : Nat) (a_list : Nat → Int32) (a_prime : Nat → Int64) (a_times : Nat → Int32) (k_19 : (Int32 × Int32 × Int64 × Int32 × (Nat → Int64) × (Nat → Int64) × (Nat → Int64) × (Nat → Int64)) → Option (Int32 × Int64 × Int32 × Int64 × Int32 × (Nat → Int64) × (Nat → Int32) × (Nat → Int64) × (Nat → Int64) × (Nat → Int64) × (Nat → Int64))) (v4 : Int32) (sp_partsKept : Int32) (sp_partsNumber : Int64) (wh_powers : Int32) (a_parts : Nat → Int64) (a_base : Nat → Int64) (a_power : Nat → Int64) (a_powerSum : Nat → Int64) : Option (Int32 × Int64 × Int32 × Int64 × Int32 × (Nat → Int64) × (Nat → Int32) × (Nat → Int64) × (Nat → Int64) × (Nat → Int64) × (Nat → Int64)) :=
  if v3 ≤ v4 then
    some (sp_unlike, sp_number, sp_partsKept, sp_partsNumber, wh_powers, a_prime, a_times, a_parts, a_base, a_power, a_powerSum)
  else
    Option.bind (f_X6_partAt N v4 sp_unlike sp_number sp_partsKept sp_partsNumber a_prime a_times a_parts) fun r8z =>
    Option.bind (f_X9_isPrime N (r8z.1 - (1 : Int64)) n_list a_list) fun r11z =>
    if r11z = 0 then
      xl (v4 + (1 : Int32)) fun y15z =>
      k_19 (y15z, r8z.2.1, r8z.2.2.1, wh_powers, r8z.2.2.2, a_base, a_power, a_powerSum)
    else
      Option.bind (f_X9_keepPower N (r8z.1 - (1 : Int64)) (r8z.1 - (1 : Int64)) r8z.1 wh_powers a_base a_power a_powerSum) fun r16z =>
      xl (v4 + (1 : Int32)) fun y19z =>
      k_19 (y19z, r8z.2.1, r8z.2.2.1, r16z.1, r8z.2.2.2, r16z.2.1, r16z.2.2.1, r16z.2.2.2)
def l_X9_keepPrimes_19 (N : Nat) (v3 : Int32) (sp_unlike : Int32) (sp_number : Int64) (n_list : Nat) (a_list : Nat → Int32) (a_prime : Nat → Int64) (a_times : Nat → Int32) (n : Nat) (z : Int32 × Int32 × Int64 × Int32 × (Nat → Int64) × (Nat → Int64) × (Nat → Int64) × (Nat → Int64)) : Option (Int32 × Int64 × Int32 × Int64 × Int32 × (Nat → Int64) × (Nat → Int32) × (Nat → Int64) × (Nat → Int64) × (Nat → Int64) × (Nat → Int64)) := lp (fun k z => s_X9_keepPrimes_19 N v3 sp_unlike sp_number n_list a_list a_prime a_times k z.1 z.2.1 z.2.2.1 z.2.2.2.1 z.2.2.2.2.1 z.2.2.2.2.2.1 z.2.2.2.2.2.2.1 z.2.2.2.2.2.2.2) n z
set_option maxRecDepth 100000 in
set_option maxHeartbeats 4000000 in
theorem k_X9_keepPrimes_19 {p : Program} {l : Launch} {e : Env} {s : State} {m : MethodId} {args : Array Value} {below : List Frame} {meth : Method} {c : Code} {dC : Nat → ClassId} {dI : Nat → Nat → Nat} {cyI cyJ cyZ : ClassId} {A : Nat → Prop} (C0 : mC p s m meth c args cX9_keepPrimes none 7 RX9 wsX9_keepPrimes (gK dC dI cyI cyJ cyZ) A) (N : Nat) (res : Int32 × Int64 × Int32 × Int64 × Int32 × (Nat → Int64) × (Nat → Int32) × (Nat → Int64) × (Nat → Int64) × (Nat → Int64) × (Nat → Int64)) (q_Pr : Nat) (q_Sp : Nat) (q_Wh : Nat) (q_list : Nat) (q_prime : Nat) (q_times : Nat) (q_parts : Nat) (q_base : Nat) (q_power : Nat) (q_powerSum : Nat) (q_Sc : Nat) (q_found : Nat) (v3 : Int32) (sp_unlike : Int32) (sp_number : Int64) (wh_many : Int32) (wh_told : Int64) (n_list : Nat) (a_list : Nat → Int32) (a_prime : Nat → Int64) (a_times : Nat → Int32) : ∀ (n : Nat) (v4 : Int32) (sp_partsKept : Int32) (sp_partsNumber : Int64) (wh_powers : Int32) (a_parts : Nat → Int64) (a_base : Nat → Int64) (a_power : Nat → Int64) (a_powerSum : Nat → Int64), l_X9_keepPrimes_19 N v3 sp_unlike sp_number n_list a_list a_prime a_times n (v4, sp_partsKept, sp_partsNumber, wh_powers, a_parts, a_base, a_power, a_powerSum) = some res → ∀ (H : Heap) (locs : List Loc), va_P (dC, dI) vwCl (wd25 cyI cyJ cyZ q_Pr q_Sp q_Wh q_list q_prime q_times q_parts q_base q_power q_powerSum q_Sc q_found sp_unlike sp_number sp_partsKept sp_partsNumber wh_powers wh_many wh_told n_list a_list a_prime a_times a_parts a_base a_power a_powerSum) H → va_D A (wd25 cyI cyJ cyZ q_Pr q_Sp q_Wh q_list q_prime q_times q_parts q_base q_power q_powerSum q_Sc q_found sp_unlike sp_number sp_partsKept sp_partsNumber wh_powers wh_many wh_told n_list a_list a_prime a_times a_parts a_base a_power a_powerSum) → va_S A s.heap H locs → ∀ (ls : Array Slot), lv_has ls 7 [(0, .ref q_Wh), (3, .int v3), (4, .int v4)] → W p l e (headSpec wsX9_keepPrimes rm_X9_keepPrimes).room s m args below meth c H locs 0 0 (MQ below (va_Qv (fun (_ : Unit) => True) (bW dC dI (fun (u : Unit) => (wd25 cyI cyJ cyZ q_Pr q_Sp q_Wh q_list q_prime q_times q_parts q_base q_power q_powerSum q_Sc q_found res.1 res.2.1 res.2.2.1 res.2.2.2.1 res.2.2.2.2.1 wh_many wh_told n_list a_list res.2.2.2.2.2.1 res.2.2.2.2.2.2.1 res.2.2.2.2.2.2.2.1 res.2.2.2.2.2.2.2.2.1 res.2.2.2.2.2.2.2.2.2.1 res.2.2.2.2.2.2.2.2.2.2)) A) A) args s 0 0 A) (F0 m 19 ls []) := by
  obtain ⟨hx, hb, hr, hml, hown, hts, hlocks, hG, hA⟩ := id C0
  have hK := hG.1
  intro n
  induction n with
  | zero =>
    intro v4 sp_partsKept sp_partsNumber wh_powers a_parts a_base a_power a_powerSum h
    cases h
  | succ n ih =>
    intro v4 sp_partsKept sp_partsNumber wh_powers a_parts a_base a_power a_powerSum h H locs hP hD hS ls hl
    have h : s_X9_keepPrimes_19 N v3 sp_unlike sp_number n_list a_list a_prime a_times (l_X9_keepPrimes_19 N v3 sp_unlike sp_number n_list a_list a_prime a_times n) v4 sp_partsKept sp_partsNumber wh_powers a_parts a_base a_power a_powerSum = some res := h
    unfold s_X9_keepPrimes_19 at h
    refine lv_iload hx hb dX9_keepPrimes_19 (lv_at hl 2 rfl) ?_
    refine lv_iload_n hx hb dX9_keepPrimes_21 rfl (lv_at hl 1 rfl) ?_
    refine lv_icmp_ge (tgt := 67) hx hb dX9_keepPrimes_22 (by decide) (fun c7z => ?_) (fun c7z => ?_)
    · have h := xt h c7z
      obtain rfl := Option.some.inj h
      exact W.vret hx hb hr (fun t ht hW => ⟨⟨(), rfl, trivial, by rw [ht]; exact hP, hD⟩, hS.F ht⟩) hS.2.2 dX9_keepPrimes_67 hlocks
    · have h := xf h c7z
      refine lv_aload_n hx hb dX9_keepPrimes_25 rfl (lv_at hl 0 rfl) ?_
      refine va_get (D := (dC, dI)) (ci := 9) (v := .ref q_Sp) (C := RX9) (T := TX9) (N := 9) hx hb hts iw_X9_keepPrimes_X9 hown hK hP 2 rfl rfl 0 (by decide) (hts (.fieldLink RX9 35 "GoesInto$Whole" "split" "LGoesInto$Split;") (List.mem_of_getElem? (i := 1) rfl)) (fun _ h9 => h9) rfl dX9_keepPrimes_26 ?_
      refine lv_iload hx hb dX9_keepPrimes_29 (lv_at hl 2 rfl) ?_
      obtain ⟨r8z, hr8z, h⟩ := xb_at h
      have hPc := hP.sub (ws' := (wd6 cyI cyJ cyZ q_Sp q_prime q_times q_parts q_Pr sp_unlike sp_number sp_partsKept sp_partsNumber a_prime a_times a_parts)) [1, 4, 5, 6] rfl
      have hDc := hD.sub (ws' := (wd6 cyI cyJ cyZ q_Sp q_prime q_times q_parts q_Pr sp_unlike sp_number sp_partsKept sp_partsNumber a_prime a_times a_parts)) [1, 4, 5, 6] (by decide) rfl
      refine cal_l [1, 4, 5, 6] [0, 2, 3, 7, 8, 9] (va_runV (As := [.int v4]) (rest := []) ⟨hx, hb, hml, hown, hts⟩ (c_X6_partAt l dC dI cyI cyJ cyZ N r8z H.size q_Sp q_prime q_times q_parts q_Pr v4 sp_unlike sp_number sp_partsKept sp_partsNumber a_prime a_times a_parts hr8z) (cwV 1 hts gX9_keepPrimes_X6_partAt rfl rfl rfl ⟨rfl, hd_X6_partAt⟩ ⟨Nat.le_of_ble_eq_true rfl, Nat.le_of_ble_eq_true rfl⟩) ⟨pC.blind, va_recv hK hPc (ci := 6) (q0 := 0) rfl rfl, pC.pre hPc hG hDc⟩ rfl rfl hl.1 rfl (lv_room (Nat.le_of_ble_eq_true rfl)) dX9_keepPrimes_31 ⟨Nat.zero_le _, Nat.zero_le _⟩) hP hD hS hA rfl rfl rfl (by decide) (fun x10z u9z H locs hw hP hD hS => ?_)
      obtain rfl := hw.symm
      have hP : va_P (dC, dI) vwCl (wd25 cyI cyJ cyZ q_Pr q_Sp q_Wh q_list q_prime q_times q_parts q_base q_power q_powerSum q_Sc q_found sp_unlike sp_number r8z.2.1 r8z.2.2.1 wh_powers wh_many wh_told n_list a_list a_prime a_times r8z.2.2.2 a_base a_power a_powerSum) H := hP.sub [0, 6, 1, 2, 7, 8, 9, 3, 4, 5] rfl
      have hD : va_D A (wd25 cyI cyJ cyZ q_Pr q_Sp q_Wh q_list q_prime q_times q_parts q_base q_power q_powerSum q_Sc q_found sp_unlike sp_number r8z.2.1 r8z.2.2.1 wh_powers wh_many wh_told n_list a_list a_prime a_times r8z.2.2.2 a_base a_power a_powerSum) := hD.sub [0, 6, 1, 2, 7, 8, 9, 3, 4, 5] (by decide) rfl
      refine lv_lstore (lv' := [(5, .long r8z.1), (0, .ref q_Wh), (3, .int v3), (4, .int v4)]) hx hb dX9_keepPrimes_34 hl (by decide) rfl (fun ls hl => ?_)
      refine lv_aload_n hx hb dX9_keepPrimes_36 rfl (lv_at hl 1 rfl) ?_
      refine lv_lload hx hb dX9_keepPrimes_37 (lv_at hl 0 rfl) ?_
      refine lv_lconst (v := (1 : Int64)) hx hb dX9_keepPrimes_39 (by decide) ?_
      refine lv_lsub hx hb dX9_keepPrimes_40 ?_
      obtain ⟨r11z, hr11z, h⟩ := xb_at h
      have hPc := hP.sub (ws' := (wd23 cyI cyJ cyZ q_Pr q_Wh q_list q_Sc q_Sp q_base q_power q_powerSum q_found wh_powers wh_many wh_told n_list a_list)) [0, 2, 3] rfl
      have hDc := hD.sub (ws' := (wd23 cyI cyJ cyZ q_Pr q_Wh q_list q_Sc q_Sp q_base q_power q_powerSum q_found wh_powers wh_many wh_told n_list a_list)) [0, 2, 3] (by decide) rfl
      refine cal_i [0, 2, 3] [1, 4, 5, 6, 7, 8, 9] (va_runV (As := [.long (r8z.1 - (1 : Int64))]) (rest := []) ⟨hx, hb, hml, hown, hts⟩ (c_X9_isPrime l dC dI cyI cyJ cyZ N r11z H.size q_Pr q_Wh q_list q_Sc q_Sp q_base q_power q_powerSum q_found (r8z.1 - (1 : Int64)) wh_powers wh_many wh_told n_list a_list hr11z) (cwV 1 hts gX9_keepPrimes_X9_isPrime rfl rfl rfl ⟨rfl, hd_X9_isPrime⟩ ⟨Nat.le_of_ble_eq_true rfl, Nat.le_of_ble_eq_true rfl⟩) ⟨pC.blind, va_recv hK hPc (ci := 9) (q0 := 1) rfl rfl, pC.pre hPc hG hDc⟩ rfl rfl hl.1 rfl (lv_room (Nat.le_of_ble_eq_true rfl)) dX9_keepPrimes_41 ⟨Nat.zero_le _, Nat.zero_le _⟩) hP hD hS hA rfl rfl rfl (by decide) (fun x13z u12z H locs hw hP hD hS => ?_)
      obtain rfl := hw.symm
      have hP : va_P (dC, dI) vwCl (wd25 cyI cyJ cyZ q_Pr q_Sp q_Wh q_list q_prime q_times q_parts q_base q_power q_powerSum q_Sc q_found sp_unlike sp_number r8z.2.1 r8z.2.2.1 wh_powers wh_many wh_told n_list a_list a_prime a_times r8z.2.2.2 a_base a_power a_powerSum) H := hP.sub [7, 0, 8, 9, 1, 2, 3, 4, 5, 6] rfl
      have hD : va_D A (wd25 cyI cyJ cyZ q_Pr q_Sp q_Wh q_list q_prime q_times q_parts q_base q_power q_powerSum q_Sc q_found sp_unlike sp_number r8z.2.1 r8z.2.2.1 wh_powers wh_many wh_told n_list a_list a_prime a_times r8z.2.2.2 a_base a_power a_powerSum) := hD.sub [7, 0, 8, 9, 1, 2, 3, 4, 5, 6] (by decide) rfl
      refine lv_if_eq (tgt := 61) hx hb dX9_keepPrimes_44 (by decide) (fun c14z => ?_) (fun c14z => ?_)
      · have h := xt h c14z
        obtain ⟨y15z, ey15z⟩ : ∃ z : Int32, z = v4 + (1 : Int32) := ⟨_, rfl⟩
        have h := xl_at h ey15z
        refine lv_iinc (v := y15z) (lv' := [(4, .int y15z), (5, .long r8z.1), (0, .ref q_Wh), (3, .int v3)]) hx hb dX9_keepPrimes_61 hl (k := 3) rfl (by rw [ey15z]; rfl) (by decide) rfl (fun ls hl => ?_)
        refine lv_goto (tgt := 19) hx hb dX9_keepPrimes_64 (by decide) ?_
        exact ih y15z r8z.2.1 r8z.2.2.1 wh_powers r8z.2.2.2 a_base a_power a_powerSum h _ _ hP hD hS _ (lv_sub hl [2, 3, 0] rfl)
      · have h := xf h c14z
        refine lv_aload_n hx hb dX9_keepPrimes_47 rfl (lv_at hl 1 rfl) ?_
        refine lv_lload hx hb dX9_keepPrimes_48 (lv_at hl 0 rfl) ?_
        refine lv_lconst (v := (1 : Int64)) hx hb dX9_keepPrimes_50 (by decide) ?_
        refine lv_lsub hx hb dX9_keepPrimes_51 ?_
        refine lv_lload hx hb dX9_keepPrimes_52 (lv_at hl 0 rfl) ?_
        refine lv_lconst (v := (1 : Int64)) hx hb dX9_keepPrimes_54 (by decide) ?_
        refine lv_lsub hx hb dX9_keepPrimes_55 ?_
        refine lv_lload hx hb dX9_keepPrimes_56 (lv_at hl 0 rfl) ?_
        obtain ⟨r16z, hr16z, h⟩ := xb_at h
        have hPc := hP.sub (ws' := (wd24 cyI cyJ cyZ q_Wh q_base q_power q_powerSum q_Sp q_Pr q_found wh_powers wh_many wh_told a_base a_power a_powerSum)) [2, 7, 8, 9] rfl
        have hDc := hD.sub (ws' := (wd24 cyI cyJ cyZ q_Wh q_base q_power q_powerSum q_Sp q_Pr q_found wh_powers wh_many wh_told a_base a_power a_powerSum)) [2, 7, 8, 9] (by decide) rfl
        refine cal_v [2, 7, 8, 9] [0, 1, 3, 4, 5, 6] (va_runV (As := [.long (r8z.1 - (1 : Int64)), .long (r8z.1 - (1 : Int64)), .long r8z.1]) (rest := []) ⟨hx, hb, hml, hown, hts⟩ (c_X9_keepPower l dC dI cyI cyJ cyZ N r16z H.size q_Wh q_base q_power q_powerSum q_Sp q_Pr q_found (r8z.1 - (1 : Int64)) (r8z.1 - (1 : Int64)) r8z.1 wh_powers wh_many wh_told a_base a_power a_powerSum hr16z) (cwV 3 hts gX9_keepPrimes_X9_keepPower rfl rfl rfl ⟨rfl, hd_X9_keepPower⟩ ⟨Nat.le_of_ble_eq_true rfl, Nat.le_of_ble_eq_true rfl⟩) ⟨pC.blind, va_recv hK hPc (ci := 9) (q0 := 0) rfl rfl, pC.pre hPc hG hDc⟩ rfl rfl hl.1 rfl (lv_room (Nat.le_of_ble_eq_true rfl)) dX9_keepPrimes_58 ⟨Nat.zero_le _, Nat.zero_le _⟩) hP hD hS hA rfl rfl rfl (by decide) (fun u17z H locs _ hP hD hS => ?_)
        have hP : va_P (dC, dI) vwCl (wd25 cyI cyJ cyZ q_Pr q_Sp q_Wh q_list q_prime q_times q_parts q_base q_power q_powerSum q_Sc q_found sp_unlike sp_number r8z.2.1 r8z.2.2.1 r16z.1 wh_many wh_told n_list a_list a_prime a_times r8z.2.2.2 r16z.2.1 r16z.2.2.1 r16z.2.2.2) H := hP.sub [0, 1, 6, 2, 3, 4, 5, 7, 8, 9] rfl
        have hD : va_D A (wd25 cyI cyJ cyZ q_Pr q_Sp q_Wh q_list q_prime q_times q_parts q_base q_power q_powerSum q_Sc q_found sp_unlike sp_number r8z.2.1 r8z.2.2.1 r16z.1 wh_many wh_told n_list a_list a_prime a_times r8z.2.2.2 r16z.2.1 r16z.2.2.1 r16z.2.2.2) := hD.sub [0, 1, 6, 2, 3, 4, 5, 7, 8, 9] (by decide) rfl
        obtain ⟨y19z, ey19z⟩ : ∃ z : Int32, z = v4 + (1 : Int32) := ⟨_, rfl⟩
        have h := xl_at h ey19z
        refine lv_iinc (v := y19z) (lv' := [(4, .int y19z), (5, .long r8z.1), (0, .ref q_Wh), (3, .int v3)]) hx hb dX9_keepPrimes_61 hl (k := 3) rfl (by rw [ey19z]; rfl) (by decide) rfl (fun ls hl => ?_)
        refine lv_goto (tgt := 19) hx hb dX9_keepPrimes_64 (by decide) ?_
        exact ih y19z r8z.2.1 r8z.2.2.1 r16z.1 r8z.2.2.2 r16z.2.1 r16z.2.2.1 r16z.2.2.2 h _ _ hP hD hS _ (lv_sub hl [2, 3, 0] rfl)
def f_X9_keepPrimes (N : Nat) (v1 : Int64) (sp_unlike : Int32) (sp_number : Int64) (sp_partsKept : Int32) (sp_partsNumber : Int64) (wh_powers : Int32) (n_list : Nat) (a_list : Nat → Int32) (a_prime : Nat → Int64) (a_times : Nat → Int32) (a_parts : Nat → Int64) (a_base : Nat → Int64) (a_power : Nat → Int64) (a_powerSum : Nat → Int64) : Option (Int32 × Int64 × Int32 × Int64 × Int32 × (Nat → Int64) × (Nat → Int32) × (Nat → Int64) × (Nat → Int64) × (Nat → Int64) × (Nat → Int64)) :=
  Option.bind (f_X6_splitUp N v1 sp_unlike sp_number n_list a_list a_prime a_times) fun r1z =>
  Option.bind (f_X6_howManyParts N  r1z.1 r1z.2.2.2) fun r4z =>
  l_X9_keepPrimes_19 N r4z r1z.1 r1z.2.1 n_list a_list r1z.2.2.1 r1z.2.2.2 N ((0 : Int32), sp_partsKept, sp_partsNumber, wh_powers, a_parts, a_base, a_power, a_powerSum)
set_option maxRecDepth 100000 in
set_option maxHeartbeats 4000000 in
theorem k_X9_keepPrimes_0 {p : Program} {l : Launch} {e : Env} {s : State} {m : MethodId} {args : Array Value} {below : List Frame} {meth : Method} {c : Code} {dC : Nat → ClassId} {dI : Nat → Nat → Nat} {cyI cyJ cyZ : ClassId} {A : Nat → Prop} (C0 : mC p s m meth c args cX9_keepPrimes none 7 RX9 wsX9_keepPrimes (gK dC dI cyI cyJ cyZ) A) (N : Nat) (res : Int32 × Int64 × Int32 × Int64 × Int32 × (Nat → Int64) × (Nat → Int32) × (Nat → Int64) × (Nat → Int64) × (Nat → Int64) × (Nat → Int64)) (q_Pr : Nat) (q_Sp : Nat) (q_Wh : Nat) (q_list : Nat) (q_prime : Nat) (q_times : Nat) (q_parts : Nat) (q_base : Nat) (q_power : Nat) (q_powerSum : Nat) (q_Sc : Nat) (q_found : Nat) (v1 : Int64) (sp_unlike : Int32) (sp_number : Int64) (sp_partsKept : Int32) (sp_partsNumber : Int64) (wh_powers : Int32) (wh_many : Int32) (wh_told : Int64) (n_list : Nat) (a_list : Nat → Int32) (a_prime : Nat → Int64) (a_times : Nat → Int32) (a_parts : Nat → Int64) (a_base : Nat → Int64) (a_power : Nat → Int64) (a_powerSum : Nat → Int64) (h : f_X9_keepPrimes N v1 sp_unlike sp_number sp_partsKept sp_partsNumber wh_powers n_list a_list a_prime a_times a_parts a_base a_power a_powerSum = some res) : ∀ (H : Heap) (locs : List Loc), va_P (dC, dI) vwCl (wd25 cyI cyJ cyZ q_Pr q_Sp q_Wh q_list q_prime q_times q_parts q_base q_power q_powerSum q_Sc q_found sp_unlike sp_number sp_partsKept sp_partsNumber wh_powers wh_many wh_told n_list a_list a_prime a_times a_parts a_base a_power a_powerSum) H → va_D A (wd25 cyI cyJ cyZ q_Pr q_Sp q_Wh q_list q_prime q_times q_parts q_base q_power q_powerSum q_Sc q_found sp_unlike sp_number sp_partsKept sp_partsNumber wh_powers wh_many wh_told n_list a_list a_prime a_times a_parts a_base a_power a_powerSum) → va_S A s.heap H locs → ∀ (ls : Array Slot), lv_has ls 7 [(0, .ref q_Wh), (1, .long v1)] → W p l e (headSpec wsX9_keepPrimes rm_X9_keepPrimes).room s m args below meth c H locs 0 0 (MQ below (va_Qv (fun (_ : Unit) => True) (bW dC dI (fun (u : Unit) => (wd25 cyI cyJ cyZ q_Pr q_Sp q_Wh q_list q_prime q_times q_parts q_base q_power q_powerSum q_Sc q_found res.1 res.2.1 res.2.2.1 res.2.2.2.1 res.2.2.2.2.1 wh_many wh_told n_list a_list res.2.2.2.2.2.1 res.2.2.2.2.2.2.1 res.2.2.2.2.2.2.2.1 res.2.2.2.2.2.2.2.2.1 res.2.2.2.2.2.2.2.2.2.1 res.2.2.2.2.2.2.2.2.2.2)) A) A) args s 0 0 A) (F0 m 0 ls []) := by
  obtain ⟨hx, hb, hr, hml, hown, hts, hlocks, hG, hA⟩ := id C0
  have hK := hG.1
  intro H locs hP hD hS ls hl
  unfold f_X9_keepPrimes at h
  refine lv_aload_n hx hb dX9_keepPrimes_0 rfl (lv_at hl 0 rfl) ?_
  refine va_get (D := (dC, dI)) (ci := 9) (v := .ref q_Sp) (C := RX9) (T := TX9) (N := 9) hx hb hts iw_X9_keepPrimes_X9 hown hK hP 2 rfl rfl 0 (by decide) (hts (.fieldLink RX9 35 "GoesInto$Whole" "split" "LGoesInto$Split;") (List.mem_of_getElem? (i := 1) rfl)) (fun _ h9 => h9) rfl dX9_keepPrimes_1 ?_
  refine lv_lload_n hx hb dX9_keepPrimes_4 rfl (lv_at hl 1 rfl) ?_
  obtain ⟨r1z, hr1z, h⟩ := xb_at h
  have hPc := hP.sub (ws' := (wd1 cyI cyJ cyZ q_Pr q_Sp q_list q_prime q_times q_Sc q_parts sp_unlike sp_number sp_partsKept sp_partsNumber n_list a_list a_prime a_times)) [0, 1, 3, 4, 5] rfl
  have hDc := hD.sub (ws' := (wd1 cyI cyJ cyZ q_Pr q_Sp q_list q_prime q_times q_Sc q_parts sp_unlike sp_number sp_partsKept sp_partsNumber n_list a_list a_prime a_times)) [0, 1, 3, 4, 5] (by decide) rfl
  refine cal_v [0, 1, 3, 4, 5] [2, 6, 7, 8, 9] (va_runV (As := [.long v1]) (rest := []) ⟨hx, hb, hml, hown, hts⟩ (c_X6_splitUp l dC dI cyI cyJ cyZ N r1z H.size q_Pr q_Sp q_list q_prime q_times q_Sc q_parts v1 sp_unlike sp_number sp_partsKept sp_partsNumber n_list a_list a_prime a_times hr1z) (cwV 1 hts gX9_keepPrimes_X6_splitUp rfl rfl rfl ⟨rfl, hd_X6_splitUp⟩ ⟨Nat.le_of_ble_eq_true rfl, Nat.le_of_ble_eq_true rfl⟩) ⟨pC.blind, va_recv hK hPc (ci := 6) (q0 := 1) rfl rfl, pC.pre hPc hG hDc⟩ rfl rfl hl.1 rfl (lv_room (Nat.le_of_ble_eq_true rfl)) dX9_keepPrimes_5 ⟨Nat.zero_le _, Nat.zero_le _⟩) hP hD hS hA rfl rfl rfl (by decide) (fun u2z H locs _ hP hD hS => ?_)
  have hP : va_P (dC, dI) vwCl (wd25 cyI cyJ cyZ q_Pr q_Sp q_Wh q_list q_prime q_times q_parts q_base q_power q_powerSum q_Sc q_found r1z.1 r1z.2.1 sp_partsKept sp_partsNumber wh_powers wh_many wh_told n_list a_list r1z.2.2.1 r1z.2.2.2 a_parts a_base a_power a_powerSum) H := hP.sub [5, 6, 0, 7, 8, 9, 1, 2, 3, 4] rfl
  have hD : va_D A (wd25 cyI cyJ cyZ q_Pr q_Sp q_Wh q_list q_prime q_times q_parts q_base q_power q_powerSum q_Sc q_found r1z.1 r1z.2.1 sp_partsKept sp_partsNumber wh_powers wh_many wh_told n_list a_list r1z.2.2.1 r1z.2.2.2 a_parts a_base a_power a_powerSum) := hD.sub [5, 6, 0, 7, 8, 9, 1, 2, 3, 4] (by decide) rfl
  refine lv_aload_n hx hb dX9_keepPrimes_8 rfl (lv_at hl 0 rfl) ?_
  refine va_get (D := (dC, dI)) (ci := 9) (v := .ref q_Sp) (C := RX9) (T := TX9) (N := 9) hx hb hts iw_X9_keepPrimes_X9 hown hK hP 2 rfl rfl 0 (by decide) (hts (.fieldLink RX9 35 "GoesInto$Whole" "split" "LGoesInto$Split;") (List.mem_of_getElem? (i := 1) rfl)) (fun _ h9 => h9) rfl dX9_keepPrimes_9 ?_
  obtain ⟨r4z, hr4z, h⟩ := xb_at h
  have hPc := hP.sub (ws' := (wd2 cyI cyJ cyZ q_Sp q_times q_Pr q_prime q_parts r1z.1 r1z.2.1 sp_partsKept sp_partsNumber r1z.2.2.2)) [1, 5] rfl
  have hDc := hD.sub (ws' := (wd2 cyI cyJ cyZ q_Sp q_times q_Pr q_prime q_parts r1z.1 r1z.2.1 sp_partsKept sp_partsNumber r1z.2.2.2)) [1, 5] (by decide) rfl
  refine cal_i [1, 5] [0, 2, 3, 4, 6, 7, 8, 9] (va_runV (As := []) (rest := []) ⟨hx, hb, hml, hown, hts⟩ (c_X6_howManyParts l dC dI cyI cyJ cyZ N r4z H.size q_Sp q_times q_Pr q_prime q_parts  r1z.1 r1z.2.1 sp_partsKept sp_partsNumber r1z.2.2.2 hr4z) (cwV 0 hts gX9_keepPrimes_X6_howManyParts rfl rfl rfl ⟨rfl, hd_X6_howManyParts⟩ ⟨Nat.le_of_ble_eq_true rfl, Nat.le_of_ble_eq_true rfl⟩) ⟨pC.blind, va_recv hK hPc (ci := 6) (q0 := 0) rfl rfl, pC.pre hPc hG hDc⟩ rfl rfl hl.1 rfl (lv_room (Nat.le_of_ble_eq_true rfl)) dX9_keepPrimes_12 ⟨Nat.zero_le _, Nat.zero_le _⟩) hP hD hS hA rfl rfl rfl (by decide) (fun x6z u5z H locs hw hP hD hS => ?_)
  obtain rfl := hw.symm
  have hP : va_P (dC, dI) vwCl (wd25 cyI cyJ cyZ q_Pr q_Sp q_Wh q_list q_prime q_times q_parts q_base q_power q_powerSum q_Sc q_found r1z.1 r1z.2.1 sp_partsKept sp_partsNumber wh_powers wh_many wh_told n_list a_list r1z.2.2.1 r1z.2.2.2 a_parts a_base a_power a_powerSum) H := hP.sub [0, 8, 1, 2, 3, 9, 4, 5, 6, 7] rfl
  have hD : va_D A (wd25 cyI cyJ cyZ q_Pr q_Sp q_Wh q_list q_prime q_times q_parts q_base q_power q_powerSum q_Sc q_found r1z.1 r1z.2.1 sp_partsKept sp_partsNumber wh_powers wh_many wh_told n_list a_list r1z.2.2.1 r1z.2.2.2 a_parts a_base a_power a_powerSum) := hD.sub [0, 8, 1, 2, 3, 9, 4, 5, 6, 7] (by decide) rfl
  refine lv_istore_n (lv' := [(3, .int r4z), (0, .ref q_Wh), (1, .long v1)]) hx hb dX9_keepPrimes_15 rfl hl (by decide) rfl (fun ls hl => ?_)
  refine lv_iconst (v := (0 : Int32)) hx hb dX9_keepPrimes_16 (by decide) ?_
  refine lv_istore (lv' := [(4, .int (0 : Int32)), (3, .int r4z), (0, .ref q_Wh), (1, .long v1)]) hx hb dX9_keepPrimes_17 hl (by decide) rfl (fun ls hl => ?_)
  exact k_X9_keepPrimes_19 C0 N res q_Pr q_Sp q_Wh q_list q_prime q_times q_parts q_base q_power q_powerSum q_Sc q_found r4z r1z.1 r1z.2.1 wh_many wh_told n_list a_list r1z.2.2.1 r1z.2.2.2 N (0 : Int32) sp_partsKept sp_partsNumber wh_powers a_parts a_base a_power a_powerSum h _ _ hP hD hS _ (lv_sub hl [2, 1, 0] rfl)
set_option maxRecDepth 100000 in
set_option maxHeartbeats 4000000 in
theorem c_X9_keepPrimes (l : Launch) (dC : Nat → ClassId) (dI : Nat → Nat → Nat) (cyI cyJ cyZ : ClassId) (N : Nat) (res : Int32 × Int64 × Int32 × Int64 × Int32 × (Nat → Int64) × (Nat → Int32) × (Nat → Int64) × (Nat → Int64) × (Nat → Int64) × (Nat → Int64)) (sz : Nat) (q_Pr : Nat) (q_Sp : Nat) (q_Wh : Nat) (q_list : Nat) (q_prime : Nat) (q_times : Nat) (q_parts : Nat) (q_base : Nat) (q_power : Nat) (q_powerSum : Nat) (q_Sc : Nat) (q_found : Nat) (v1 : Int64) (sp_unlike : Int32) (sp_number : Int64) (sp_partsKept : Int32) (sp_partsNumber : Int64) (wh_powers : Int32) (wh_many : Int32) (wh_told : Int64) (n_list : Nat) (a_list : Nat → Int32) (a_prime : Nat → Int64) (a_times : Nat → Int32) (a_parts : Nat → Int64) (a_base : Nat → Int64) (a_power : Nat → Int64) (a_powerSum : Nat → Int64) (h : f_X9_keepPrimes N v1 sp_unlike sp_number sp_partsKept sp_partsNumber wh_powers n_list a_list a_prime a_times a_parts a_base a_power a_powerSum = some res) : Met l yX9_keepPrimes wsX9_keepPrimes rm_X9_keepPrimes (pC dC dI cyI cyJ cyZ [.ref q_Wh, .long v1] sz (wd25 cyI cyJ cyZ q_Pr q_Sp q_Wh q_list q_prime q_times q_parts q_base q_power q_powerSum q_Sc q_found sp_unlike sp_number sp_partsKept sp_partsNumber wh_powers wh_many wh_told n_list a_list a_prime a_times a_parts a_base a_power a_powerSum)) (va_Qv (fun (_ : Unit) => True) (bW dC dI (fun (u : Unit) => (wd25 cyI cyJ cyZ q_Pr q_Sp q_Wh q_list q_prime q_times q_parts q_base q_power q_powerSum q_Sc q_found res.1 res.2.1 res.2.2.1 res.2.2.2.1 res.2.2.2.2.1 wh_many wh_told n_list a_list res.2.2.2.2.2.1 res.2.2.2.2.2.2.1 res.2.2.2.2.2.2.2.1 res.2.2.2.2.2.2.2.2.1 res.2.2.2.2.2.2.2.2.2.1 res.2.2.2.2.2.2.2.2.2.2)) (va_A (wd25 cyI cyJ cyZ q_Pr q_Sp q_Wh q_list q_prime q_times q_parts q_base q_power q_powerSum q_Sc q_found sp_unlike sp_number sp_partsKept sp_partsNumber wh_powers wh_many wh_told n_list a_list a_prime a_times a_parts a_base a_power a_powerSum) sz)) (va_A (wd25 cyI cyJ cyZ q_Pr q_Sp q_Wh q_list q_prime q_times q_parts q_base q_power q_powerSum q_Sc q_found sp_unlike sp_number sp_partsKept sp_partsNumber wh_powers wh_many wh_told n_list a_list a_prime a_times a_parts a_base a_power a_powerSum) sz)) 0 0 (va_A (wd25 cyI cyJ cyZ q_Pr q_Sp q_Wh q_list q_prime q_times q_parts q_base q_power q_powerSum q_Sc q_found sp_unlike sp_number sp_partsKept sp_partsNumber wh_powers wh_many wh_told n_list a_list a_prime a_times a_parts a_base a_power a_powerSum) sz) := by
  refine Met.ofW (cc := cX9_keepPrimes) (maxL := 7) (ret := none) (by decide) rfl ?_
  intro p e s m args below meth c s₁ B hml hv
  obtain ⟨rfl, hsz, hP, hG, hD0⟩ := hv
  have hx := B.exec
  have hb := B.bytes
  have hr := B.returns
  have hts := atoms_spec (ws := wsX9_keepPrimes) B.pre
  have hown : s.vm.findClass RX9 = some m.cls := findClass_of_methodNamed B.named
  have hlocks := B.notSynchronized
  subst hsz
  have hD := hD0.self (sz := s.heap.size)
  generalize hAe : va_A (wd25 cyI cyJ cyZ q_Pr q_Sp q_Wh q_list q_prime q_times q_parts q_base q_power q_powerSum q_Sc q_found sp_unlike sp_number sp_partsKept sp_partsNumber wh_powers wh_many wh_told n_list a_list a_prime a_times a_parts a_base a_power a_powerSum) s.heap.size = A at hD ⊢
  have hA : ∀ q : Nat, s.heap.size ≤ q → A q := fun q h => by rw [← hAe]; exact Or.inr h
  have hS : va_S A s.heap s.heap [] := va_S.rf
  have hl := lv_entry ([.ref q_Wh, .long v1]) (n := 7) (Nat.le_of_ble_eq_true rfl)
  rw [lg_entry_eq]
  generalize (lg_sl ([.ref q_Wh, .long v1]) ++ List.replicate (7 - (lg_sl ([.ref q_Wh, .long v1])).length) Slot.unset).toArray = ls at hl ⊢
  have hl : lv_has ls 7 [(0, .ref q_Wh), (1, .long v1)] := hl
  exact k_X9_keepPrimes_0 ⟨hx, hb, hr, hml, hown, hts, hlocks, hG, hA⟩ N res q_Pr q_Sp q_Wh q_list q_prime q_times q_parts q_base q_power q_powerSum q_Sc q_found v1 sp_unlike sp_number sp_partsKept sp_partsNumber wh_powers wh_many wh_told n_list a_list a_prime a_times a_parts a_base a_power a_powerSum  h _ _ hP hD hS _ hl
/-- the cells Pr, Wh, list, base, power, powerSum -/
abbrev wd26 (cyI cyJ cyZ : ClassId) (q_Pr : Nat) (q_Wh : Nat) (q_list : Nat) (q_base : Nat) (q_power : Nat) (q_powerSum : Nat) (q_Sc : Nat) (q_Sp : Nat) (q_found : Nat) (wh_powers : Int32) (wh_many : Int32) (wh_told : Int64) (n_list : Nat) (a_list : Nat → Int32) (a_base : Nat → Int64) (a_power : Nat → Int64) (a_powerSum : Nat → Int64) : va_W := [(q_Pr, .inr (3, [.ref q_Sc, .ref q_list])), (q_Wh, .inr (9, [.ref q_Sp, .ref q_Pr, .ref q_base, .ref q_power, .ref q_powerSum, .int wh_powers, .ref q_found, .int wh_many, .long wh_told])), (q_list, .inl (cyI, n_list, .inl a_list)), (q_base, .inl (cyJ, 400, .inr (.inl a_base))), (q_power, .inl (cyJ, 400, .inr (.inl a_power))), (q_powerSum, .inl (cyJ, 400, .inr (.inl a_powerSum)))]
abbrev rm_X9_keepPowers : Room := { frames := 1, cells := 0, slots := 0, locals := 28 }
theorem hd_X9_keepPowers : yX9_keepPowers.cls ≠ "java/lang/invoke/MethodHandle" ∧ yX9_keepPowers.cls ≠ "java/lang/invoke/VarHandle" ∧ (parseMethodDescriptor yX9_keepPowers.desc).map (fun d => d.parameters.length) = some 1 := by decide +kernel
theorem iw_X9_keepPowers_X3 : ∀ w ∈ wsX30, w ∈ wsX9_keepPowers := List.forall_mem_cons.mpr ⟨List.mem_of_getElem? (i := 21) rfl, List.forall_mem_cons.mpr ⟨List.mem_of_getElem? (i := 22) rfl, fun _ h => absurd h List.not_mem_nil⟩⟩
theorem iw_X9_keepPowers_X9 : ∀ w ∈ wsX90, w ∈ wsX9_keepPowers := List.forall_mem_cons.mpr ⟨List.mem_of_getElem? (i := 12) rfl, List.forall_mem_cons.mpr ⟨List.mem_of_getElem? (i := 13) rfl, List.forall_mem_cons.mpr ⟨List.mem_of_getElem? (i := 14) rfl, List.forall_mem_cons.mpr ⟨List.mem_of_getElem? (i := 15) rfl, List.forall_mem_cons.mpr ⟨List.mem_of_getElem? (i := 16) rfl, List.forall_mem_cons.mpr ⟨List.mem_of_getElem? (i := 17) rfl, List.forall_mem_cons.mpr ⟨List.mem_of_getElem? (i := 18) rfl, List.forall_mem_cons.mpr ⟨List.mem_of_getElem? (i := 19) rfl, List.forall_mem_cons.mpr ⟨List.mem_of_getElem? (i := 20) rfl, fun _ h => absurd h List.not_mem_nil⟩⟩⟩⟩⟩⟩⟩⟩⟩
def s_X9_keepPowers_60 (N : Nat) (k_11 : (Int32 × Int32 × (Nat → Int64) × (Nat → Int64) × (Nat → Int64)) → Option (Int32 × (Nat → Int64) × (Nat → Int64) × (Nat → Int64))) (v1 : Int64) (v4 : Int32) (v5 : Int64) (k_60 : (Int64 × Int64 × Int32 × Int32 × (Nat → Int64) × (Nat → Int64) × (Nat → Int64)) → Option (Int32 × (Nat → Int64) × (Nat → Int64) × (Nat → Int64))) (v7 : Int64) (v9 : Int64) (v11 : Int32) (wh_powers : Int32) (a_base : Nat → Int64) (a_power : Nat → Int64) (a_powerSum : Nat → Int64) : Option (Int32 × (Nat → Int64) × (Nat → Int64) × (Nat → Int64)) :=
  if (64 : Int32) ≤ v11 then
    xl (v4 + (1 : Int32)) fun y8z =>
    k_11 (y8z, wh_powers, a_base, a_power, a_powerSum)
  else
    if v1 ≤ v9 then
      xl (v4 + (1 : Int32)) fun y10z =>
      k_11 (y10z, wh_powers, a_base, a_power, a_powerSum)
    else
      xl (v7 * v5) fun y11z =>
      xl (v9 + y11z) fun y12z =>
      if y12z ≤ (1 : Int64) then
        xl (v11 + (1 : Int32)) fun y14z =>
        k_60 (y11z, y12z, y14z, wh_powers, a_base, a_power, a_powerSum)
      else
        if y12z = 0 then
          none
        else
          if (v1 - v1 / y12z * y12z) = (0 : Int64) then
            Option.bind (f_X9_keepPower N v5 y11z y12z wh_powers a_base a_power a_powerSum) fun r18z =>
            xl (v11 + (1 : Int32)) fun y21z =>
            k_60 (y11z, y12z, y21z, r18z.1, r18z.2.1, r18z.2.2.1, r18z.2.2.2)
          else
            xl (v11 + (1 : Int32)) fun y17z =>
            k_60 (y11z, y12z, y17z, wh_powers, a_base, a_power, a_powerSum)
def l_X9_keepPowers_60 (N : Nat) (k_11 : (Int32 × Int32 × (Nat → Int64) × (Nat → Int64) × (Nat → Int64)) → Option (Int32 × (Nat → Int64) × (Nat → Int64) × (Nat → Int64))) (v1 : Int64) (v4 : Int32) (v5 : Int64) (n : Nat) (z : Int64 × Int64 × Int32 × Int32 × (Nat → Int64) × (Nat → Int64) × (Nat → Int64)) : Option (Int32 × (Nat → Int64) × (Nat → Int64) × (Nat → Int64)) := lp (fun k z => s_X9_keepPowers_60 N k_11 v1 v4 v5 k z.1 z.2.1 z.2.2.1 z.2.2.2.1 z.2.2.2.2.1 z.2.2.2.2.2.1 z.2.2.2.2.2.2) n z
set_option maxRecDepth 100000 in
set_option maxHeartbeats 4000000 in
theorem k_X9_keepPowers_60 {p : Program} {l : Launch} {e : Env} {s : State} {m : MethodId} {args : Array Value} {below : List Frame} {meth : Method} {c : Code} {dC : Nat → ClassId} {dI : Nat → Nat → Nat} {cyI cyJ cyZ : ClassId} {A : Nat → Prop} (C0 : mC p s m meth c args cX9_keepPowers none 12 RX9 wsX9_keepPowers (gK dC dI cyI cyJ cyZ) A) (N : Nat) (res : Int32 × (Nat → Int64) × (Nat → Int64) × (Nat → Int64)) (q_Pr : Nat) (q_Wh : Nat) (q_list : Nat) (q_base : Nat) (q_power : Nat) (q_powerSum : Nat) (q_Sc : Nat) (q_Sp : Nat) (q_found : Nat) (v1 : Int64) (v5 : Int64) (wh_many : Int32) (wh_told : Int64) (n_list : Nat) (a_list : Nat → Int32) (k_11 : (Int32 × Int32 × (Nat → Int64) × (Nat → Int64) × (Nat → Int64)) → Option (Int32 × (Nat → Int64) × (Nat → Int64) × (Nat → Int64))) (hk_11 : ∀ (v4 : Int32) (wh_powers : Int32) (a_base : Nat → Int64) (a_power : Nat → Int64) (a_powerSum : Nat → Int64), k_11 (v4, wh_powers, a_base, a_power, a_powerSum) = some res → ∀ (H : Heap) (locs : List Loc), va_P (dC, dI) vwCl (wd26 cyI cyJ cyZ q_Pr q_Wh q_list q_base q_power q_powerSum q_Sc q_Sp q_found wh_powers wh_many wh_told n_list a_list a_base a_power a_powerSum) H → va_D A (wd26 cyI cyJ cyZ q_Pr q_Wh q_list q_base q_power q_powerSum q_Sc q_Sp q_found wh_powers wh_many wh_told n_list a_list a_base a_power a_powerSum) → va_S A s.heap H locs → ∀ (ls : Array Slot), lv_has ls 12 [(0, .ref q_Wh), (1, .long v1), (3, .ref q_list), (4, .int v4)] → W p l e (headSpec wsX9_keepPowers rm_X9_keepPowers).room s m args below meth c H locs 0 0 (MQ below (va_Qv (fun (_ : Unit) => True) (bW dC dI (fun (u : Unit) => (wd26 cyI cyJ cyZ q_Pr q_Wh q_list q_base q_power q_powerSum q_Sc q_Sp q_found res.1 wh_many wh_told n_list a_list res.2.1 res.2.2.1 res.2.2.2)) A) A) args s 0 0 A) (F0 m 11 ls [])) (v4 : Int32) : ∀ (n : Nat) (v7 : Int64) (v9 : Int64) (v11 : Int32) (wh_powers : Int32) (a_base : Nat → Int64) (a_power : Nat → Int64) (a_powerSum : Nat → Int64), l_X9_keepPowers_60 N k_11 v1 v4 v5 n (v7, v9, v11, wh_powers, a_base, a_power, a_powerSum) = some res → ∀ (H : Heap) (locs : List Loc), va_P (dC, dI) vwCl (wd26 cyI cyJ cyZ q_Pr q_Wh q_list q_base q_power q_powerSum q_Sc q_Sp q_found wh_powers wh_many wh_told n_list a_list a_base a_power a_powerSum) H → va_D A (wd26 cyI cyJ cyZ q_Pr q_Wh q_list q_base q_power q_powerSum q_Sc q_Sp q_found wh_powers wh_many wh_told n_list a_list a_base a_power a_powerSum) → va_S A s.heap H locs → ∀ (ls : Array Slot), lv_has ls 12 [(0, .ref q_Wh), (1, .long v1), (3, .ref q_list), (4, .int v4), (5, .long v5), (7, .long v7), (9, .long v9), (11, .int v11)] → W p l e (headSpec wsX9_keepPowers rm_X9_keepPowers).room s m args below meth c H locs 0 0 (MQ below (va_Qv (fun (_ : Unit) => True) (bW dC dI (fun (u : Unit) => (wd26 cyI cyJ cyZ q_Pr q_Wh q_list q_base q_power q_powerSum q_Sc q_Sp q_found res.1 wh_many wh_told n_list a_list res.2.1 res.2.2.1 res.2.2.2)) A) A) args s 0 0 A) (F0 m 60 ls []) := by
  obtain ⟨hx, hb, hr, hml, hown, hts, hlocks, hG, hA⟩ := id C0
  have hK := hG.1
  intro n
  induction n with
  | zero =>
    intro v7 v9 v11 wh_powers a_base a_power a_powerSum h
    cases h
  | succ n ih =>
    intro v7 v9 v11 wh_powers a_base a_power a_powerSum h H locs hP hD hS ls hl
    have h : s_X9_keepPowers_60 N k_11 v1 v4 v5 (l_X9_keepPowers_60 N k_11 v1 v4 v5 n) v7 v9 v11 wh_powers a_base a_power a_powerSum = some res := h
    unfold s_X9_keepPowers_60 at h
    refine lv_iload hx hb dX9_keepPowers_60 (lv_at hl 7 rfl) ?_
    refine lv_bipush (v := (64 : Int32)) hx hb dX9_keepPowers_62 (by decide) ?_
    refine lv_icmp_ge (tgt := 120) hx hb dX9_keepPowers_64 (by decide) (fun c7z => ?_) (fun c7z => ?_)
    · have h := xt h c7z
      obtain ⟨y8z, ey8z⟩ : ∃ z : Int32, z = v4 + (1 : Int32) := ⟨_, rfl⟩
      have h := xl_at h ey8z
      refine lv_iinc (v := y8z) (lv' := [(4, .int y8z), (0, .ref q_Wh), (1, .long v1), (3, .ref q_list), (5, .long v5), (7, .long v7), (9, .long v9), (11, .int v11)]) hx hb dX9_keepPowers_120 hl (k := 3) rfl (by rw [ey8z]; rfl) (by decide) rfl (fun ls hl => ?_)
      refine lv_goto (tgt := 11) hx hb dX9_keepPowers_123 (by decide) ?_
      exact hk_11 y8z wh_powers a_base a_power a_powerSum h _ _ hP hD hS _ (lv_sub hl [1, 2, 3, 0] rfl)
    · have h := xf h c7z
      refine lv_lload hx hb dX9_keepPowers_67 (lv_at hl 6 rfl) ?_
      refine lv_lload_n hx hb dX9_keepPowers_69 rfl (lv_at hl 1 rfl) ?_
      refine W.lcmp hx hb dX9_keepPowers_70 ?_
      refine lv_if_ge (tgt := 120) hx hb dX9_keepPowers_71 (by decide) (fun c9z => ?_) (fun c9z => ?_)
      · have c9z := (lg_cmp_ge _ _).mp c9z
        have h := xt h c9z
        obtain ⟨y10z, ey10z⟩ : ∃ z : Int32, z = v4 + (1 : Int32) := ⟨_, rfl⟩
        have h := xl_at h ey10z
        refine lv_iinc (v := y10z) (lv' := [(4, .int y10z), (0, .ref q_Wh), (1, .long v1), (3, .ref q_list), (5, .long v5), (7, .long v7), (9, .long v9), (11, .int v11)]) hx hb dX9_keepPowers_120 hl (k := 3) rfl (by rw [ey10z]; rfl) (by decide) rfl (fun ls hl => ?_)
        refine lv_goto (tgt := 11) hx hb dX9_keepPowers_123 (by decide) ?_
        exact hk_11 y10z wh_powers a_base a_power a_powerSum h _ _ hP hD hS _ (lv_sub hl [1, 2, 3, 0] rfl)
      · have c9z := fun z => c9z ((lg_cmp_ge _ _).mpr z)
        have h := xf h c9z
        refine lv_lload hx hb dX9_keepPowers_74 (lv_at hl 5 rfl) ?_
        refine lv_lload hx hb dX9_keepPowers_76 (lv_at hl 4 rfl) ?_
        refine lv_lmul hx hb dX9_keepPowers_78 ?_
        refine lv_topl (fun y11z ey11z => ?_)
        have h := xl_at h ey11z
        refine lv_lstore (lv' := [(7, .long y11z), (0, .ref q_Wh), (1, .long v1), (3, .ref q_list), (4, .int v4), (5, .long v5), (9, .long v9), (11, .int v11)]) hx hb dX9_keepPowers_79 hl (by decide) rfl (fun ls hl => ?_)
        refine lv_lload hx hb dX9_keepPowers_81 (lv_at hl 6 rfl) ?_
        refine lv_lload hx hb dX9_keepPowers_83 (lv_at hl 0 rfl) ?_
        refine lv_ladd hx hb dX9_keepPowers_85 ?_
        refine lv_topl (fun y12z ey12z => ?_)
        have h := xl_at h ey12z
        refine lv_lstore (lv' := [(9, .long y12z), (7, .long y11z), (0, .ref q_Wh), (1, .long v1), (3, .ref q_list), (4, .int v4), (5, .long v5), (11, .int v11)]) hx hb dX9_keepPowers_86 hl (by decide) rfl (fun ls hl => ?_)
        refine lv_lload hx hb dX9_keepPowers_88 (lv_at hl 0 rfl) ?_
        refine lv_lconst (v := (1 : Int64)) hx hb dX9_keepPowers_90 (by decide) ?_
        refine W.lcmp hx hb dX9_keepPowers_91 ?_
        refine lv_if_le (tgt := 114) hx hb dX9_keepPowers_92 (by decide) (fun c13z => ?_) (fun c13z => ?_)
        · have c13z := (lg_cmp_le _ _).mp c13z
          have h := xt h c13z
          obtain ⟨y14z, ey14z⟩ : ∃ z : Int32, z = v11 + (1 : Int32) := ⟨_, rfl⟩
          have h := xl_at h ey14z
          refine lv_iinc (v := y14z) (lv' := [(11, .int y14z), (9, .long y12z), (7, .long y11z), (0, .ref q_Wh), (1, .long v1), (3, .ref q_list), (4, .int v4), (5, .long v5)]) hx hb dX9_keepPowers_114 hl (k := 7) rfl (by rw [ey14z]; rfl) (by decide) rfl (fun ls hl => ?_)
          refine lv_goto (tgt := 60) hx hb dX9_keepPowers_117 (by decide) ?_
          exact ih y11z y12z y14z wh_powers a_base a_power a_powerSum h _ _ hP hD hS _ (lv_sub hl [3, 4, 5, 6, 7, 2, 1, 0] rfl)
        · have c13z := fun z => c13z ((lg_cmp_le _ _).mpr z)
          have h := xf h c13z
          refine lv_lload_n hx hb dX9_keepPowers_95 rfl (lv_at hl 3 rfl) ?_
          refine lv_lload hx hb dX9_keepPowers_96 (lv_at hl 0 rfl) ?_
          obtain ⟨b15z, h⟩ := xn h
          refine lv_lrem hx hb dX9_keepPowers_98 b15z ?_
          refine lv_lconst (v := (0 : Int64)) hx hb dX9_keepPowers_99 (by decide) ?_
          refine W.lcmp hx hb dX9_keepPowers_100 ?_
          refine lv_if_ne (tgt := 114) hx hb dX9_keepPowers_101 (by decide) (fun c16z => ?_) (fun c16z => ?_)
          · have c16z := fun z => c16z ((lg_cmp_eq _ _).mpr z)
            have h := xf h c16z
            obtain ⟨y17z, ey17z⟩ : ∃ z : Int32, z = v11 + (1 : Int32) := ⟨_, rfl⟩
            have h := xl_at h ey17z
            refine lv_iinc (v := y17z) (lv' := [(11, .int y17z), (9, .long y12z), (7, .long y11z), (0, .ref q_Wh), (1, .long v1), (3, .ref q_list), (4, .int v4), (5, .long v5)]) hx hb dX9_keepPowers_114 hl (k := 7) rfl (by rw [ey17z]; rfl) (by decide) rfl (fun ls hl => ?_)
            refine lv_goto (tgt := 60) hx hb dX9_keepPowers_117 (by decide) ?_
            exact ih y11z y12z y17z wh_powers a_base a_power a_powerSum h _ _ hP hD hS _ (lv_sub hl [3, 4, 5, 6, 7, 2, 1, 0] rfl)
          · have c16z := (lg_cmp_eq _ _).mp c16z
            have h := xt h c16z
            refine lv_aload_n hx hb dX9_keepPowers_104 rfl (lv_at hl 2 rfl) ?_
            refine lv_lload hx hb dX9_keepPowers_105 (lv_at hl 6 rfl) ?_
            refine lv_lload hx hb dX9_keepPowers_107 (lv_at hl 1 rfl) ?_
            refine lv_lload hx hb dX9_keepPowers_109 (lv_at hl 0 rfl) ?_
            obtain ⟨r18z, hr18z, h⟩ := xb_at h
            have hPc := hP.sub (ws' := (wd24 cyI cyJ cyZ q_Wh q_base q_power q_powerSum q_Sp q_Pr q_found wh_powers wh_many wh_told a_base a_power a_powerSum)) [1, 3, 4, 5] rfl
            have hDc := hD.sub (ws' := (wd24 cyI cyJ cyZ q_Wh q_base q_power q_powerSum q_Sp q_Pr q_found wh_powers wh_many wh_told a_base a_power a_powerSum)) [1, 3, 4, 5] (by decide) rfl
            refine cal_v [1, 3, 4, 5] [0, 2] (va_runV (As := [.long v5, .long y11z, .long y12z]) (rest := []) ⟨hx, hb, hml, hown, hts⟩ (c_X9_keepPower l dC dI cyI cyJ cyZ N r18z H.size q_Wh q_base q_power q_powerSum q_Sp q_Pr q_found v5 y11z y12z wh_powers wh_many wh_told a_base a_power a_powerSum hr18z) (cwV 3 hts gX9_keepPowers_X9_keepPower rfl rfl rfl ⟨rfl, hd_X9_keepPower⟩ ⟨Nat.le_of_ble_eq_true rfl, Nat.le_of_ble_eq_true rfl⟩) ⟨pC.blind, va_recv hK hPc (ci := 9) (q0 := 0) rfl rfl, pC.pre hPc hG hDc⟩ rfl rfl hl.1 rfl (lv_room (Nat.le_of_ble_eq_true rfl)) dX9_keepPowers_111 ⟨Nat.zero_le _, Nat.zero_le _⟩) hP hD hS hA rfl rfl rfl (by decide) (fun u19z H locs _ hP hD hS => ?_)
            have hP : va_P (dC, dI) vwCl (wd26 cyI cyJ cyZ q_Pr q_Wh q_list q_base q_power q_powerSum q_Sc q_Sp q_found r18z.1 wh_many wh_told n_list a_list r18z.2.1 r18z.2.2.1 r18z.2.2.2) H := hP.sub [0, 2, 1, 3, 4, 5] rfl
            have hD : va_D A (wd26 cyI cyJ cyZ q_Pr q_Wh q_list q_base q_power q_powerSum q_Sc q_Sp q_found r18z.1 wh_many wh_told n_list a_list r18z.2.1 r18z.2.2.1 r18z.2.2.2) := hD.sub [0, 2, 1, 3, 4, 5] (by decide) rfl
            obtain ⟨y21z, ey21z⟩ : ∃ z : Int32, z = v11 + (1 : Int32) := ⟨_, rfl⟩
            have h := xl_at h ey21z
            refine lv_iinc (v := y21z) (lv' := [(11, .int y21z), (9, .long y12z), (7, .long y11z), (0, .ref q_Wh), (1, .long v1), (3, .ref q_list), (4, .int v4), (5, .long v5)]) hx hb dX9_keepPowers_114 hl (k := 7) rfl (by rw [ey21z]; rfl) (by decide) rfl (fun ls hl => ?_)
            refine lv_goto (tgt := 60) hx hb dX9_keepPowers_117 (by decide) ?_
            exact ih y11z y12z y21z r18z.1 r18z.2.1 r18z.2.2.1 r18z.2.2.2 h _ _ hP hD hS _ (lv_sub hl [3, 4, 5, 6, 7, 2, 1, 0] rfl)
def s_X9_keepPowers_11 (N : Nat) (v1 : Int64) (n_list : Nat) (a_list : Nat → Int32) (k_11 : (Int32 × Int32 × (Nat → Int64) × (Nat → Int64) × (Nat → Int64)) → Option (Int32 × (Nat → Int64) × (Nat → Int64) × (Nat → Int64))) (v4 : Int32) (wh_powers : Int32) (a_base : Nat → Int64) (a_power : Nat → Int64) (a_powerSum : Nat → Int64) : Option (Int32 × (Nat → Int64) × (Nat → Int64) × (Nat → Int64)) :=
  if (nI n_list) ≤ v4 then
    some (wh_powers, a_base, a_power, a_powerSum)
  else
    if v4 < 0 ∨ n_list ≤ v4.toNatClampNeg then
      none
    else
      xl ((a_list v4.toNatClampNeg).toInt64) fun y3z =>
      if y3z < (2 : Int64) then
        some (wh_powers, a_base, a_power, a_powerSum)
      else
        if (y3z * y3z) < v1 then
          xl ((1 : Int64) + y3z) fun y6z =>
          l_X9_keepPowers_60 N k_11 v1 v4 y3z N (y3z, y6z, (2 : Int32), wh_powers, a_base, a_power, a_powerSum)
        else
          some (wh_powers, a_base, a_power, a_powerSum)
def l_X9_keepPowers_11 (N : Nat) (v1 : Int64) (n_list : Nat) (a_list : Nat → Int32) (n : Nat) (z : Int32 × Int32 × (Nat → Int64) × (Nat → Int64) × (Nat → Int64)) : Option (Int32 × (Nat → Int64) × (Nat → Int64) × (Nat → Int64)) := lp (fun k z => s_X9_keepPowers_11 N v1 n_list a_list k z.1 z.2.1 z.2.2.1 z.2.2.2.1 z.2.2.2.2) n z
set_option maxRecDepth 100000 in
set_option maxHeartbeats 4000000 in
theorem k_X9_keepPowers_11 {p : Program} {l : Launch} {e : Env} {s : State} {m : MethodId} {args : Array Value} {below : List Frame} {meth : Method} {c : Code} {dC : Nat → ClassId} {dI : Nat → Nat → Nat} {cyI cyJ cyZ : ClassId} {A : Nat → Prop} (C0 : mC p s m meth c args cX9_keepPowers none 12 RX9 wsX9_keepPowers (gK dC dI cyI cyJ cyZ) A) (N : Nat) (res : Int32 × (Nat → Int64) × (Nat → Int64) × (Nat → Int64)) (q_Pr : Nat) (q_Wh : Nat) (q_list : Nat) (q_base : Nat) (q_power : Nat) (q_powerSum : Nat) (q_Sc : Nat) (q_Sp : Nat) (q_found : Nat) (v1 : Int64) (wh_many : Int32) (wh_told : Int64) (n_list : Nat) (a_list : Nat → Int32) : ∀ (n : Nat) (v4 : Int32) (wh_powers : Int32) (a_base : Nat → Int64) (a_power : Nat → Int64) (a_powerSum : Nat → Int64), l_X9_keepPowers_11 N v1 n_list a_list n (v4, wh_powers, a_base, a_power, a_powerSum) = some res → ∀ (H : Heap) (locs : List Loc), va_P (dC, dI) vwCl (wd26 cyI cyJ cyZ q_Pr q_Wh q_list q_base q_power q_powerSum q_Sc q_Sp q_found wh_powers wh_many wh_told n_list a_list a_base a_power a_powerSum) H → va_D A (wd26 cyI cyJ cyZ q_Pr q_Wh q_list q_base q_power q_powerSum q_Sc q_Sp q_found wh_powers wh_many wh_told n_list a_list a_base a_power a_powerSum) → va_S A s.heap H locs → ∀ (ls : Array Slot), lv_has ls 12 [(0, .ref q_Wh), (1, .long v1), (3, .ref q_list), (4, .int v4)] → W p l e (headSpec wsX9_keepPowers rm_X9_keepPowers).room s m args below meth c H locs 0 0 (MQ below (va_Qv (fun (_ : Unit) => True) (bW dC dI (fun (u : Unit) => (wd26 cyI cyJ cyZ q_Pr q_Wh q_list q_base q_power q_powerSum q_Sc q_Sp q_found res.1 wh_many wh_told n_list a_list res.2.1 res.2.2.1 res.2.2.2)) A) A) args s 0 0 A) (F0 m 11 ls []) := by
  obtain ⟨hx, hb, hr, hml, hown, hts, hlocks, hG, hA⟩ := id C0
  have hK := hG.1
  intro n
  induction n with
  | zero =>
    intro v4 wh_powers a_base a_power a_powerSum h
    cases h
  | succ n ih =>
    intro v4 wh_powers a_base a_power a_powerSum h H locs hP hD hS ls hl
    have h : s_X9_keepPowers_11 N v1 n_list a_list (l_X9_keepPowers_11 N v1 n_list a_list n) v4 wh_powers a_base a_power a_powerSum = some res := h
    unfold s_X9_keepPowers_11 at h
    refine lv_iload hx hb dX9_keepPowers_11 (lv_at hl 3 rfl) ?_
    refine lv_aload_n hx hb dX9_keepPowers_13 rfl (lv_at hl 2 rfl) ?_
    refine va_alen (v := nI n_list) hx hb hK hP 2 0 rfl rfl rfl dX9_keepPowers_14 ?_
    refine lv_icmp_ge (tgt := 126) hx hb dX9_keepPowers_15 (by decide) (fun c1z => ?_) (fun c1z => ?_)
    · have h := xt h c1z
      obtain rfl := Option.some.inj h
      exact W.vret hx hb hr (fun t ht hW => ⟨⟨(), rfl, trivial, by rw [ht]; exact hP, hD⟩, hS.F ht⟩) hS.2.2 dX9_keepPowers_126 hlocks
    · have h := xf h c1z
      refine lv_aload_n hx hb dX9_keepPowers_18 rfl (lv_at hl 2 rfl) ?_
      refine lv_iload hx hb dX9_keepPowers_19 (lv_at hl 3 rfl) ?_
      obtain ⟨b2z, h⟩ := xn h
      refine va_iald hx hb hK hP 2 0 rfl rfl b2z dX9_keepPowers_21 ?_
      refine lv_i2l (v := (a_list v4.toNatClampNeg).toInt64) hx hb dX9_keepPowers_22 rfl ?_
      refine lv_topl (fun y3z ey3z => ?_)
      have h := xl_at h ey3z
      refine lv_lstore (lv' := [(5, .long y3z), (0, .ref q_Wh), (1, .long v1), (3, .ref q_list), (4, .int v4)]) hx hb dX9_keepPowers_23 hl (by decide) rfl (fun ls hl => ?_)
      refine lv_lload hx hb dX9_keepPowers_25 (lv_at hl 0 rfl) ?_
      refine lv_ldc2 (v := (2 : Int64)) hx hb hown (hts (.constantLong RX9 88 (2)) (List.mem_of_getElem? (i := 2) rfl)) dX9_keepPowers_27 ?_
      refine W.lcmp hx hb dX9_keepPowers_30 ?_
      refine lv_if_lt (tgt := 126) hx hb dX9_keepPowers_31 (by decide) (fun c4z => ?_) (fun c4z => ?_)
      · have c4z := (lg_cmp_lt _ _).mp c4z
        have h := xt h c4z
        obtain rfl := Option.some.inj h
        exact W.vret hx hb hr (fun t ht hW => ⟨⟨(), rfl, trivial, by rw [ht]; exact hP, hD⟩, hS.F ht⟩) hS.2.2 dX9_keepPowers_126 hlocks
      · have c4z := fun z => c4z ((lg_cmp_lt _ _).mpr z)
        have h := xf h c4z
        refine lv_lload hx hb dX9_keepPowers_34 (lv_at hl 0 rfl) ?_
        refine lv_lload hx hb dX9_keepPowers_36 (lv_at hl 0 rfl) ?_
        refine lv_lmul hx hb dX9_keepPowers_38 ?_
        refine lv_lload_n hx hb dX9_keepPowers_39 rfl (lv_at hl 2 rfl) ?_
        refine W.lcmp hx hb dX9_keepPowers_40 ?_
        refine lv_if_lt (tgt := 47) hx hb dX9_keepPowers_41 (by decide) (fun c5z => ?_) (fun c5z => ?_)
        · have c5z := (lg_cmp_lt _ _).mp c5z
          have h := xt h c5z
          refine lv_lload hx hb dX9_keepPowers_47 (lv_at hl 0 rfl) ?_
          refine lv_lstore (lv' := [(7, .long y3z), (5, .long y3z), (0, .ref q_Wh), (1, .long v1), (3, .ref q_list), (4, .int v4)]) hx hb dX9_keepPowers_49 hl (by decide) rfl (fun ls hl => ?_)
          refine lv_lconst (v := (1 : Int64)) hx hb dX9_keepPowers_51 (by decide) ?_
          refine lv_lload hx hb dX9_keepPowers_52 (lv_at hl 1 rfl) ?_
          refine lv_ladd hx hb dX9_keepPowers_54 ?_
          refine lv_topl (fun y6z ey6z => ?_)
          have h := xl_at h ey6z
          refine lv_lstore (lv' := [(9, .long y6z), (7, .long y3z), (5, .long y3z), (0, .ref q_Wh), (1, .long v1), (3, .ref q_list), (4, .int v4)]) hx hb dX9_keepPowers_55 hl (by decide) rfl (fun ls hl => ?_)
          refine lv_iconst (v := (2 : Int32)) hx hb dX9_keepPowers_57 (by decide) ?_
          refine lv_istore (lv' := [(11, .int (2 : Int32)), (9, .long y6z), (7, .long y3z), (5, .long y3z), (0, .ref q_Wh), (1, .long v1), (3, .ref q_list), (4, .int v4)]) hx hb dX9_keepPowers_58 hl (by decide) rfl (fun ls hl => ?_)
          exact k_X9_keepPowers_60 C0 N res q_Pr q_Wh q_list q_base q_power q_powerSum q_Sc q_Sp q_found v1 y3z wh_many wh_told n_list a_list _ ih v4 N y3z y6z (2 : Int32) wh_powers a_base a_power a_powerSum h _ _ hP hD hS _ (lv_sub hl [4, 5, 6, 7, 3, 2, 1, 0] rfl)
        · have c5z := fun z => c5z ((lg_cmp_lt _ _).mpr z)
          have h := xf h c5z
          refine lv_goto (tgt := 126) hx hb dX9_keepPowers_44 (by decide) ?_
          obtain rfl := Option.some.inj h
          exact W.vret hx hb hr (fun t ht hW => ⟨⟨(), rfl, trivial, by rw [ht]; exact hP, hD⟩, hS.F ht⟩) hS.2.2 dX9_keepPowers_126 hlocks
def f_X9_keepPowers (N : Nat) (v1 : Int64) (wh_powers : Int32) (n_list : Nat) (a_list : Nat → Int32) (a_base : Nat → Int64) (a_power : Nat → Int64) (a_powerSum : Nat → Int64) : Option (Int32 × (Nat → Int64) × (Nat → Int64) × (Nat → Int64)) :=
  l_X9_keepPowers_11 N v1 n_list a_list N ((0 : Int32), wh_powers, a_base, a_power, a_powerSum)
set_option maxRecDepth 100000 in
set_option maxHeartbeats 4000000 in
theorem k_X9_keepPowers_0 {p : Program} {l : Launch} {e : Env} {s : State} {m : MethodId} {args : Array Value} {below : List Frame} {meth : Method} {c : Code} {dC : Nat → ClassId} {dI : Nat → Nat → Nat} {cyI cyJ cyZ : ClassId} {A : Nat → Prop} (C0 : mC p s m meth c args cX9_keepPowers none 12 RX9 wsX9_keepPowers (gK dC dI cyI cyJ cyZ) A) (N : Nat) (res : Int32 × (Nat → Int64) × (Nat → Int64) × (Nat → Int64)) (q_Pr : Nat) (q_Wh : Nat) (q_list : Nat) (q_base : Nat) (q_power : Nat) (q_powerSum : Nat) (q_Sc : Nat) (q_Sp : Nat) (q_found : Nat) (v1 : Int64) (wh_powers : Int32) (wh_many : Int32) (wh_told : Int64) (n_list : Nat) (a_list : Nat → Int32) (a_base : Nat → Int64) (a_power : Nat → Int64) (a_powerSum : Nat → Int64) (h : f_X9_keepPowers N v1 wh_powers n_list a_list a_base a_power a_powerSum = some res) : ∀ (H : Heap) (locs : List Loc), va_P (dC, dI) vwCl (wd26 cyI cyJ cyZ q_Pr q_Wh q_list q_base q_power q_powerSum q_Sc q_Sp q_found wh_powers wh_many wh_told n_list a_list a_base a_power a_powerSum) H → va_D A (wd26 cyI cyJ cyZ q_Pr q_Wh q_list q_base q_power q_powerSum q_Sc q_Sp q_found wh_powers wh_many wh_told n_list a_list a_base a_power a_powerSum) → va_S A s.heap H locs → ∀ (ls : Array Slot), lv_has ls 12 [(0, .ref q_Wh), (1, .long v1)] → W p l e (headSpec wsX9_keepPowers rm_X9_keepPowers).room s m args below meth c H locs 0 0 (MQ below (va_Qv (fun (_ : Unit) => True) (bW dC dI (fun (u : Unit) => (wd26 cyI cyJ cyZ q_Pr q_Wh q_list q_base q_power q_powerSum q_Sc q_Sp q_found res.1 wh_many wh_told n_list a_list res.2.1 res.2.2.1 res.2.2.2)) A) A) args s 0 0 A) (F0 m 0 ls []) := by
  obtain ⟨hx, hb, hr, hml, hown, hts, hlocks, hG, hA⟩ := id C0
  have hK := hG.1
  intro H locs hP hD hS ls hl
  unfold f_X9_keepPowers at h
  refine lv_aload_n hx hb dX9_keepPowers_0 rfl (lv_at hl 0 rfl) ?_
  refine va_get (D := (dC, dI)) (ci := 9) (v := .ref q_Pr) (C := RX9) (T := TX9) (N := 9) hx hb hts iw_X9_keepPowers_X9 hown hK hP 1 rfl rfl 1 (by decide) (hts (.fieldLink RX9 39 "GoesInto$Whole" "primes" "LGoesInto$Primes;") (List.mem_of_getElem? (i := 1) rfl)) (fun _ h9 => h9) rfl dX9_keepPowers_1 ?_
  refine va_getN (D := (dC, dI)) (ci := 3) (v := .ref q_list) (C := RX3) (T := TX3) (N := 2) (host := "GoesInto") hx hb hts iw_X9_keepPowers_X3 hown hK hP 0 rfl rfl 1 (by decide) (va_Nw.use rfl hG.2.2.2.2.2.2.2.2.2.2.2.1) (fun _ h9 => h9) rfl dX9_keepPowers_4 ?_
  refine lv_astore_n (lv' := [(3, .ref q_list), (0, .ref q_Wh), (1, .long v1)]) hx hb dX9_keepPowers_7 rfl hl (by decide) rfl (fun ls hl => ?_)
  refine lv_iconst (v := (0 : Int32)) hx hb dX9_keepPowers_8 (by decide) ?_
  refine lv_istore (lv' := [(4, .int (0 : Int32)), (3, .ref q_list), (0, .ref q_Wh), (1, .long v1)]) hx hb dX9_keepPowers_9 hl (by decide) rfl (fun ls hl => ?_)
  exact k_X9_keepPowers_11 C0 N res q_Pr q_Wh q_list q_base q_power q_powerSum q_Sc q_Sp q_found v1 wh_many wh_told n_list a_list N (0 : Int32) wh_powers a_base a_power a_powerSum h _ _ hP hD hS _ (lv_sub hl [2, 3, 1, 0] rfl)
set_option maxRecDepth 100000 in
set_option maxHeartbeats 4000000 in
theorem c_X9_keepPowers (l : Launch) (dC : Nat → ClassId) (dI : Nat → Nat → Nat) (cyI cyJ cyZ : ClassId) (N : Nat) (res : Int32 × (Nat → Int64) × (Nat → Int64) × (Nat → Int64)) (sz : Nat) (q_Pr : Nat) (q_Wh : Nat) (q_list : Nat) (q_base : Nat) (q_power : Nat) (q_powerSum : Nat) (q_Sc : Nat) (q_Sp : Nat) (q_found : Nat) (v1 : Int64) (wh_powers : Int32) (wh_many : Int32) (wh_told : Int64) (n_list : Nat) (a_list : Nat → Int32) (a_base : Nat → Int64) (a_power : Nat → Int64) (a_powerSum : Nat → Int64) (h : f_X9_keepPowers N v1 wh_powers n_list a_list a_base a_power a_powerSum = some res) : Met l yX9_keepPowers wsX9_keepPowers rm_X9_keepPowers (pC dC dI cyI cyJ cyZ [.ref q_Wh, .long v1] sz (wd26 cyI cyJ cyZ q_Pr q_Wh q_list q_base q_power q_powerSum q_Sc q_Sp q_found wh_powers wh_many wh_told n_list a_list a_base a_power a_powerSum)) (va_Qv (fun (_ : Unit) => True) (bW dC dI (fun (u : Unit) => (wd26 cyI cyJ cyZ q_Pr q_Wh q_list q_base q_power q_powerSum q_Sc q_Sp q_found res.1 wh_many wh_told n_list a_list res.2.1 res.2.2.1 res.2.2.2)) (va_A (wd26 cyI cyJ cyZ q_Pr q_Wh q_list q_base q_power q_powerSum q_Sc q_Sp q_found wh_powers wh_many wh_told n_list a_list a_base a_power a_powerSum) sz)) (va_A (wd26 cyI cyJ cyZ q_Pr q_Wh q_list q_base q_power q_powerSum q_Sc q_Sp q_found wh_powers wh_many wh_told n_list a_list a_base a_power a_powerSum) sz)) 0 0 (va_A (wd26 cyI cyJ cyZ q_Pr q_Wh q_list q_base q_power q_powerSum q_Sc q_Sp q_found wh_powers wh_many wh_told n_list a_list a_base a_power a_powerSum) sz) := by
  refine Met.ofW (cc := cX9_keepPowers) (maxL := 12) (ret := none) (by decide) rfl ?_
  intro p e s m args below meth c s₁ B hml hv
  obtain ⟨rfl, hsz, hP, hG, hD0⟩ := hv
  have hx := B.exec
  have hb := B.bytes
  have hr := B.returns
  have hts := atoms_spec (ws := wsX9_keepPowers) B.pre
  have hown : s.vm.findClass RX9 = some m.cls := findClass_of_methodNamed B.named
  have hlocks := B.notSynchronized
  subst hsz
  have hD := hD0.self (sz := s.heap.size)
  generalize hAe : va_A (wd26 cyI cyJ cyZ q_Pr q_Wh q_list q_base q_power q_powerSum q_Sc q_Sp q_found wh_powers wh_many wh_told n_list a_list a_base a_power a_powerSum) s.heap.size = A at hD ⊢
  have hA : ∀ q : Nat, s.heap.size ≤ q → A q := fun q h => by rw [← hAe]; exact Or.inr h
  have hS : va_S A s.heap s.heap [] := va_S.rf
  have hl := lv_entry ([.ref q_Wh, .long v1]) (n := 12) (Nat.le_of_ble_eq_true rfl)
  rw [lg_entry_eq]
  generalize (lg_sl ([.ref q_Wh, .long v1]) ++ List.replicate (12 - (lg_sl ([.ref q_Wh, .long v1])).length) Slot.unset).toArray = ls at hl ⊢
  have hl : lv_has ls 12 [(0, .ref q_Wh), (1, .long v1)] := hl
  exact k_X9_keepPowers_0 ⟨hx, hb, hr, hml, hown, hts, hlocks, hG, hA⟩ N res q_Pr q_Wh q_list q_base q_power q_powerSum q_Sc q_Sp q_found v1 wh_powers wh_many wh_told n_list a_list a_base a_power a_powerSum  h _ _ hP hD hS _ hl
abbrev rm_X9_keepFound : Room := { frames := 0, cells := 0, slots := 0, locals := 0 }
theorem hd_X9_keepFound : yX9_keepFound.cls ≠ "java/lang/invoke/MethodHandle" ∧ yX9_keepFound.cls ≠ "java/lang/invoke/VarHandle" ∧ (parseMethodDescriptor yX9_keepFound.desc).map (fun d => d.parameters.length) = some 1 := by decide +kernel
theorem iw_X9_keepFound_X9 : ∀ w ∈ wsX90, w ∈ wsX9_keepFound := List.forall_mem_cons.mpr ⟨List.mem_of_getElem? (i := 3) rfl, List.forall_mem_cons.mpr ⟨List.mem_of_getElem? (i := 4) rfl, List.forall_mem_cons.mpr ⟨List.mem_of_getElem? (i := 5) rfl, List.forall_mem_cons.mpr ⟨List.mem_of_getElem? (i := 6) rfl, List.forall_mem_cons.mpr ⟨List.mem_of_getElem? (i := 7) rfl, List.forall_mem_cons.mpr ⟨List.mem_of_getElem? (i := 8) rfl, List.forall_mem_cons.mpr ⟨List.mem_of_getElem? (i := 9) rfl, List.forall_mem_cons.mpr ⟨List.mem_of_getElem? (i := 10) rfl, List.forall_mem_cons.mpr ⟨List.mem_of_getElem? (i := 11) rfl, fun _ h => absurd h List.not_mem_nil⟩⟩⟩⟩⟩⟩⟩⟩⟩
def f_X9_keepFound (N : Nat) (v1 : Int64) (wh_many : Int32) (a_found : Nat → Int64) : Option (Int32 × (Nat → Int64)) :=
  if (640 : Int32) ≤ wh_many then
    some (wh_many, a_found)
  else
    if wh_many < 0 ∨ 640 ≤ wh_many.toNatClampNeg then
      none
    else
      xl (wh_many + (1 : Int32)) fun y3z =>
      some (y3z, vp_updL a_found wh_many.toNatClampNeg v1)
set_option maxRecDepth 100000 in
set_option maxHeartbeats 4000000 in
theorem k_X9_keepFound_0 {p : Program} {l : Launch} {e : Env} {s : State} {m : MethodId} {args : Array Value} {below : List Frame} {meth : Method} {c : Code} {dC : Nat → ClassId} {dI : Nat → Nat → Nat} {cyI cyJ cyZ : ClassId} {A : Nat → Prop} (C0 : mC p s m meth c args cX9_keepFound none 3 RX9 wsX9_keepFound (gK dC dI cyI cyJ cyZ) A) (N : Nat) (res : Int32 × (Nat → Int64)) (q_Wh : Nat) (q_found : Nat) (q_Sp : Nat) (q_Pr : Nat) (q_base : Nat) (q_power : Nat) (q_powerSum : Nat) (v1 : Int64) (wh_powers : Int32) (wh_many : Int32) (wh_told : Int64) (a_found : Nat → Int64) (h : f_X9_keepFound N v1 wh_many a_found = some res) : ∀ (H : Heap) (locs : List Loc), va_P (dC, dI) vwCl (wd22 cyI cyJ cyZ q_Wh q_found q_Sp q_Pr q_base q_power q_powerSum wh_powers wh_many wh_told a_found) H → va_D A (wd22 cyI cyJ cyZ q_Wh q_found q_Sp q_Pr q_base q_power q_powerSum wh_powers wh_many wh_told a_found) → va_S A s.heap H locs → ∀ (ls : Array Slot), lv_has ls 3 [(0, .ref q_Wh), (1, .long v1)] → W p l e (headSpec wsX9_keepFound rm_X9_keepFound).room s m args below meth c H locs 0 0 (MQ below (va_Qv (fun (_ : Unit) => True) (bW dC dI (fun (u : Unit) => (wd22 cyI cyJ cyZ q_Wh q_found q_Sp q_Pr q_base q_power q_powerSum wh_powers res.1 wh_told res.2)) A) A) args s 0 0 A) (F0 m 0 ls []) := by
  obtain ⟨hx, hb, hr, hml, hown, hts, hlocks, hG, hA⟩ := id C0
  have hK := hG.1
  intro H locs hP hD hS ls hl
  unfold f_X9_keepFound at h
  refine lv_aload_n hx hb dX9_keepFound_0 rfl (lv_at hl 0 rfl) ?_
  refine va_get (D := (dC, dI)) (ci := 9) (v := .int wh_many) (C := RX9) (T := TX9) (N := 9) hx hb hts iw_X9_keepFound_X9 hown hK hP 0 rfl rfl 7 (by decide) (hts (.fieldLink RX9 28 "GoesInto$Whole" "many" "I") (List.mem_of_getElem? (i := 1) rfl)) (fun _ h9 => h9) rfl dX9_keepFound_1 ?_
  refine lv_sipush (v := (640 : Int32)) hx hb dX9_keepFound_4 (by decide) ?_
  refine lv_icmp_ge (tgt := 30) hx hb dX9_keepFound_7 (by decide) (fun c1z => ?_) (fun c1z => ?_)
  · have h := xt h c1z
    obtain rfl := Option.some.inj h
    exact W.vret hx hb hr (fun t ht hW => ⟨⟨(), rfl, trivial, by rw [ht]; exact hP, hD⟩, hS.F ht⟩) hS.2.2 dX9_keepFound_30 hlocks
  · have h := xf h c1z
    refine lv_aload_n hx hb dX9_keepFound_10 rfl (lv_at hl 0 rfl) ?_
    refine va_get (D := (dC, dI)) (ci := 9) (v := .ref q_found) (C := RX9) (T := TX9) (N := 9) hx hb hts iw_X9_keepFound_X9 hown hK hP 0 rfl rfl 6 (by decide) (hts (.fieldLink RX9 25 "GoesInto$Whole" "found" "[J") (List.mem_of_getElem? (i := 2) rfl)) (fun _ h9 => h9) rfl dX9_keepFound_11 ?_
    refine lv_aload_n hx hb dX9_keepFound_14 rfl (lv_at hl 0 rfl) ?_
    refine va_get (D := (dC, dI)) (ci := 9) (v := .int wh_many) (C := RX9) (T := TX9) (N := 9) hx hb hts iw_X9_keepFound_X9 hown hK hP 0 rfl rfl 7 (by decide) (hts (.fieldLink RX9 28 "GoesInto$Whole" "many" "I") (List.mem_of_getElem? (i := 1) rfl)) (fun _ h9 => h9) rfl dX9_keepFound_15 ?_
    refine lv_lload_n hx hb dX9_keepFound_18 rfl (lv_at hl 1 rfl) ?_
    obtain ⟨b2z, h⟩ := xn h
    refine va_last hx hb hK hP hD hS 1 1 rfl rfl b2z dX9_keepFound_19 (fun H locs hP hD hS => ?_)
    have hP : va_P (dC, dI) vwCl (wd22 cyI cyJ cyZ q_Wh q_found q_Sp q_Pr q_base q_power q_powerSum wh_powers wh_many wh_told (vp_updL a_found wh_many.toNatClampNeg v1)) H := hP
    have hD : va_D A (wd22 cyI cyJ cyZ q_Wh q_found q_Sp q_Pr q_base q_power q_powerSum wh_powers wh_many wh_told (vp_updL a_found wh_many.toNatClampNeg v1)) := hD
    refine lv_aload_n hx hb dX9_keepFound_20 rfl (lv_at hl 0 rfl) ?_
    refine lv_dup hx hb dX9_keepFound_21 rfl ?_
    refine va_get (D := (dC, dI)) (ci := 9) (v := .int wh_many) (C := RX9) (T := TX9) (N := 9) hx hb hts iw_X9_keepFound_X9 hown hK hP 0 rfl rfl 7 (by decide) (hts (.fieldLink RX9 28 "GoesInto$Whole" "many" "I") (List.mem_of_getElem? (i := 1) rfl)) (fun _ h9 => h9) rfl dX9_keepFound_22 ?_
    refine lv_iconst (v := (1 : Int32)) hx hb dX9_keepFound_25 (by decide) ?_
    refine lv_iadd hx hb dX9_keepFound_26 ?_
    refine lv_topi (fun y3z ey3z => ?_)
    have h := xl_at h ey3z
    refine va_put (D := (dC, dI)) (ci := 9) (v := .int y3z) (ty := .int) (C := RX9) (T := TX9) (N := 9) hx hb hts iw_X9_keepFound_X9 tyX9 tyX9_ok nmX9 hown hK hP hD hS 0 rfl rfl 7 (by decide) (hts (.fieldLink RX9 28 "GoesInto$Whole" "many" "I") (List.mem_of_getElem? (i := 1) rfl)) (fun _ h9 => h9) rfl (tyX9_ok 7 (by decide)) rfl rfl (Nat.le_of_ble_eq_true rfl) dX9_keepFound_27 (fun H locs hP hD hS => ?_)
    have hP : va_P (dC, dI) vwCl (wd22 cyI cyJ cyZ q_Wh q_found q_Sp q_Pr q_base q_power q_powerSum wh_powers y3z wh_told (vp_updL a_found wh_many.toNatClampNeg v1)) H := hP
    have hD : va_D A (wd22 cyI cyJ cyZ q_Wh q_found q_Sp q_Pr q_base q_power q_powerSum wh_powers y3z wh_told (vp_updL a_found wh_many.toNatClampNeg v1)) := hD
    obtain rfl := Option.some.inj h
    exact W.vret hx hb hr (fun t ht hW => ⟨⟨(), rfl, trivial, by rw [ht]; exact hP, hD⟩, hS.F ht⟩) hS.2.2 dX9_keepFound_30 hlocks
set_option maxRecDepth 100000 in
set_option maxHeartbeats 4000000 in
theorem c_X9_keepFound (l : Launch) (dC : Nat → ClassId) (dI : Nat → Nat → Nat) (cyI cyJ cyZ : ClassId) (N : Nat) (res : Int32 × (Nat → Int64)) (sz : Nat) (q_Wh : Nat) (q_found : Nat) (q_Sp : Nat) (q_Pr : Nat) (q_base : Nat) (q_power : Nat) (q_powerSum : Nat) (v1 : Int64) (wh_powers : Int32) (wh_many : Int32) (wh_told : Int64) (a_found : Nat → Int64) (h : f_X9_keepFound N v1 wh_many a_found = some res) : Met l yX9_keepFound wsX9_keepFound rm_X9_keepFound (pC dC dI cyI cyJ cyZ [.ref q_Wh, .long v1] sz (wd22 cyI cyJ cyZ q_Wh q_found q_Sp q_Pr q_base q_power q_powerSum wh_powers wh_many wh_told a_found)) (va_Qv (fun (_ : Unit) => True) (bW dC dI (fun (u : Unit) => (wd22 cyI cyJ cyZ q_Wh q_found q_Sp q_Pr q_base q_power q_powerSum wh_powers res.1 wh_told res.2)) (va_A (wd22 cyI cyJ cyZ q_Wh q_found q_Sp q_Pr q_base q_power q_powerSum wh_powers wh_many wh_told a_found) sz)) (va_A (wd22 cyI cyJ cyZ q_Wh q_found q_Sp q_Pr q_base q_power q_powerSum wh_powers wh_many wh_told a_found) sz)) 0 0 (va_A (wd22 cyI cyJ cyZ q_Wh q_found q_Sp q_Pr q_base q_power q_powerSum wh_powers wh_many wh_told a_found) sz) := by
  refine Met.ofW (cc := cX9_keepFound) (maxL := 3) (ret := none) (by decide) rfl ?_
  intro p e s m args below meth c s₁ B hml hv
  obtain ⟨rfl, hsz, hP, hG, hD0⟩ := hv
  have hx := B.exec
  have hb := B.bytes
  have hr := B.returns
  have hts := atoms_spec (ws := wsX9_keepFound) B.pre
  have hown : s.vm.findClass RX9 = some m.cls := findClass_of_methodNamed B.named
  have hlocks := B.notSynchronized
  subst hsz
  have hD := hD0.self (sz := s.heap.size)
  generalize hAe : va_A (wd22 cyI cyJ cyZ q_Wh q_found q_Sp q_Pr q_base q_power q_powerSum wh_powers wh_many wh_told a_found) s.heap.size = A at hD ⊢
  have hA : ∀ q : Nat, s.heap.size ≤ q → A q := fun q h => by rw [← hAe]; exact Or.inr h
  have hS : va_S A s.heap s.heap [] := va_S.rf
  have hl := lv_entry ([.ref q_Wh, .long v1]) (n := 3) (Nat.le_of_ble_eq_true rfl)
  rw [lg_entry_eq]
  generalize (lg_sl ([.ref q_Wh, .long v1]) ++ List.replicate (3 - (lg_sl ([.ref q_Wh, .long v1])).length) Slot.unset).toArray = ls at hl ⊢
  have hl : lv_has ls 3 [(0, .ref q_Wh), (1, .long v1)] := hl
  exact k_X9_keepFound_0 ⟨hx, hb, hr, hml, hown, hts, hlocks, hG, hA⟩ N res q_Wh q_found q_Sp q_Pr q_base q_power q_powerSum v1 wh_powers wh_many wh_told a_found  h _ _ hP hD hS _ hl
/-- the cells Wh, base, power, powerSum, found -/
abbrev wd27 (cyI cyJ cyZ : ClassId) (q_Wh : Nat) (q_base : Nat) (q_power : Nat) (q_powerSum : Nat) (q_found : Nat) (q_Sp : Nat) (q_Pr : Nat) (wh_powers : Int32) (wh_many : Int32) (wh_told : Int64) (a_base : Nat → Int64) (a_power : Nat → Int64) (a_powerSum : Nat → Int64) (a_found : Nat → Int64) : va_W := [(q_Wh, .inr (9, [.ref q_Sp, .ref q_Pr, .ref q_base, .ref q_power, .ref q_powerSum, .int wh_powers, .ref q_found, .int wh_many, .long wh_told])), (q_base, .inl (cyJ, 400, .inr (.inl a_base))), (q_power, .inl (cyJ, 400, .inr (.inl a_power))), (q_powerSum, .inl (cyJ, 400, .inr (.inl a_powerSum))), (q_found, .inl (cyJ, 640, .inr (.inl a_found)))]
abbrev rm_X9_join (D : Nat) : Room := { frames := D + 1, cells := 0, slots := 0, locals := 30 * D + 90 }
theorem hd_X9_join : yX9_join.cls ≠ "java/lang/invoke/MethodHandle" ∧ yX9_join.cls ≠ "java/lang/invoke/VarHandle" ∧ (parseMethodDescriptor yX9_join.desc).map (fun d => d.parameters.length) = some 4 := by decide +kernel
theorem iw_X9_join_X9 : ∀ w ∈ wsX90, w ∈ wsX9_join := List.forall_mem_cons.mpr ⟨List.mem_of_getElem? (i := 16) rfl, List.forall_mem_cons.mpr ⟨List.mem_of_getElem? (i := 17) rfl, List.forall_mem_cons.mpr ⟨List.mem_of_getElem? (i := 18) rfl, List.forall_mem_cons.mpr ⟨List.mem_of_getElem? (i := 19) rfl, List.forall_mem_cons.mpr ⟨List.mem_of_getElem? (i := 20) rfl, List.forall_mem_cons.mpr ⟨List.mem_of_getElem? (i := 21) rfl, List.forall_mem_cons.mpr ⟨List.mem_of_getElem? (i := 22) rfl, List.forall_mem_cons.mpr ⟨List.mem_of_getElem? (i := 23) rfl, List.forall_mem_cons.mpr ⟨List.mem_of_getElem? (i := 24) rfl, fun _ h => absurd h List.not_mem_nil⟩⟩⟩⟩⟩⟩⟩⟩⟩
def j_X9_join_86 (N : Nat) (self : Int64 → Int64 → Int32 → Int32 → (Int32) → (Int32) → (Nat → Int64) → (Nat → Int64) → (Nat → Int64) → (Nat → Int64) → Option (Int32 × (Nat → Int64))) (k_12 : (Int32 × Int32 × (Nat → Int64)) → Option (Int32 × (Nat → Int64))) (v1 : Int64) (v3 : Int64) (v6 : Int32) (v7 : Int32) (v8 : Int64) (v10 : Int32) (wh_powers : Int32) (wh_many : Int32) (a_base : Nat → Int64) (a_power : Nat → Int64) (a_powerSum : Nat → Int64) (a_found : Nat → Int64) : Option (Int32 × (Nat → Int64)) :=
  if v8 = 0 then
    none
  else
    if (v1 - v1 / v8 * v8) = (0 : Int64) then
      if v7 < 0 ∨ 400 ≤ v7.toNatClampNeg then
        none
      else
        if (a_base v7.toNatClampNeg) < (2 : Int64) then
          xl (v7 + (1 : Int32)) fun y15z =>
          k_12 (y15z, wh_many, a_found)
        else
          xl (a_base v7.toNatClampNeg) fun y16z =>
          if y16z = 0 then
            none
          else
            if (v3 - v3 / y16z * y16z) = (0 : Int64) then
              xl (v7 + (1 : Int32)) fun y28z =>
              k_12 (y28z, wh_many, a_found)
            else
              if v10 = 0 then
                Option.bind (self (v1 / v8) (v3 * (a_power v7.toNatClampNeg)) (v7 + (1 : Int32)) (v6 + (1 : Int32)) wh_powers wh_many a_base a_power a_powerSum a_found) fun r20z =>
                xl (v7 + (1 : Int32)) fun y23z =>
                k_12 (y23z, r20z.1, r20z.2)
              else
                Option.bind (f_X9_keepFound N (v3 * (a_power v7.toNatClampNeg)) wh_many a_found) fun r24z =>
                xl (v7 + (1 : Int32)) fun y27z =>
                k_12 (y27z, r24z.1, r24z.2)
    else
      xl (v7 + (1 : Int32)) fun y12z =>
      k_12 (y12z, wh_many, a_found)
set_option maxRecDepth 100000 in
set_option maxHeartbeats 4000000 in
theorem k_X9_join_86 {p : Program} {l : Launch} {e : Env} {s : State} {m : MethodId} {args : Array Value} {below : List Frame} {meth : Method} {c : Code} {dC : Nat → ClassId} {dI : Nat → Nat → Nat} {cyI cyJ cyZ : ClassId} {A : Nat → Prop} (C0 : mC p s m meth c args cX9_join none 11 RX9 wsX9_join (gK dC dI cyI cyJ cyZ) A) (N : Nat) (D : Nat) (self : Int64 → Int64 → Int32 → Int32 → (Int32) → (Int32) → (Nat → Int64) → (Nat → Int64) → (Nat → Int64) → (Nat → Int64) → Option (Int32 × (Nat → Int64))) (hself : ∀ (res : Int32 × (Nat → Int64)) (sz : Nat) (q_Wh : Nat) (q_base : Nat) (q_power : Nat) (q_powerSum : Nat) (q_found : Nat) (q_Sp : Nat) (q_Pr : Nat) (v1 : Int64) (v3 : Int64) (v5 : Int32) (v6 : Int32) (wh_powers : Int32) (wh_many : Int32) (wh_told : Int64) (a_base : Nat → Int64) (a_power : Nat → Int64) (a_powerSum : Nat → Int64) (a_found : Nat → Int64), self v1 v3 v5 v6 wh_powers wh_many a_base a_power a_powerSum a_found = some res → Met l yX9_join wsX9_join (rm_X9_join D) (pC dC dI cyI cyJ cyZ [.ref q_Wh, .long v1, .long v3, .int v5, .int v6] sz (wd27 cyI cyJ cyZ q_Wh q_base q_power q_powerSum q_found q_Sp q_Pr wh_powers wh_many wh_told a_base a_power a_powerSum a_found)) (va_Qv (fun (_ : Unit) => True) (bW dC dI (fun (u : Unit) => (wd27 cyI cyJ cyZ q_Wh q_base q_power q_powerSum q_found q_Sp q_Pr wh_powers res.1 wh_told a_base a_power a_powerSum res.2)) (va_A (wd27 cyI cyJ cyZ q_Wh q_base q_power q_powerSum q_found q_Sp q_Pr wh_powers wh_many wh_told a_base a_power a_powerSum a_found) sz)) (va_A (wd27 cyI cyJ cyZ q_Wh q_base q_power q_powerSum q_found q_Sp q_Pr wh_powers wh_many wh_told a_base a_power a_powerSum a_found) sz)) 0 0 (va_A (wd27 cyI cyJ cyZ q_Wh q_base q_power q_powerSum q_found q_Sp q_Pr wh_powers wh_many wh_told a_base a_power a_powerSum a_found) sz)) (res : Int32 × (Nat → Int64)) (q_Wh : Nat) (q_base : Nat) (q_power : Nat) (q_powerSum : Nat) (q_found : Nat) (q_Sp : Nat) (q_Pr : Nat) (v1 : Int64) (v3 : Int64) (v6 : Int32) (v8 : Int64) (v10 : Int32) (wh_powers : Int32) (wh_told : Int64) (a_base : Nat → Int64) (a_power : Nat → Int64) (a_powerSum : Nat → Int64) (k_12 : (Int32 × Int32 × (Nat → Int64)) → Option (Int32 × (Nat → Int64))) (hk_12 : ∀ (v7 : Int32) (wh_many : Int32) (a_found : Nat → Int64), k_12 (v7, wh_many, a_found) = some res → ∀ (H : Heap) (locs : List Loc), va_P (dC, dI) vwCl (wd27 cyI cyJ cyZ q_Wh q_base q_power q_powerSum q_found q_Sp q_Pr wh_powers wh_many wh_told a_base a_power a_powerSum a_found) H → va_D A (wd27 cyI cyJ cyZ q_Wh q_base q_power q_powerSum q_found q_Sp q_Pr wh_powers wh_many wh_told a_base a_power a_powerSum a_found) → va_S A s.heap H locs → ∀ (ls : Array Slot), lv_has ls 11 [(0, .ref q_Wh), (1, .long v1), (3, .long v3), (6, .int v6), (7, .int v7)] → W p l e (headSpec wsX9_join (rm_X9_join (D + 1))).room s m args below meth c H locs 0 0 (MQ below (va_Qv (fun (_ : Unit) => True) (bW dC dI (fun (u : Unit) => (wd27 cyI cyJ cyZ q_Wh q_base q_power q_powerSum q_found q_Sp q_Pr wh_powers res.1 wh_told a_base a_power a_powerSum res.2)) A) A) args s 0 0 A) (F0 m 12 ls [])) (v7 : Int32) (wh_many : Int32) (a_found : Nat → Int64) (h : j_X9_join_86 N self k_12 v1 v3 v6 v7 v8 v10 wh_powers wh_many a_base a_power a_powerSum a_found = some res) : ∀ (H : Heap) (locs : List Loc), va_P (dC, dI) vwCl (wd27 cyI cyJ cyZ q_Wh q_base q_power q_powerSum q_found q_Sp q_Pr wh_powers wh_many wh_told a_base a_power a_powerSum a_found) H → va_D A (wd27 cyI cyJ cyZ q_Wh q_base q_power q_powerSum q_found q_Sp q_Pr wh_powers wh_many wh_told a_base a_power a_powerSum a_found) → va_S A s.heap H locs → ∀ (ls : Array Slot), lv_has ls 11 [(0, .ref q_Wh), (1, .long v1), (3, .long v3), (6, .int v6), (7, .int v7), (8, .long v8), (10, .int v10)] → W p l e (headSpec wsX9_join (rm_X9_join (D + 1))).room s m args below meth c H locs 0 0 (MQ below (va_Qv (fun (_ : Unit) => True) (bW dC dI (fun (u : Unit) => (wd27 cyI cyJ cyZ q_Wh q_base q_power q_powerSum q_found q_Sp q_Pr wh_powers res.1 wh_told a_base a_power a_powerSum res.2)) A) A) args s 0 0 A) (F0 m 86 ls []) := by
  obtain ⟨hx, hb, hr, hml, hown, hts, hlocks, hG, hA⟩ := id C0
  have hK := hG.1
  intro H locs hP hD hS ls hl
  unfold j_X9_join_86 at h
  refine lv_lload_n hx hb dX9_join_86 rfl (lv_at hl 1 rfl) ?_
  refine lv_lload hx hb dX9_join_87 (lv_at hl 5 rfl) ?_
  obtain ⟨b10z, h⟩ := xn h
  refine lv_lrem hx hb dX9_join_89 b10z ?_
  refine lv_lconst (v := (0 : Int64)) hx hb dX9_join_90 (by decide) ?_
  refine W.lcmp hx hb dX9_join_91 ?_
  refine lv_if_ne (tgt := 172) hx hb dX9_join_92 (by decide) (fun c11z => ?_) (fun c11z => ?_)
  · have c11z := fun z => c11z ((lg_cmp_eq _ _).mpr z)
    have h := xf h c11z
    obtain ⟨y12z, ey12z⟩ : ∃ z : Int32, z = v7 + (1 : Int32) := ⟨_, rfl⟩
    have h := xl_at h ey12z
    refine lv_iinc (v := y12z) (lv' := [(7, .int y12z), (0, .ref q_Wh), (1, .long v1), (3, .long v3), (6, .int v6), (8, .long v8), (10, .int v10)]) hx hb dX9_join_172 hl (k := 4) rfl (by rw [ey12z]; rfl) (by decide) rfl (fun ls hl => ?_)
    refine lv_goto (tgt := 12) hx hb dX9_join_175 (by decide) ?_
    exact hk_12 y12z wh_many a_found h _ _ hP hD hS _ (lv_sub hl [1, 2, 3, 4, 0] rfl)
  · have c11z := (lg_cmp_eq _ _).mp c11z
    have h := xt h c11z
    refine lv_aload_n hx hb dX9_join_95 rfl (lv_at hl 0 rfl) ?_
    refine va_get (D := (dC, dI)) (ci := 9) (v := .ref q_base) (C := RX9) (T := TX9) (N := 9) hx hb hts iw_X9_join_X9 hown hK hP 0 rfl rfl 2 (by decide) (hts (.fieldLink RX9 11 "GoesInto$Whole" "base" "[J") (List.mem_of_getElem? (i := 4) rfl)) (fun _ h9 => h9) rfl dX9_join_96 ?_
    refine lv_iload hx hb dX9_join_99 (lv_at hl 4 rfl) ?_
    obtain ⟨b13z, h⟩ := xn h
    refine va_lald hx hb hK hP 1 1 rfl rfl b13z dX9_join_101 ?_
    refine lv_ldc2 (v := (2 : Int64)) hx hb hown (hts (.constantLong RX9 88 (2)) (List.mem_of_getElem? (i := 3) rfl)) dX9_join_102 ?_
    refine W.lcmp hx hb dX9_join_105 ?_
    refine lv_if_lt (tgt := 172) hx hb dX9_join_106 (by decide) (fun c14z => ?_) (fun c14z => ?_)
    · have c14z := (lg_cmp_lt _ _).mp c14z
      have h := xt h c14z
      obtain ⟨y15z, ey15z⟩ : ∃ z : Int32, z = v7 + (1 : Int32) := ⟨_, rfl⟩
      have h := xl_at h ey15z
      refine lv_iinc (v := y15z) (lv' := [(7, .int y15z), (0, .ref q_Wh), (1, .long v1), (3, .long v3), (6, .int v6), (8, .long v8), (10, .int v10)]) hx hb dX9_join_172 hl (k := 4) rfl (by rw [ey15z]; rfl) (by decide) rfl (fun ls hl => ?_)
      refine lv_goto (tgt := 12) hx hb dX9_join_175 (by decide) ?_
      exact hk_12 y15z wh_many a_found h _ _ hP hD hS _ (lv_sub hl [1, 2, 3, 4, 0] rfl)
    · have c14z := fun z => c14z ((lg_cmp_lt _ _).mpr z)
      have h := xf h c14z
      refine lv_lload_n hx hb dX9_join_109 rfl (lv_at hl 2 rfl) ?_
      refine lv_aload_n hx hb dX9_join_110 rfl (lv_at hl 0 rfl) ?_
      refine va_get (D := (dC, dI)) (ci := 9) (v := .ref q_base) (C := RX9) (T := TX9) (N := 9) hx hb hts iw_X9_join_X9 hown hK hP 0 rfl rfl 2 (by decide) (hts (.fieldLink RX9 11 "GoesInto$Whole" "base" "[J") (List.mem_of_getElem? (i := 4) rfl)) (fun _ h9 => h9) rfl dX9_join_111 ?_
      refine lv_iload hx hb dX9_join_114 (lv_at hl 4 rfl) ?_
      refine va_lald hx hb hK hP 1 1 rfl rfl b13z dX9_join_116 ?_
      refine lv_topl (fun y16z ey16z => ?_)
      have h := xl_at h ey16z
      obtain ⟨b17z, h⟩ := xn h
      refine lv_lrem hx hb dX9_join_117 b17z ?_
      refine lv_lconst (v := (0 : Int64)) hx hb dX9_join_118 (by decide) ?_
      refine W.lcmp hx hb dX9_join_119 ?_
      refine lv_if_ne (tgt := 126) hx hb dX9_join_120 (by decide) (fun c18z => ?_) (fun c18z => ?_)
      · have c18z := fun z => c18z ((lg_cmp_eq _ _).mpr z)
        have h := xf h c18z
        refine lv_iload hx hb dX9_join_126 (lv_at hl 6 rfl) ?_
        refine lv_if_eq (tgt := 147) hx hb dX9_join_128 (by decide) (fun c19z => ?_) (fun c19z => ?_)
        · have h := xt h c19z
          refine lv_aload_n hx hb dX9_join_147 rfl (lv_at hl 0 rfl) ?_
          refine lv_lload_n hx hb dX9_join_148 rfl (lv_at hl 1 rfl) ?_
          refine lv_lload hx hb dX9_join_149 (lv_at hl 5 rfl) ?_
          refine lv_ldiv hx hb dX9_join_151 b10z ?_
          refine lv_lload_n hx hb dX9_join_152 rfl (lv_at hl 2 rfl) ?_
          refine lv_aload_n hx hb dX9_join_153 rfl (lv_at hl 0 rfl) ?_
          refine va_get (D := (dC, dI)) (ci := 9) (v := .ref q_power) (C := RX9) (T := TX9) (N := 9) hx hb hts iw_X9_join_X9 hown hK hP 0 rfl rfl 3 (by decide) (hts (.fieldLink RX9 15 "GoesInto$Whole" "power" "[J") (List.mem_of_getElem? (i := 5) rfl)) (fun _ h9 => h9) rfl dX9_join_154 ?_
          refine lv_iload hx hb dX9_join_157 (lv_at hl 4 rfl) ?_
          refine va_lald hx hb hK hP 2 1 rfl rfl b13z dX9_join_159 ?_
          refine lv_lmul hx hb dX9_join_160 ?_
          refine lv_iload hx hb dX9_join_161 (lv_at hl 4 rfl) ?_
          refine lv_iconst (v := (1 : Int32)) hx hb dX9_join_163 (by decide) ?_
          refine lv_iadd hx hb dX9_join_164 ?_
          refine lv_iload hx hb dX9_join_165 (lv_at hl 3 rfl) ?_
          refine lv_iconst (v := (1 : Int32)) hx hb dX9_join_167 (by decide) ?_
          refine lv_iadd hx hb dX9_join_168 ?_
          obtain ⟨r20z, hr20z, h⟩ := xb_at h
          have hPc := hP.sub (ws' := (wd27 cyI cyJ cyZ q_Wh q_base q_power q_powerSum q_found q_Sp q_Pr wh_powers wh_many wh_told a_base a_power a_powerSum a_found)) [0, 1, 2, 3, 4] rfl
          have hDc := hD.sub (ws' := (wd27 cyI cyJ cyZ q_Wh q_base q_power q_powerSum q_found q_Sp q_Pr wh_powers wh_many wh_told a_base a_power a_powerSum a_found)) [0, 1, 2, 3, 4] (by decide) rfl
          refine cal_v [0, 1, 2, 3, 4] [] (va_runV (As := [.long (v1 / v8), .long (v3 * (a_power v7.toNatClampNeg)), .int (v7 + (1 : Int32)), .int (v6 + (1 : Int32))]) (rest := []) ⟨hx, hb, hml, hown, hts⟩ (hself r20z H.size q_Wh q_base q_power q_powerSum q_found q_Sp q_Pr (v1 / v8) (v3 * (a_power v7.toNatClampNeg)) (v7 + (1 : Int32)) (v6 + (1 : Int32)) wh_powers wh_many wh_told a_base a_power a_powerSum a_found hr20z) (cwV 4 hts gX9_join_X9_join rfl rfl rfl ⟨rfl, hd_X9_join⟩ ⟨by simp only [headSpec, rm_X9_join, rm_X9_join]; omega, by simp only [headSpec, rm_X9_join, rm_X9_join]; omega⟩) ⟨pC.blind, va_recv hK hPc (ci := 9) (q0 := 0) rfl rfl, pC.pre hPc hG hDc⟩ rfl rfl hl.1 rfl (lv_room (Nat.le_of_ble_eq_true rfl)) dX9_join_169 ⟨Nat.zero_le _, Nat.zero_le _⟩) hP hD hS hA rfl rfl rfl (by decide) (fun u21z H locs _ hP hD hS => ?_)
          have hP : va_P (dC, dI) vwCl (wd27 cyI cyJ cyZ q_Wh q_base q_power q_powerSum q_found q_Sp q_Pr wh_powers r20z.1 wh_told a_base a_power a_powerSum r20z.2) H := hP.sub [0, 1, 2, 3, 4] rfl
          have hD : va_D A (wd27 cyI cyJ cyZ q_Wh q_base q_power q_powerSum q_found q_Sp q_Pr wh_powers r20z.1 wh_told a_base a_power a_powerSum r20z.2) := hD.sub [0, 1, 2, 3, 4] (by decide) rfl
          obtain ⟨y23z, ey23z⟩ : ∃ z : Int32, z = v7 + (1 : Int32) := ⟨_, rfl⟩
          have h := xl_at h ey23z
          refine lv_iinc (v := y23z) (lv' := [(7, .int y23z), (0, .ref q_Wh), (1, .long v1), (3, .long v3), (6, .int v6), (8, .long v8), (10, .int v10)]) hx hb dX9_join_172 hl (k := 4) rfl (by rw [ey23z]; rfl) (by decide) rfl (fun ls hl => ?_)
          refine lv_goto (tgt := 12) hx hb dX9_join_175 (by decide) ?_
          exact hk_12 y23z r20z.1 r20z.2 h _ _ hP hD hS _ (lv_sub hl [1, 2, 3, 4, 0] rfl)
        · have h := xf h c19z
          refine lv_aload_n hx hb dX9_join_131 rfl (lv_at hl 0 rfl) ?_
          refine lv_lload_n hx hb dX9_join_132 rfl (lv_at hl 2 rfl) ?_
          refine lv_aload_n hx hb dX9_join_133 rfl (lv_at hl 0 rfl) ?_
          refine va_get (D := (dC, dI)) (ci := 9) (v := .ref q_power) (C := RX9) (T := TX9) (N := 9) hx hb hts iw_X9_join_X9 hown hK hP 0 rfl rfl 3 (by decide) (hts (.fieldLink RX9 15 "GoesInto$Whole" "power" "[J") (List.mem_of_getElem? (i := 5) rfl)) (fun _ h9 => h9) rfl dX9_join_134 ?_
          refine lv_iload hx hb dX9_join_137 (lv_at hl 4 rfl) ?_
          refine va_lald hx hb hK hP 2 1 rfl rfl b13z dX9_join_139 ?_
          refine lv_lmul hx hb dX9_join_140 ?_
          obtain ⟨r24z, hr24z, h⟩ := xb_at h
          have hPc := hP.sub (ws' := (wd22 cyI cyJ cyZ q_Wh q_found q_Sp q_Pr q_base q_power q_powerSum wh_powers wh_many wh_told a_found)) [0, 4] rfl
          have hDc := hD.sub (ws' := (wd22 cyI cyJ cyZ q_Wh q_found q_Sp q_Pr q_base q_power q_powerSum wh_powers wh_many wh_told a_found)) [0, 4] (by decide) rfl
          refine cal_v [0, 4] [1, 2, 3] (va_runV (As := [.long (v3 * (a_power v7.toNatClampNeg))]) (rest := []) ⟨hx, hb, hml, hown, hts⟩ (c_X9_keepFound l dC dI cyI cyJ cyZ N r24z H.size q_Wh q_found q_Sp q_Pr q_base q_power q_powerSum (v3 * (a_power v7.toNatClampNeg)) wh_powers wh_many wh_told a_found hr24z) (cwV 1 hts gX9_join_X9_keepFound rfl rfl rfl ⟨rfl, hd_X9_keepFound⟩ ⟨by simp only [headSpec, rm_X9_join, rm_X9_keepFound]; omega, by simp only [headSpec, rm_X9_join, rm_X9_keepFound]; omega⟩) ⟨pC.blind, va_recv hK hPc (ci := 9) (q0 := 0) rfl rfl, pC.pre hPc hG hDc⟩ rfl rfl hl.1 rfl (lv_room (Nat.le_of_ble_eq_true rfl)) dX9_join_141 ⟨Nat.zero_le _, Nat.zero_le _⟩) hP hD hS hA rfl rfl rfl (by decide) (fun u25z H locs _ hP hD hS => ?_)
          have hP : va_P (dC, dI) vwCl (wd27 cyI cyJ cyZ q_Wh q_base q_power q_powerSum q_found q_Sp q_Pr wh_powers r24z.1 wh_told a_base a_power a_powerSum r24z.2) H := hP.sub [3, 0, 1, 2, 4] rfl
          have hD : va_D A (wd27 cyI cyJ cyZ q_Wh q_base q_power q_powerSum q_found q_Sp q_Pr wh_powers r24z.1 wh_told a_base a_power a_powerSum r24z.2) := hD.sub [3, 0, 1, 2, 4] (by decide) rfl
          refine lv_goto (tgt := 172) hx hb dX9_join_144 (by decide) ?_
          obtain ⟨y27z, ey27z⟩ : ∃ z : Int32, z = v7 + (1 : Int32) := ⟨_, rfl⟩
          have h := xl_at h ey27z
          refine lv_iinc (v := y27z) (lv' := [(7, .int y27z), (0, .ref q_Wh), (1, .long v1), (3, .long v3), (6, .int v6), (8, .long v8), (10, .int v10)]) hx hb dX9_join_172 hl (k := 4) rfl (by rw [ey27z]; rfl) (by decide) rfl (fun ls hl => ?_)
          refine lv_goto (tgt := 12) hx hb dX9_join_175 (by decide) ?_
          exact hk_12 y27z r24z.1 r24z.2 h _ _ hP hD hS _ (lv_sub hl [1, 2, 3, 4, 0] rfl)
      · have c18z := (lg_cmp_eq _ _).mp c18z
        have h := xt h c18z
        refine lv_goto (tgt := 172) hx hb dX9_join_123 (by decide) ?_
        obtain ⟨y28z, ey28z⟩ : ∃ z : Int32, z = v7 + (1 : Int32) := ⟨_, rfl⟩
        have h := xl_at h ey28z
        refine lv_iinc (v := y28z) (lv' := [(7, .int y28z), (0, .ref q_Wh), (1, .long v1), (3, .long v3), (6, .int v6), (8, .long v8), (10, .int v10)]) hx hb dX9_join_172 hl (k := 4) rfl (by rw [ey28z]; rfl) (by decide) rfl (fun ls hl => ?_)
        refine lv_goto (tgt := 12) hx hb dX9_join_175 (by decide) ?_
        exact hk_12 y28z wh_many a_found h _ _ hP hD hS _ (lv_sub hl [1, 2, 3, 4, 0] rfl)
def j_X9_join_69 (N : Nat) (self : Int64 → Int64 → Int32 → Int32 → (Int32) → (Int32) → (Nat → Int64) → (Nat → Int64) → (Nat → Int64) → (Nat → Int64) → Option (Int32 × (Nat → Int64))) (k_12 : (Int32 × Int32 × (Nat → Int64)) → Option (Int32 × (Nat → Int64))) (v1 : Int64) (v3 : Int64) (v6 : Int32) (v7 : Int32) (v8 : Int64) (s0 : Int32) (wh_powers : Int32) (wh_many : Int32) (a_base : Nat → Int64) (a_power : Nat → Int64) (a_powerSum : Nat → Int64) (a_found : Nat → Int64) : Option (Int32 × (Nat → Int64)) :=
  if s0 = 0 then
    if v1 < (v8 * v8) then
      xl (v7 + (1 : Int32)) fun y30z =>
      k_12 (y30z, wh_many, a_found)
    else
      j_X9_join_86 N self k_12 v1 v3 v6 v7 v8 s0 wh_powers wh_many a_base a_power a_powerSum a_found
  else
    j_X9_join_86 N self k_12 v1 v3 v6 v7 v8 s0 wh_powers wh_many a_base a_power a_powerSum a_found
set_option maxRecDepth 100000 in
set_option maxHeartbeats 4000000 in
theorem k_X9_join_69 {p : Program} {l : Launch} {e : Env} {s : State} {m : MethodId} {args : Array Value} {below : List Frame} {meth : Method} {c : Code} {dC : Nat → ClassId} {dI : Nat → Nat → Nat} {cyI cyJ cyZ : ClassId} {A : Nat → Prop} (C0 : mC p s m meth c args cX9_join none 11 RX9 wsX9_join (gK dC dI cyI cyJ cyZ) A) (N : Nat) (D : Nat) (self : Int64 → Int64 → Int32 → Int32 → (Int32) → (Int32) → (Nat → Int64) → (Nat → Int64) → (Nat → Int64) → (Nat → Int64) → Option (Int32 × (Nat → Int64))) (hself : ∀ (res : Int32 × (Nat → Int64)) (sz : Nat) (q_Wh : Nat) (q_base : Nat) (q_power : Nat) (q_powerSum : Nat) (q_found : Nat) (q_Sp : Nat) (q_Pr : Nat) (v1 : Int64) (v3 : Int64) (v5 : Int32) (v6 : Int32) (wh_powers : Int32) (wh_many : Int32) (wh_told : Int64) (a_base : Nat → Int64) (a_power : Nat → Int64) (a_powerSum : Nat → Int64) (a_found : Nat → Int64), self v1 v3 v5 v6 wh_powers wh_many a_base a_power a_powerSum a_found = some res → Met l yX9_join wsX9_join (rm_X9_join D) (pC dC dI cyI cyJ cyZ [.ref q_Wh, .long v1, .long v3, .int v5, .int v6] sz (wd27 cyI cyJ cyZ q_Wh q_base q_power q_powerSum q_found q_Sp q_Pr wh_powers wh_many wh_told a_base a_power a_powerSum a_found)) (va_Qv (fun (_ : Unit) => True) (bW dC dI (fun (u : Unit) => (wd27 cyI cyJ cyZ q_Wh q_base q_power q_powerSum q_found q_Sp q_Pr wh_powers res.1 wh_told a_base a_power a_powerSum res.2)) (va_A (wd27 cyI cyJ cyZ q_Wh q_base q_power q_powerSum q_found q_Sp q_Pr wh_powers wh_many wh_told a_base a_power a_powerSum a_found) sz)) (va_A (wd27 cyI cyJ cyZ q_Wh q_base q_power q_powerSum q_found q_Sp q_Pr wh_powers wh_many wh_told a_base a_power a_powerSum a_found) sz)) 0 0 (va_A (wd27 cyI cyJ cyZ q_Wh q_base q_power q_powerSum q_found q_Sp q_Pr wh_powers wh_many wh_told a_base a_power a_powerSum a_found) sz)) (res : Int32 × (Nat → Int64)) (q_Wh : Nat) (q_base : Nat) (q_power : Nat) (q_powerSum : Nat) (q_found : Nat) (q_Sp : Nat) (q_Pr : Nat) (v1 : Int64) (v3 : Int64) (v6 : Int32) (v8 : Int64) (s0 : Int32) (wh_powers : Int32) (wh_told : Int64) (a_base : Nat → Int64) (a_power : Nat → Int64) (a_powerSum : Nat → Int64) (k_12 : (Int32 × Int32 × (Nat → Int64)) → Option (Int32 × (Nat → Int64))) (hk_12 : ∀ (v7 : Int32) (wh_many : Int32) (a_found : Nat → Int64), k_12 (v7, wh_many, a_found) = some res → ∀ (H : Heap) (locs : List Loc), va_P (dC, dI) vwCl (wd27 cyI cyJ cyZ q_Wh q_base q_power q_powerSum q_found q_Sp q_Pr wh_powers wh_many wh_told a_base a_power a_powerSum a_found) H → va_D A (wd27 cyI cyJ cyZ q_Wh q_base q_power q_powerSum q_found q_Sp q_Pr wh_powers wh_many wh_told a_base a_power a_powerSum a_found) → va_S A s.heap H locs → ∀ (ls : Array Slot), lv_has ls 11 [(0, .ref q_Wh), (1, .long v1), (3, .long v3), (6, .int v6), (7, .int v7)] → W p l e (headSpec wsX9_join (rm_X9_join (D + 1))).room s m args below meth c H locs 0 0 (MQ below (va_Qv (fun (_ : Unit) => True) (bW dC dI (fun (u : Unit) => (wd27 cyI cyJ cyZ q_Wh q_base q_power q_powerSum q_found q_Sp q_Pr wh_powers res.1 wh_told a_base a_power a_powerSum res.2)) A) A) args s 0 0 A) (F0 m 12 ls [])) (v7 : Int32) (wh_many : Int32) (a_found : Nat → Int64) (h : j_X9_join_69 N self k_12 v1 v3 v6 v7 v8 s0 wh_powers wh_many a_base a_power a_powerSum a_found = some res) : ∀ (H : Heap) (locs : List Loc), va_P (dC, dI) vwCl (wd27 cyI cyJ cyZ q_Wh q_base q_power q_powerSum q_found q_Sp q_Pr wh_powers wh_many wh_told a_base a_power a_powerSum a_found) H → va_D A (wd27 cyI cyJ cyZ q_Wh q_base q_power q_powerSum q_found q_Sp q_Pr wh_powers wh_many wh_told a_base a_power a_powerSum a_found) → va_S A s.heap H locs → ∀ (ls : Array Slot), lv_has ls 11 [(0, .ref q_Wh), (1, .long v1), (3, .long v3), (6, .int v6), (7, .int v7), (8, .long v8)] → W p l e (headSpec wsX9_join (rm_X9_join (D + 1))).room s m args below meth c H locs 0 0 (MQ below (va_Qv (fun (_ : Unit) => True) (bW dC dI (fun (u : Unit) => (wd27 cyI cyJ cyZ q_Wh q_base q_power q_powerSum q_found q_Sp q_Pr wh_powers res.1 wh_told a_base a_power a_powerSum res.2)) A) A) args s 0 0 A) (F0 m 69 ls [.int s0]) := by
  obtain ⟨hx, hb, hr, hml, hown, hts, hlocks, hG, hA⟩ := id C0
  have hK := hG.1
  intro H locs hP hD hS ls hl
  unfold j_X9_join_69 at h
  refine lv_istore (lv' := [(10, .int s0), (0, .ref q_Wh), (1, .long v1), (3, .long v3), (6, .int v6), (7, .int v7), (8, .long v8)]) hx hb dX9_join_69 hl (by decide) rfl (fun ls hl => ?_)
  refine lv_iload hx hb dX9_join_71 (lv_at hl 0 rfl) ?_
  refine lv_if_ne (tgt := 86) hx hb dX9_join_73 (by decide) (fun c9z => ?_) (fun c9z => ?_)
  · have h := xf h c9z
    exact k_X9_join_86 C0 N D self hself res q_Wh q_base q_power q_powerSum q_found q_Sp q_Pr v1 v3 v6 v8 s0 wh_powers wh_told a_base a_power a_powerSum k_12 hk_12 v7 wh_many a_found  h _ _ hP hD hS _ (lv_sub hl [1, 2, 3, 4, 5, 6, 0] rfl)
  · have h := xt h c9z
    refine lv_lload hx hb dX9_join_76 (lv_at hl 6 rfl) ?_
    refine lv_lload hx hb dX9_join_78 (lv_at hl 6 rfl) ?_
    refine lv_lmul hx hb dX9_join_80 ?_
    refine lv_lload_n hx hb dX9_join_81 rfl (lv_at hl 2 rfl) ?_
    refine W.lcmp hx hb dX9_join_82 ?_
    refine lv_if_gt (tgt := 172) hx hb dX9_join_83 (by decide) (fun c29z => ?_) (fun c29z => ?_)
    · have c29z := (lg_cmp_gt _ _).mp c29z
      have h := xt h c29z
      obtain ⟨y30z, ey30z⟩ : ∃ z : Int32, z = v7 + (1 : Int32) := ⟨_, rfl⟩
      have h := xl_at h ey30z
      refine lv_iinc (v := y30z) (lv' := [(7, .int y30z), (10, .int s0), (0, .ref q_Wh), (1, .long v1), (3, .long v3), (6, .int v6), (8, .long v8)]) hx hb dX9_join_172 hl (k := 5) rfl (by rw [ey30z]; rfl) (by decide) rfl (fun ls hl => ?_)
      refine lv_goto (tgt := 12) hx hb dX9_join_175 (by decide) ?_
      exact hk_12 y30z wh_many a_found h _ _ hP hD hS _ (lv_sub hl [2, 3, 4, 5, 0] rfl)
    · have c29z := fun z => c29z ((lg_cmp_gt _ _).mpr z)
      have h := xf h c29z
      exact k_X9_join_86 C0 N D self hself res q_Wh q_base q_power q_powerSum q_found q_Sp q_Pr v1 v3 v6 v8 s0 wh_powers wh_told a_base a_power a_powerSum k_12 hk_12 v7 wh_many a_found  h _ _ hP hD hS _ (lv_sub hl [1, 2, 3, 4, 5, 6, 0] rfl)
def s_X9_join_12 (N : Nat) (self : Int64 → Int64 → Int32 → Int32 → (Int32) → (Int32) → (Nat → Int64) → (Nat → Int64) → (Nat → Int64) → (Nat → Int64) → Option (Int32 × (Nat → Int64))) (v1 : Int64) (v3 : Int64) (v6 : Int32) (wh_powers : Int32) (a_base : Nat → Int64) (a_power : Nat → Int64) (a_powerSum : Nat → Int64) (k_12 : (Int32 × Int32 × (Nat → Int64)) → Option (Int32 × (Nat → Int64))) (v7 : Int32) (wh_many : Int32) (a_found : Nat → Int64) : Option (Int32 × (Nat → Int64)) :=
  if wh_powers ≤ v7 then
    some (wh_many, a_found)
  else
    if (400 : Int32) ≤ v7 then
      some (wh_many, a_found)
    else
      if v7 < 0 ∨ 400 ≤ v7.toNatClampNeg then
        none
      else
        xl (a_powerSum v7.toNatClampNeg) fun y5z =>
        if y5z < (2 : Int64) then
          some (wh_many, a_found)
        else
          if y5z ≤ v1 then
            if y5z = v1 then
              j_X9_join_69 N self k_12 v1 v3 v6 v7 y5z (1 : Int32) wh_powers wh_many a_base a_power a_powerSum a_found
            else
              j_X9_join_69 N self k_12 v1 v3 v6 v7 y5z (0 : Int32) wh_powers wh_many a_base a_power a_powerSum a_found
          else
            some (wh_many, a_found)
def l_X9_join_12 (N : Nat) (self : Int64 → Int64 → Int32 → Int32 → (Int32) → (Int32) → (Nat → Int64) → (Nat → Int64) → (Nat → Int64) → (Nat → Int64) → Option (Int32 × (Nat → Int64))) (v1 : Int64) (v3 : Int64) (v6 : Int32) (wh_powers : Int32) (a_base : Nat → Int64) (a_power : Nat → Int64) (a_powerSum : Nat → Int64) (n : Nat) (z : Int32 × Int32 × (Nat → Int64)) : Option (Int32 × (Nat → Int64)) := lp (fun k z => s_X9_join_12 N self v1 v3 v6 wh_powers a_base a_power a_powerSum k z.1 z.2.1 z.2.2) n z
set_option maxRecDepth 100000 in
set_option maxHeartbeats 4000000 in
theorem k_X9_join_12 {p : Program} {l : Launch} {e : Env} {s : State} {m : MethodId} {args : Array Value} {below : List Frame} {meth : Method} {c : Code} {dC : Nat → ClassId} {dI : Nat → Nat → Nat} {cyI cyJ cyZ : ClassId} {A : Nat → Prop} (C0 : mC p s m meth c args cX9_join none 11 RX9 wsX9_join (gK dC dI cyI cyJ cyZ) A) (N : Nat) (D : Nat) (self : Int64 → Int64 → Int32 → Int32 → (Int32) → (Int32) → (Nat → Int64) → (Nat → Int64) → (Nat → Int64) → (Nat → Int64) → Option (Int32 × (Nat → Int64))) (hself : ∀ (res : Int32 × (Nat → Int64)) (sz : Nat) (q_Wh : Nat) (q_base : Nat) (q_power : Nat) (q_powerSum : Nat) (q_found : Nat) (q_Sp : Nat) (q_Pr : Nat) (v1 : Int64) (v3 : Int64) (v5 : Int32) (v6 : Int32) (wh_powers : Int32) (wh_many : Int32) (wh_told : Int64) (a_base : Nat → Int64) (a_power : Nat → Int64) (a_powerSum : Nat → Int64) (a_found : Nat → Int64), self v1 v3 v5 v6 wh_powers wh_many a_base a_power a_powerSum a_found = some res → Met l yX9_join wsX9_join (rm_X9_join D) (pC dC dI cyI cyJ cyZ [.ref q_Wh, .long v1, .long v3, .int v5, .int v6] sz (wd27 cyI cyJ cyZ q_Wh q_base q_power q_powerSum q_found q_Sp q_Pr wh_powers wh_many wh_told a_base a_power a_powerSum a_found)) (va_Qv (fun (_ : Unit) => True) (bW dC dI (fun (u : Unit) => (wd27 cyI cyJ cyZ q_Wh q_base q_power q_powerSum q_found q_Sp q_Pr wh_powers res.1 wh_told a_base a_power a_powerSum res.2)) (va_A (wd27 cyI cyJ cyZ q_Wh q_base q_power q_powerSum q_found q_Sp q_Pr wh_powers wh_many wh_told a_base a_power a_powerSum a_found) sz)) (va_A (wd27 cyI cyJ cyZ q_Wh q_base q_power q_powerSum q_found q_Sp q_Pr wh_powers wh_many wh_told a_base a_power a_powerSum a_found) sz)) 0 0 (va_A (wd27 cyI cyJ cyZ q_Wh q_base q_power q_powerSum q_found q_Sp q_Pr wh_powers wh_many wh_told a_base a_power a_powerSum a_found) sz)) (res : Int32 × (Nat → Int64)) (q_Wh : Nat) (q_base : Nat) (q_power : Nat) (q_powerSum : Nat) (q_found : Nat) (q_Sp : Nat) (q_Pr : Nat) (v1 : Int64) (v3 : Int64) (v6 : Int32) (wh_powers : Int32) (wh_told : Int64) (a_base : Nat → Int64) (a_power : Nat → Int64) (a_powerSum : Nat → Int64) : ∀ (n : Nat) (v7 : Int32) (wh_many : Int32) (a_found : Nat → Int64), l_X9_join_12 N self v1 v3 v6 wh_powers a_base a_power a_powerSum n (v7, wh_many, a_found) = some res → ∀ (H : Heap) (locs : List Loc), va_P (dC, dI) vwCl (wd27 cyI cyJ cyZ q_Wh q_base q_power q_powerSum q_found q_Sp q_Pr wh_powers wh_many wh_told a_base a_power a_powerSum a_found) H → va_D A (wd27 cyI cyJ cyZ q_Wh q_base q_power q_powerSum q_found q_Sp q_Pr wh_powers wh_many wh_told a_base a_power a_powerSum a_found) → va_S A s.heap H locs → ∀ (ls : Array Slot), lv_has ls 11 [(0, .ref q_Wh), (1, .long v1), (3, .long v3), (6, .int v6), (7, .int v7)] → W p l e (headSpec wsX9_join (rm_X9_join (D + 1))).room s m args below meth c H locs 0 0 (MQ below (va_Qv (fun (_ : Unit) => True) (bW dC dI (fun (u : Unit) => (wd27 cyI cyJ cyZ q_Wh q_base q_power q_powerSum q_found q_Sp q_Pr wh_powers res.1 wh_told a_base a_power a_powerSum res.2)) A) A) args s 0 0 A) (F0 m 12 ls []) := by
  obtain ⟨hx, hb, hr, hml, hown, hts, hlocks, hG, hA⟩ := id C0
  have hK := hG.1
  intro n
  induction n with
  | zero =>
    intro v7 wh_many a_found h
    cases h
  | succ n ih =>
    intro v7 wh_many a_found h H locs hP hD hS ls hl
    have h : s_X9_join_12 N self v1 v3 v6 wh_powers a_base a_power a_powerSum (l_X9_join_12 N self v1 v3 v6 wh_powers a_base a_power a_powerSum n) v7 wh_many a_found = some res := h
    unfold s_X9_join_12 at h
    refine lv_iload hx hb dX9_join_12 (lv_at hl 4 rfl) ?_
    refine lv_aload_n hx hb dX9_join_14 rfl (lv_at hl 0 rfl) ?_
    refine va_get (D := (dC, dI)) (ci := 9) (v := .int wh_powers) (C := RX9) (T := TX9) (N := 9) hx hb hts iw_X9_join_X9 hown hK hP 0 rfl rfl 5 (by decide) (hts (.fieldLink RX9 21 "GoesInto$Whole" "powers" "I") (List.mem_of_getElem? (i := 1) rfl)) (fun _ h9 => h9) rfl dX9_join_15 ?_
    refine lv_icmp_ge (tgt := 178) hx hb dX9_join_18 (by decide) (fun c2z => ?_) (fun c2z => ?_)
    · have h := xt h c2z
      obtain rfl := Option.some.inj h
      exact W.vret hx hb hr (fun t ht hW => ⟨⟨(), rfl, trivial, by rw [ht]; exact hP, hD⟩, hS.F ht⟩) hS.2.2 dX9_join_178 hlocks
    · have h := xf h c2z
      refine lv_iload hx hb dX9_join_21 (lv_at hl 4 rfl) ?_
      refine lv_sipush (v := (400 : Int32)) hx hb dX9_join_23 (by decide) ?_
      refine lv_icmp_ge (tgt := 178) hx hb dX9_join_26 (by decide) (fun c3z => ?_) (fun c3z => ?_)
      · have h := xt h c3z
        obtain rfl := Option.some.inj h
        exact W.vret hx hb hr (fun t ht hW => ⟨⟨(), rfl, trivial, by rw [ht]; exact hP, hD⟩, hS.F ht⟩) hS.2.2 dX9_join_178 hlocks
      · have h := xf h c3z
        refine lv_aload_n hx hb dX9_join_29 rfl (lv_at hl 0 rfl) ?_
        refine va_get (D := (dC, dI)) (ci := 9) (v := .ref q_powerSum) (C := RX9) (T := TX9) (N := 9) hx hb hts iw_X9_join_X9 hown hK hP 0 rfl rfl 4 (by decide) (hts (.fieldLink RX9 18 "GoesInto$Whole" "powerSum" "[J") (List.mem_of_getElem? (i := 2) rfl)) (fun _ h9 => h9) rfl dX9_join_30 ?_
        refine lv_iload hx hb dX9_join_33 (lv_at hl 4 rfl) ?_
        obtain ⟨b4z, h⟩ := xn h
        refine va_lald hx hb hK hP 3 1 rfl rfl b4z dX9_join_35 ?_
        refine lv_topl (fun y5z ey5z => ?_)
        have h := xl_at h ey5z
        refine lv_lstore (lv' := [(8, .long y5z), (0, .ref q_Wh), (1, .long v1), (3, .long v3), (6, .int v6), (7, .int v7)]) hx hb dX9_join_36 hl (by decide) rfl (fun ls hl => ?_)
        refine lv_lload hx hb dX9_join_38 (lv_at hl 0 rfl) ?_
        refine lv_ldc2 (v := (2 : Int64)) hx hb hown (hts (.constantLong RX9 88 (2)) (List.mem_of_getElem? (i := 3) rfl)) dX9_join_40 ?_
        refine W.lcmp hx hb dX9_join_43 ?_
        refine lv_if_lt (tgt := 178) hx hb dX9_join_44 (by decide) (fun c6z => ?_) (fun c6z => ?_)
        · have c6z := (lg_cmp_lt _ _).mp c6z
          have h := xt h c6z
          obtain rfl := Option.some.inj h
          exact W.vret hx hb hr (fun t ht hW => ⟨⟨(), rfl, trivial, by rw [ht]; exact hP, hD⟩, hS.F ht⟩) hS.2.2 dX9_join_178 hlocks
        · have c6z := fun z => c6z ((lg_cmp_lt _ _).mpr z)
          have h := xf h c6z
          refine lv_lload hx hb dX9_join_47 (lv_at hl 0 rfl) ?_
          refine lv_lload_n hx hb dX9_join_49 rfl (lv_at hl 2 rfl) ?_
          refine W.lcmp hx hb dX9_join_50 ?_
          refine lv_if_le (tgt := 57) hx hb dX9_join_51 (by decide) (fun c7z => ?_) (fun c7z => ?_)
          · have c7z := (lg_cmp_le _ _).mp c7z
            have h := xt h c7z
            refine lv_lload hx hb dX9_join_57 (lv_at hl 0 rfl) ?_
            refine lv_lload_n hx hb dX9_join_59 rfl (lv_at hl 2 rfl) ?_
            refine W.lcmp hx hb dX9_join_60 ?_
            refine lv_if_ne (tgt := 68) hx hb dX9_join_61 (by decide) (fun c8z => ?_) (fun c8z => ?_)
            · have c8z := fun z => c8z ((lg_cmp_eq _ _).mpr z)
              have h := xf h c8z
              refine lv_iconst (v := (0 : Int32)) hx hb dX9_join_68 (by decide) ?_
              exact k_X9_join_69 C0 N D self hself res q_Wh q_base q_power q_powerSum q_found q_Sp q_Pr v1 v3 v6 y5z (0 : Int32) wh_powers wh_told a_base a_power a_powerSum _ ih v7 wh_many a_found  h _ _ hP hD hS _ (lv_sub hl [1, 2, 3, 4, 5, 0] rfl)
            · have c8z := (lg_cmp_eq _ _).mp c8z
              have h := xt h c8z
              refine lv_iconst (v := (1 : Int32)) hx hb dX9_join_64 (by decide) ?_
              refine lv_goto (tgt := 69) hx hb dX9_join_65 (by decide) ?_
              exact k_X9_join_69 C0 N D self hself res q_Wh q_base q_power q_powerSum q_found q_Sp q_Pr v1 v3 v6 y5z (1 : Int32) wh_powers wh_told a_base a_power a_powerSum _ ih v7 wh_many a_found  h _ _ hP hD hS _ (lv_sub hl [1, 2, 3, 4, 5, 0] rfl)
          · have c7z := fun z => c7z ((lg_cmp_le _ _).mpr z)
            have h := xf h c7z
            refine lv_goto (tgt := 178) hx hb dX9_join_54 (by decide) ?_
            obtain rfl := Option.some.inj h
            exact W.vret hx hb hr (fun t ht hW => ⟨⟨(), rfl, trivial, by rw [ht]; exact hP, hD⟩, hS.F ht⟩) hS.2.2 dX9_join_178 hlocks
def b_X9_join (N : Nat) (self : Int64 → Int64 → Int32 → Int32 → (Int32) → (Int32) → (Nat → Int64) → (Nat → Int64) → (Nat → Int64) → (Nat → Int64) → Option (Int32 × (Nat → Int64))) (v1 : Int64) (v3 : Int64) (v5 : Int32) (v6 : Int32) (wh_powers : Int32) (wh_many : Int32) (a_base : Nat → Int64) (a_power : Nat → Int64) (a_powerSum : Nat → Int64) (a_found : Nat → Int64) : Option (Int32 × (Nat → Int64)) :=
  if v6 < (12 : Int32) then
    l_X9_join_12 N self v1 v3 v6 wh_powers a_base a_power a_powerSum N (v5, wh_many, a_found)
  else
    some (wh_many, a_found)
set_option maxRecDepth 100000 in
set_option maxHeartbeats 4000000 in
theorem k_X9_join_0 {p : Program} {l : Launch} {e : Env} {s : State} {m : MethodId} {args : Array Value} {below : List Frame} {meth : Method} {c : Code} {dC : Nat → ClassId} {dI : Nat → Nat → Nat} {cyI cyJ cyZ : ClassId} {A : Nat → Prop} (C0 : mC p s m meth c args cX9_join none 11 RX9 wsX9_join (gK dC dI cyI cyJ cyZ) A) (N : Nat) (D : Nat) (self : Int64 → Int64 → Int32 → Int32 → (Int32) → (Int32) → (Nat → Int64) → (Nat → Int64) → (Nat → Int64) → (Nat → Int64) → Option (Int32 × (Nat → Int64))) (hself : ∀ (res : Int32 × (Nat → Int64)) (sz : Nat) (q_Wh : Nat) (q_base : Nat) (q_power : Nat) (q_powerSum : Nat) (q_found : Nat) (q_Sp : Nat) (q_Pr : Nat) (v1 : Int64) (v3 : Int64) (v5 : Int32) (v6 : Int32) (wh_powers : Int32) (wh_many : Int32) (wh_told : Int64) (a_base : Nat → Int64) (a_power : Nat → Int64) (a_powerSum : Nat → Int64) (a_found : Nat → Int64), self v1 v3 v5 v6 wh_powers wh_many a_base a_power a_powerSum a_found = some res → Met l yX9_join wsX9_join (rm_X9_join D) (pC dC dI cyI cyJ cyZ [.ref q_Wh, .long v1, .long v3, .int v5, .int v6] sz (wd27 cyI cyJ cyZ q_Wh q_base q_power q_powerSum q_found q_Sp q_Pr wh_powers wh_many wh_told a_base a_power a_powerSum a_found)) (va_Qv (fun (_ : Unit) => True) (bW dC dI (fun (u : Unit) => (wd27 cyI cyJ cyZ q_Wh q_base q_power q_powerSum q_found q_Sp q_Pr wh_powers res.1 wh_told a_base a_power a_powerSum res.2)) (va_A (wd27 cyI cyJ cyZ q_Wh q_base q_power q_powerSum q_found q_Sp q_Pr wh_powers wh_many wh_told a_base a_power a_powerSum a_found) sz)) (va_A (wd27 cyI cyJ cyZ q_Wh q_base q_power q_powerSum q_found q_Sp q_Pr wh_powers wh_many wh_told a_base a_power a_powerSum a_found) sz)) 0 0 (va_A (wd27 cyI cyJ cyZ q_Wh q_base q_power q_powerSum q_found q_Sp q_Pr wh_powers wh_many wh_told a_base a_power a_powerSum a_found) sz)) (res : Int32 × (Nat → Int64)) (q_Wh : Nat) (q_base : Nat) (q_power : Nat) (q_powerSum : Nat) (q_found : Nat) (q_Sp : Nat) (q_Pr : Nat) (v1 : Int64) (v3 : Int64) (v5 : Int32) (v6 : Int32) (wh_powers : Int32) (wh_many : Int32) (wh_told : Int64) (a_base : Nat → Int64) (a_power : Nat → Int64) (a_powerSum : Nat → Int64) (a_found : Nat → Int64) (h : b_X9_join N self v1 v3 v5 v6 wh_powers wh_many a_base a_power a_powerSum a_found = some res) : ∀ (H : Heap) (locs : List Loc), va_P (dC, dI) vwCl (wd27 cyI cyJ cyZ q_Wh q_base q_power q_powerSum q_found q_Sp q_Pr wh_powers wh_many wh_told a_base a_power a_powerSum a_found) H → va_D A (wd27 cyI cyJ cyZ q_Wh q_base q_power q_powerSum q_found q_Sp q_Pr wh_powers wh_many wh_told a_base a_power a_powerSum a_found) → va_S A s.heap H locs → ∀ (ls : Array Slot), lv_has ls 11 [(0, .ref q_Wh), (1, .long v1), (3, .long v3), (5, .int v5), (6, .int v6)] → W p l e (headSpec wsX9_join (rm_X9_join (D + 1))).room s m args below meth c H locs 0 0 (MQ below (va_Qv (fun (_ : Unit) => True) (bW dC dI (fun (u : Unit) => (wd27 cyI cyJ cyZ q_Wh q_base q_power q_powerSum q_found q_Sp q_Pr wh_powers res.1 wh_told a_base a_power a_powerSum res.2)) A) A) args s 0 0 A) (F0 m 0 ls []) := by
  obtain ⟨hx, hb, hr, hml, hown, hts, hlocks, hG, hA⟩ := id C0
  have hK := hG.1
  intro H locs hP hD hS ls hl
  unfold b_X9_join at h
  refine lv_iload hx hb dX9_join_0 (lv_at hl 4 rfl) ?_
  refine lv_bipush (v := (12 : Int32)) hx hb dX9_join_2 (by decide) ?_
  refine lv_icmp_lt (tgt := 8) hx hb dX9_join_4 (by decide) (fun c1z => ?_) (fun c1z => ?_)
  · have h := xt h c1z
    refine lv_iload hx hb dX9_join_8 (lv_at hl 3 rfl) ?_
    refine lv_istore (lv' := [(7, .int v5), (0, .ref q_Wh), (1, .long v1), (3, .long v3), (5, .int v5), (6, .int v6)]) hx hb dX9_join_10 hl (by decide) rfl (fun ls hl => ?_)
    exact k_X9_join_12 C0 N D self hself res q_Wh q_base q_power q_powerSum q_found q_Sp q_Pr v1 v3 v6 wh_powers wh_told a_base a_power a_powerSum N v5 wh_many a_found h _ _ hP hD hS _ (lv_sub hl [1, 2, 3, 5, 0] rfl)
  · have h := xf h c1z
    obtain rfl := Option.some.inj h
    exact W.vret hx hb hr (fun t ht hW => ⟨⟨(), rfl, trivial, by rw [ht]; exact hP, hD⟩, hS.F ht⟩) hS.2.2 dX9_join_7 hlocks
def f_X9_join (N : Nat) : Nat → Int64 → Int64 → Int32 → Int32 → (Int32) → (Int32) → (Nat → Int64) → (Nat → Int64) → (Nat → Int64) → (Nat → Int64) → Option (Int32 × (Nat → Int64))
  | 0 => fun _ _ _ _ _ _ _ _ _ _ => none
  | D + 1 => fun v1 v3 v5 v6 wh_powers wh_many a_base a_power a_powerSum a_found => b_X9_join N (f_X9_join N D) v1 v3 v5 v6 wh_powers wh_many a_base a_power a_powerSum a_found
set_option maxRecDepth 100000 in
set_option maxHeartbeats 4000000 in
theorem c_X9_join (l : Launch) (dC : Nat → ClassId) (dI : Nat → Nat → Nat) (cyI cyJ cyZ : ClassId) (N : Nat) : ∀ (D : Nat) (res : Int32 × (Nat → Int64)) (sz : Nat) (q_Wh : Nat) (q_base : Nat) (q_power : Nat) (q_powerSum : Nat) (q_found : Nat) (q_Sp : Nat) (q_Pr : Nat) (v1 : Int64) (v3 : Int64) (v5 : Int32) (v6 : Int32) (wh_powers : Int32) (wh_many : Int32) (wh_told : Int64) (a_base : Nat → Int64) (a_power : Nat → Int64) (a_powerSum : Nat → Int64) (a_found : Nat → Int64), f_X9_join N D v1 v3 v5 v6 wh_powers wh_many a_base a_power a_powerSum a_found = some res → Met l yX9_join wsX9_join (rm_X9_join D) (pC dC dI cyI cyJ cyZ [.ref q_Wh, .long v1, .long v3, .int v5, .int v6] sz (wd27 cyI cyJ cyZ q_Wh q_base q_power q_powerSum q_found q_Sp q_Pr wh_powers wh_many wh_told a_base a_power a_powerSum a_found)) (va_Qv (fun (_ : Unit) => True) (bW dC dI (fun (u : Unit) => (wd27 cyI cyJ cyZ q_Wh q_base q_power q_powerSum q_found q_Sp q_Pr wh_powers res.1 wh_told a_base a_power a_powerSum res.2)) (va_A (wd27 cyI cyJ cyZ q_Wh q_base q_power q_powerSum q_found q_Sp q_Pr wh_powers wh_many wh_told a_base a_power a_powerSum a_found) sz)) (va_A (wd27 cyI cyJ cyZ q_Wh q_base q_power q_powerSum q_found q_Sp q_Pr wh_powers wh_many wh_told a_base a_power a_powerSum a_found) sz)) 0 0 (va_A (wd27 cyI cyJ cyZ q_Wh q_base q_power q_powerSum q_found q_Sp q_Pr wh_powers wh_many wh_told a_base a_power a_powerSum a_found) sz) := by
  intro D
  induction D with
  | zero =>
    intro res sz q_Wh q_base q_power q_powerSum q_found q_Sp q_Pr v1 v3 v5 v6 wh_powers wh_many wh_told a_base a_power a_powerSum a_found h
    cases h
  | succ D ih =>
    intro res sz q_Wh q_base q_power q_powerSum q_found q_Sp q_Pr v1 v3 v5 v6 wh_powers wh_many wh_told a_base a_power a_powerSum a_found h
    have h : b_X9_join N (f_X9_join N D) v1 v3 v5 v6 wh_powers wh_many a_base a_power a_powerSum a_found = some res := h
    refine Met.ofW (cc := cX9_join) (maxL := 11) (ret := none) (by decide) rfl ?_
    intro p e s m args below meth c s₁ B hml hv
    obtain ⟨rfl, hsz, hP, hG, hD0⟩ := hv
    have hx := B.exec
    have hb := B.bytes
    have hr := B.returns
    have hts := atoms_spec (ws := wsX9_join) B.pre
    have hown : s.vm.findClass RX9 = some m.cls := findClass_of_methodNamed B.named
    have hlocks := B.notSynchronized
    subst hsz
    have hD := hD0.self (sz := s.heap.size)
    generalize hAe : va_A (wd27 cyI cyJ cyZ q_Wh q_base q_power q_powerSum q_found q_Sp q_Pr wh_powers wh_many wh_told a_base a_power a_powerSum a_found) s.heap.size = A at hD ⊢
    have hA : ∀ q : Nat, s.heap.size ≤ q → A q := fun q h => by rw [← hAe]; exact Or.inr h
    have hS : va_S A s.heap s.heap [] := va_S.rf
    have hl := lv_entry ([.ref q_Wh, .long v1, .long v3, .int v5, .int v6]) (n := 11) (Nat.le_of_ble_eq_true rfl)
    rw [lg_entry_eq]
    generalize (lg_sl ([.ref q_Wh, .long v1, .long v3, .int v5, .int v6]) ++ List.replicate (11 - (lg_sl ([.ref q_Wh, .long v1, .long v3, .int v5, .int v6])).length) Slot.unset).toArray = ls at hl ⊢
    have hl : lv_has ls 11 [(0, .ref q_Wh), (1, .long v1), (3, .long v3), (5, .int v5), (6, .int v6)] := hl
    exact k_X9_join_0 ⟨hx, hb, hr, hml, hown, hts, hlocks, hG, hA⟩ N D (f_X9_join N D) ih res q_Wh q_base q_power q_powerSum q_found q_Sp q_Pr v1 v3 v5 v6 wh_powers wh_many wh_told a_base a_power a_powerSum a_found  h _ _ hP hD hS _ hl
/-- the cells Pr, Sp, Wh, list, prime, times, parts, base, power, powerSum, found -/
abbrev wd28 (cyI cyJ cyZ : ClassId) (q_Pr : Nat) (q_Sp : Nat) (q_Wh : Nat) (q_list : Nat) (q_prime : Nat) (q_times : Nat) (q_parts : Nat) (q_base : Nat) (q_power : Nat) (q_powerSum : Nat) (q_found : Nat) (q_Sc : Nat) (sp_unlike : Int32) (sp_number : Int64) (sp_partsKept : Int32) (sp_partsNumber : Int64) (wh_powers : Int32) (wh_many : Int32) (wh_told : Int64) (n_list : Nat) (a_list : Nat → Int32) (a_prime : Nat → Int64) (a_times : Nat → Int32) (a_parts : Nat → Int64) (a_base : Nat → Int64) (a_power : Nat → Int64) (a_powerSum : Nat → Int64) (a_found : Nat → Int64) : va_W := [(q_Pr, .inr (3, [.ref q_Sc, .ref q_list])), (q_Sp, .inr (6, [.ref q_Pr, .ref q_prime, .ref q_times, .int sp_unlike, .long sp_number, .ref q_parts, .int sp_partsKept, .long sp_partsNumber])), (q_Wh, .inr (9, [.ref q_Sp, .ref q_Pr, .ref q_base, .ref q_power, .ref q_powerSum, .int wh_powers, .ref q_found, .int wh_many, .long wh_told])), (q_list, .inl (cyI, n_list, .inl a_list)), (q_prime, .inl (cyJ, 12, .inr (.inl a_prime))), (q_times, .inl (cyI, 12, .inl a_times)), (q_parts, .inl (cyJ, 2304, .inr (.inl a_parts))), (q_base, .inl (cyJ, 400, .inr (.inl a_base))), (q_power, .inl (cyJ, 400, .inr (.inl a_power))), (q_powerSum, .inl (cyJ, 400, .inr (.inl a_powerSum))), (q_found, .inl (cyJ, 640, .inr (.inl a_found)))]
abbrev rm_X9_seek : Room := { frames := 16, cells := 0, slots := 0, locals := 540 }
theorem hd_X9_seek : yX9_seek.cls ≠ "java/lang/invoke/MethodHandle" ∧ yX9_seek.cls ≠ "java/lang/invoke/VarHandle" ∧ (parseMethodDescriptor yX9_seek.desc).map (fun d => d.parameters.length) = some 1 := by decide +kernel
theorem iw_X9_seek_X3 : ∀ w ∈ wsX30, w ∈ wsX9_seek := List.forall_mem_cons.mpr ⟨List.mem_of_getElem? (i := 91) rfl, List.forall_mem_cons.mpr ⟨List.mem_of_getElem? (i := 92) rfl, fun _ h => absurd h List.not_mem_nil⟩⟩
theorem iw_X9_seek_X6 : ∀ w ∈ wsX60, w ∈ wsX9_seek := List.forall_mem_cons.mpr ⟨List.mem_of_getElem? (i := 83) rfl, List.forall_mem_cons.mpr ⟨List.mem_of_getElem? (i := 84) rfl, List.forall_mem_cons.mpr ⟨List.mem_of_getElem? (i := 85) rfl, List.forall_mem_cons.mpr ⟨List.mem_of_getElem? (i := 86) rfl, List.forall_mem_cons.mpr ⟨List.mem_of_getElem? (i := 87) rfl, List.forall_mem_cons.mpr ⟨List.mem_of_getElem? (i := 88) rfl, List.forall_mem_cons.mpr ⟨List.mem_of_getElem? (i := 89) rfl, List.forall_mem_cons.mpr ⟨List.mem_of_getElem? (i := 90) rfl, fun _ h => absurd h List.not_mem_nil⟩⟩⟩⟩⟩⟩⟩⟩
theorem iw_X9_seek_X9 : ∀ w ∈ wsX90, w ∈ wsX9_seek := List.forall_mem_cons.mpr ⟨List.mem_of_getElem? (i := 74) rfl, List.forall_mem_cons.mpr ⟨List.mem_of_getElem? (i := 75) rfl, List.forall_mem_cons.mpr ⟨List.mem_of_getElem? (i := 76) rfl, List.forall_mem_cons.mpr ⟨List.mem_of_getElem? (i := 77) rfl, List.forall_mem_cons.mpr ⟨List.mem_of_getElem? (i := 78) rfl, List.forall_mem_cons.mpr ⟨List.mem_of_getElem? (i := 79) rfl, List.forall_mem_cons.mpr ⟨List.mem_of_getElem? (i := 80) rfl, List.forall_mem_cons.mpr ⟨List.mem_of_getElem? (i := 81) rfl, List.forall_mem_cons.mpr ⟨List.mem_of_getElem? (i := 82) rfl, fun _ h => absurd h List.not_mem_nil⟩⟩⟩⟩⟩⟩⟩⟩⟩
def j_X9_seek_46 (N : Nat) (v1 : Int64) (sp_unlike : Int32) (sp_number : Int64) (sp_partsKept : Int32) (sp_partsNumber : Int64) (wh_powers : Int32) (wh_many : Int32) (wh_told : Int64) (a_prime : Nat → Int64) (a_times : Nat → Int32) (a_parts : Nat → Int64) (a_base : Nat → Int64) (a_power : Nat → Int64) (a_powerSum : Nat → Int64) (a_found : Nat → Int64) : Option (Int32 × Int64 × Int32 × Int64 × Int32 × Int32 × Int64 × (Nat → Int64) × (Nat → Int32) × (Nat → Int64) × (Nat → Int64) × (Nat → Int64) × (Nat → Int64) × (Nat → Int64)) :=
  Option.bind (f_X9_join N 14 v1 (1 : Int64) (0 : Int32) (0 : Int32) wh_powers wh_many a_base a_power a_powerSum a_found) fun r9z =>
  Option.bind (f_X11_putInOrder N r9z.1 640 r9z.2) fun r12z =>
  some (sp_unlike, sp_number, sp_partsKept, sp_partsNumber, wh_powers, r9z.1, wh_told, a_prime, a_times, a_parts, a_base, a_power, a_powerSum, r12z)
set_option maxRecDepth 100000 in
set_option maxHeartbeats 4000000 in
theorem k_X9_seek_46 {p : Program} {l : Launch} {e : Env} {s : State} {m : MethodId} {args : Array Value} {below : List Frame} {meth : Method} {c : Code} {dC : Nat → ClassId} {dI : Nat → Nat → Nat} {cyI cyJ cyZ : ClassId} {A : Nat → Prop} (C0 : mC p s m meth c args cX9_seek none 3 RX9 wsX9_seek (gK dC dI cyI cyJ cyZ) A) (N : Nat) (res : Int32 × Int64 × Int32 × Int64 × Int32 × Int32 × Int64 × (Nat → Int64) × (Nat → Int32) × (Nat → Int64) × (Nat → Int64) × (Nat → Int64) × (Nat → Int64) × (Nat → Int64)) (q_Pr : Nat) (q_Sp : Nat) (q_Wh : Nat) (q_list : Nat) (q_prime : Nat) (q_times : Nat) (q_parts : Nat) (q_base : Nat) (q_power : Nat) (q_powerSum : Nat) (q_found : Nat) (q_Sc : Nat) (v1 : Int64) (sp_unlike : Int32) (sp_number : Int64) (sp_partsKept : Int32) (sp_partsNumber : Int64) (wh_powers : Int32) (wh_many : Int32) (wh_told : Int64) (n_list : Nat) (a_list : Nat → Int32) (a_prime : Nat → Int64) (a_times : Nat → Int32) (a_parts : Nat → Int64) (a_base : Nat → Int64) (a_power : Nat → Int64) (a_powerSum : Nat → Int64) (a_found : Nat → Int64) (h : j_X9_seek_46 N v1 sp_unlike sp_number sp_partsKept sp_partsNumber wh_powers wh_many wh_told a_prime a_times a_parts a_base a_power a_powerSum a_found = some res) : ∀ (H : Heap) (locs : List Loc), va_P (dC, dI) vwCl (wd28 cyI cyJ cyZ q_Pr q_Sp q_Wh q_list q_prime q_times q_parts q_base q_power q_powerSum q_found q_Sc sp_unlike sp_number sp_partsKept sp_partsNumber wh_powers wh_many wh_told n_list a_list a_prime a_times a_parts a_base a_power a_powerSum a_found) H → va_D A (wd28 cyI cyJ cyZ q_Pr q_Sp q_Wh q_list q_prime q_times q_parts q_base q_power q_powerSum q_found q_Sc sp_unlike sp_number sp_partsKept sp_partsNumber wh_powers wh_many wh_told n_list a_list a_prime a_times a_parts a_base a_power a_powerSum a_found) → va_S A s.heap H locs → ∀ (ls : Array Slot), lv_has ls 3 [(0, .ref q_Wh), (1, .long v1)] → W p l e (headSpec wsX9_seek rm_X9_seek).room s m args below meth c H locs 0 0 (MQ below (va_Qv (fun (_ : Unit) => True) (bW dC dI (fun (u : Unit) => (wd28 cyI cyJ cyZ q_Pr q_Sp q_Wh q_list q_prime q_times q_parts q_base q_power q_powerSum q_found q_Sc res.1 res.2.1 res.2.2.1 res.2.2.2.1 res.2.2.2.2.1 res.2.2.2.2.2.1 res.2.2.2.2.2.2.1 n_list a_list res.2.2.2.2.2.2.2.1 res.2.2.2.2.2.2.2.2.1 res.2.2.2.2.2.2.2.2.2.1 res.2.2.2.2.2.2.2.2.2.2.1 res.2.2.2.2.2.2.2.2.2.2.2.1 res.2.2.2.2.2.2.2.2.2.2.2.2.1 res.2.2.2.2.2.2.2.2.2.2.2.2.2)) A) A) args s 0 0 A) (F0 m 46 ls []) := by
  obtain ⟨hx, hb, hr, hml, hown, hts, hlocks, hG, hA⟩ := id C0
  have hK := hG.1
  intro H locs hP hD hS ls hl
  unfold j_X9_seek_46 at h
  refine lv_aload_n hx hb dX9_seek_46 rfl (lv_at hl 0 rfl) ?_
  refine lv_lload_n hx hb dX9_seek_47 rfl (lv_at hl 1 rfl) ?_
  refine lv_lconst (v := (1 : Int64)) hx hb dX9_seek_48 (by decide) ?_
  refine lv_iconst (v := (0 : Int32)) hx hb dX9_seek_49 (by decide) ?_
  refine lv_iconst (v := (0 : Int32)) hx hb dX9_seek_50 (by decide) ?_
  obtain ⟨r9z, hr9z, h⟩ := xb_at h
  have hPc := hP.sub (ws' := (wd27 cyI cyJ cyZ q_Wh q_base q_power q_powerSum q_found q_Sp q_Pr wh_powers wh_many wh_told a_base a_power a_powerSum a_found)) [2, 7, 8, 9, 10] rfl
  have hDc := hD.sub (ws' := (wd27 cyI cyJ cyZ q_Wh q_base q_power q_powerSum q_found q_Sp q_Pr wh_powers wh_many wh_told a_base a_power a_powerSum a_found)) [2, 7, 8, 9, 10] (by decide) rfl
  refine cal_v [2, 7, 8, 9, 10] [0, 1, 3, 4, 5, 6] (va_runV (As := [.long v1, .long (1 : Int64), .int (0 : Int32), .int (0 : Int32)]) (rest := []) ⟨hx, hb, hml, hown, hts⟩ (c_X9_join l dC dI cyI cyJ cyZ N 14 r9z H.size q_Wh q_base q_power q_powerSum q_found q_Sp q_Pr v1 (1 : Int64) (0 : Int32) (0 : Int32) wh_powers wh_many wh_told a_base a_power a_powerSum a_found hr9z) (cwV 4 hts gX9_seek_X9_join rfl rfl rfl ⟨rfl, hd_X9_join⟩ ⟨Nat.le_of_ble_eq_true rfl, Nat.le_of_ble_eq_true rfl⟩) ⟨pC.blind, va_recv hK hPc (ci := 9) (q0 := 0) rfl rfl, pC.pre hPc hG hDc⟩ rfl rfl hl.1 rfl (lv_room (Nat.le_of_ble_eq_true rfl)) dX9_seek_51 ⟨Nat.zero_le _, Nat.zero_le _⟩) hP hD hS hA rfl rfl rfl (by decide) (fun u10z H locs _ hP hD hS => ?_)
  have hP : va_P (dC, dI) vwCl (wd28 cyI cyJ cyZ q_Pr q_Sp q_Wh q_list q_prime q_times q_parts q_base q_power q_powerSum q_found q_Sc sp_unlike sp_number sp_partsKept sp_partsNumber wh_powers r9z.1 wh_told n_list a_list a_prime a_times a_parts a_base a_power a_powerSum r9z.2) H := hP.sub [0, 1, 6, 2, 3, 4, 5, 7, 8, 9, 10] rfl
  have hD : va_D A (wd28 cyI cyJ cyZ q_Pr q_Sp q_Wh q_list q_prime q_times q_parts q_base q_power q_powerSum q_found q_Sc sp_unlike sp_number sp_partsKept sp_partsNumber wh_powers r9z.1 wh_told n_list a_list a_prime a_times a_parts a_base a_power a_powerSum r9z.2) := hD.sub [0, 1, 6, 2, 3, 4, 5, 7, 8, 9, 10] (by decide) rfl
  refine lv_aload_n hx hb dX9_seek_54 rfl (lv_at hl 0 rfl) ?_
  refine va_get (D := (dC, dI)) (ci := 9) (v := .ref q_found) (C := RX9) (T := TX9) (N := 9) hx hb hts iw_X9_seek_X9 hown hK hP 2 rfl rfl 6 (by decide) (hts (.fieldLink RX9 25 "GoesInto$Whole" "found" "[J") (List.mem_of_getElem? (i := 4) rfl)) (fun _ h9 => h9) rfl dX9_seek_55 ?_
  refine lv_aload_n hx hb dX9_seek_58 rfl (lv_at hl 0 rfl) ?_
  refine va_get (D := (dC, dI)) (ci := 9) (v := .int r9z.1) (C := RX9) (T := TX9) (N := 9) hx hb hts iw_X9_seek_X9 hown hK hP 2 rfl rfl 7 (by decide) (hts (.fieldLink RX9 28 "GoesInto$Whole" "many" "I") (List.mem_of_getElem? (i := 3) rfl)) (fun _ h9 => h9) rfl dX9_seek_59 ?_
  obtain ⟨r12z, hr12z, h⟩ := xb_at h
  have hPc := hP.sub (ws' := (wd4 cyI cyJ cyZ q_found 640 r9z.2)) [10] rfl
  have hDc := hD.sub (ws' := (wd4 cyI cyJ cyZ q_found 640 r9z.2)) [10] (by decide) rfl
  refine cal_v [10] [0, 1, 2, 3, 4, 5, 6, 7, 8, 9] (va_runSN (As := [.ref q_found, .int r9z.1]) (rest := []) ⟨hx, hb, hml, hown, hts⟩ (c_X11_putInOrder l dC dI cyI cyJ cyZ N r12z H.size q_found r9z.1 640 r9z.2 hr12z) ⟨va_cnB (host := "GoesInto") 2 hts gX9_seek_X11_putInOrder_n57 rfl rfl rfl hG.2.2.2.2.2.2.2.2.2.2.2.2.2.2.2.1 (hts (.initialized RX11) (List.mem_of_getElem? (i := 47) rfl)) hd_X11_putInOrder ⟨Nat.le_of_ble_eq_true rfl, Nat.le_of_ble_eq_true rfl⟩, (hts (.static yX11_putInOrder) (List.mem_of_getElem? (i := 46) rfl)), trivial⟩ ⟨pC.blind, pC.pre hPc hG hDc⟩ rfl rfl hl.1 rfl (lv_room (Nat.le_of_ble_eq_true rfl)) dX9_seek_62 ⟨Nat.zero_le _, Nat.zero_le _⟩) hP hD hS hA rfl rfl rfl (by decide) (fun u13z H locs _ hP hD hS => ?_)
  have hP : va_P (dC, dI) vwCl (wd28 cyI cyJ cyZ q_Pr q_Sp q_Wh q_list q_prime q_times q_parts q_base q_power q_powerSum q_found q_Sc sp_unlike sp_number sp_partsKept sp_partsNumber wh_powers r9z.1 wh_told n_list a_list a_prime a_times a_parts a_base a_power a_powerSum r12z) H := hP.sub [0, 1, 2, 3, 4, 5, 6, 7, 8, 9, 10] rfl
  have hD : va_D A (wd28 cyI cyJ cyZ q_Pr q_Sp q_Wh q_list q_prime q_times q_parts q_base q_power q_powerSum q_found q_Sc sp_unlike sp_number sp_partsKept sp_partsNumber wh_powers r9z.1 wh_told n_list a_list a_prime a_times a_parts a_base a_power a_powerSum r12z) := hD.sub [0, 1, 2, 3, 4, 5, 6, 7, 8, 9, 10] (by decide) rfl
  obtain rfl := Option.some.inj h
  exact W.vret hx hb hr (fun t ht hW => ⟨⟨(), rfl, trivial, by rw [ht]; exact hP, hD⟩, hS.F ht⟩) hS.2.2 dX9_seek_65 hlocks
def f_X9_seek (N : Nat) (v1 : Int64) (sp_unlike : Int32) (sp_number : Int64) (sp_partsKept : Int32) (sp_partsNumber : Int64) (wh_powers : Int32) (wh_many : Int32) (wh_told : Int64) (n_list : Nat) (a_list : Nat → Int32) (a_prime : Nat → Int64) (a_times : Nat → Int32) (a_parts : Nat → Int64) (a_base : Nat → Int64) (a_power : Nat → Int64) (a_powerSum : Nat → Int64) (a_found : Nat → Int64) : Option (Int32 × Int64 × Int32 × Int64 × Int32 × Int32 × Int64 × (Nat → Int64) × (Nat → Int32) × (Nat → Int64) × (Nat → Int64) × (Nat → Int64) × (Nat → Int64) × (Nat → Int64)) :=
  if v1 = wh_told then
    some (sp_unlike, sp_number, sp_partsKept, sp_partsNumber, wh_powers, wh_many, wh_told, a_prime, a_times, a_parts, a_base, a_power, a_powerSum, a_found)
  else
    Option.bind (f_X9_keepPrimes N v1 sp_unlike sp_number sp_partsKept sp_partsNumber (0 : Int32) n_list a_list a_prime a_times a_parts a_base a_power a_powerSum) fun r2z =>
    Option.bind (f_X9_keepPowers N v1 r2z.2.2.2.2.1 n_list a_list r2z.2.2.2.2.2.2.2.2.1 r2z.2.2.2.2.2.2.2.2.2.1 r2z.2.2.2.2.2.2.2.2.2.2) fun r5z =>
    if v1 = (1 : Int64) then
      Option.bind (f_X9_keepFound N (1 : Int64) (0 : Int32) a_found) fun r15z =>
      j_X9_seek_46 N v1 r2z.1 r2z.2.1 r2z.2.2.1 r2z.2.2.2.1 r5z.1 r15z.1 v1 r2z.2.2.2.2.2.1 r2z.2.2.2.2.2.2.1 r2z.2.2.2.2.2.2.2.1 r5z.2.1 r5z.2.2.1 r5z.2.2.2 r15z.2
    else
      j_X9_seek_46 N v1 r2z.1 r2z.2.1 r2z.2.2.1 r2z.2.2.2.1 r5z.1 (0 : Int32) v1 r2z.2.2.2.2.2.1 r2z.2.2.2.2.2.2.1 r2z.2.2.2.2.2.2.2.1 r5z.2.1 r5z.2.2.1 r5z.2.2.2 a_found
set_option maxRecDepth 100000 in
set_option maxHeartbeats 4000000 in
theorem k_X9_seek_0 {p : Program} {l : Launch} {e : Env} {s : State} {m : MethodId} {args : Array Value} {below : List Frame} {meth : Method} {c : Code} {dC : Nat → ClassId} {dI : Nat → Nat → Nat} {cyI cyJ cyZ : ClassId} {A : Nat → Prop} (C0 : mC p s m meth c args cX9_seek none 3 RX9 wsX9_seek (gK dC dI cyI cyJ cyZ) A) (N : Nat) (res : Int32 × Int64 × Int32 × Int64 × Int32 × Int32 × Int64 × (Nat → Int64) × (Nat → Int32) × (Nat → Int64) × (Nat → Int64) × (Nat → Int64) × (Nat → Int64) × (Nat → Int64)) (q_Pr : Nat) (q_Sp : Nat) (q_Wh : Nat) (q_list : Nat) (q_prime : Nat) (q_times : Nat) (q_parts : Nat) (q_base : Nat) (q_power : Nat) (q_powerSum : Nat) (q_found : Nat) (q_Sc : Nat) (v1 : Int64) (sp_unlike : Int32) (sp_number : Int64) (sp_partsKept : Int32) (sp_partsNumber : Int64) (wh_powers : Int32) (wh_many : Int32) (wh_told : Int64) (n_list : Nat) (a_list : Nat → Int32) (a_prime : Nat → Int64) (a_times : Nat → Int32) (a_parts : Nat → Int64) (a_base : Nat → Int64) (a_power : Nat → Int64) (a_powerSum : Nat → Int64) (a_found : Nat → Int64) (h : f_X9_seek N v1 sp_unlike sp_number sp_partsKept sp_partsNumber wh_powers wh_many wh_told n_list a_list a_prime a_times a_parts a_base a_power a_powerSum a_found = some res) : ∀ (H : Heap) (locs : List Loc), va_P (dC, dI) vwCl (wd28 cyI cyJ cyZ q_Pr q_Sp q_Wh q_list q_prime q_times q_parts q_base q_power q_powerSum q_found q_Sc sp_unlike sp_number sp_partsKept sp_partsNumber wh_powers wh_many wh_told n_list a_list a_prime a_times a_parts a_base a_power a_powerSum a_found) H → va_D A (wd28 cyI cyJ cyZ q_Pr q_Sp q_Wh q_list q_prime q_times q_parts q_base q_power q_powerSum q_found q_Sc sp_unlike sp_number sp_partsKept sp_partsNumber wh_powers wh_many wh_told n_list a_list a_prime a_times a_parts a_base a_power a_powerSum a_found) → va_S A s.heap H locs → ∀ (ls : Array Slot), lv_has ls 3 [(0, .ref q_Wh), (1, .long v1)] → W p l e (headSpec wsX9_seek rm_X9_seek).room s m args below meth c H locs 0 0 (MQ below (va_Qv (fun (_ : Unit) => True) (bW dC dI (fun (u : Unit) => (wd28 cyI cyJ cyZ q_Pr q_Sp q_Wh q_list q_prime q_times q_parts q_base q_power q_powerSum q_found q_Sc res.1 res.2.1 res.2.2.1 res.2.2.2.1 res.2.2.2.2.1 res.2.2.2.2.2.1 res.2.2.2.2.2.2.1 n_list a_list res.2.2.2.2.2.2.2.1 res.2.2.2.2.2.2.2.2.1 res.2.2.2.2.2.2.2.2.2.1 res.2.2.2.2.2.2.2.2.2.2.1 res.2.2.2.2.2.2.2.2.2.2.2.1 res.2.2.2.2.2.2.2.2.2.2.2.2.1 res.2.2.2.2.2.2.2.2.2.2.2.2.2)) A) A) args s 0 0 A) (F0 m 0 ls []) := by
  obtain ⟨hx, hb, hr, hml, hown, hts, hlocks, hG, hA⟩ := id C0
  have hK := hG.1
  intro H locs hP hD hS ls hl
  unfold f_X9_seek at h
  refine lv_lload_n hx hb dX9_seek_0 rfl (lv_at hl 1 rfl) ?_
  refine lv_aload_n hx hb dX9_seek_1 rfl (lv_at hl 0 rfl) ?_
  refine va_get (D := (dC, dI)) (ci := 9) (v := .long wh_told) (C := RX9) (T := TX9) (N := 9) hx hb hts iw_X9_seek_X9 hown hK hP 2 rfl rfl 8 (by decide) (hts (.fieldLink RX9 31 "GoesInto$Whole" "told" "J") (List.mem_of_getElem? (i := 1) rfl)) (fun _ h9 => h9) rfl dX9_seek_2 ?_
  refine W.lcmp hx hb dX9_seek_5 ?_
  refine lv_if_ne (tgt := 10) hx hb dX9_seek_6 (by decide) (fun c1z => ?_) (fun c1z => ?_)
  · have c1z := fun z => c1z ((lg_cmp_eq _ _).mpr z)
    have h := xf h c1z
    refine lv_aload_n hx hb dX9_seek_10 rfl (lv_at hl 0 rfl) ?_
    refine lv_lload_n hx hb dX9_seek_11 rfl (lv_at hl 1 rfl) ?_
    refine va_put (D := (dC, dI)) (ci := 9) (v := .long v1) (ty := .long) (C := RX9) (T := TX9) (N := 9) hx hb hts iw_X9_seek_X9 tyX9 tyX9_ok nmX9 hown hK hP hD hS 2 rfl rfl 8 (by decide) (hts (.fieldLink RX9 31 "GoesInto$Whole" "told" "J") (List.mem_of_getElem? (i := 1) rfl)) (fun _ h9 => h9) rfl (tyX9_ok 8 (by decide)) rfl rfl (Nat.le_of_ble_eq_true rfl) dX9_seek_12 (fun H locs hP hD hS => ?_)
    have hP : va_P (dC, dI) vwCl (wd28 cyI cyJ cyZ q_Pr q_Sp q_Wh q_list q_prime q_times q_parts q_base q_power q_powerSum q_found q_Sc sp_unlike sp_number sp_partsKept sp_partsNumber wh_powers wh_many v1 n_list a_list a_prime a_times a_parts a_base a_power a_powerSum a_found) H := hP
    have hD : va_D A (wd28 cyI cyJ cyZ q_Pr q_Sp q_Wh q_list q_prime q_times q_parts q_base q_power q_powerSum q_found q_Sc sp_unlike sp_number sp_partsKept sp_partsNumber wh_powers wh_many v1 n_list a_list a_prime a_times a_parts a_base a_power a_powerSum a_found) := hD
    refine lv_aload_n hx hb dX9_seek_15 rfl (lv_at hl 0 rfl) ?_
    refine lv_iconst (v := (0 : Int32)) hx hb dX9_seek_16 (by decide) ?_
    refine va_put (D := (dC, dI)) (ci := 9) (v := .int (0 : Int32)) (ty := .int) (C := RX9) (T := TX9) (N := 9) hx hb hts iw_X9_seek_X9 tyX9 tyX9_ok nmX9 hown hK hP hD hS 2 rfl rfl 5 (by decide) (hts (.fieldLink RX9 21 "GoesInto$Whole" "powers" "I") (List.mem_of_getElem? (i := 2) rfl)) (fun _ h9 => h9) rfl (tyX9_ok 5 (by decide)) rfl rfl (Nat.le_of_ble_eq_true rfl) dX9_seek_17 (fun H locs hP hD hS => ?_)
    have hP : va_P (dC, dI) vwCl (wd28 cyI cyJ cyZ q_Pr q_Sp q_Wh q_list q_prime q_times q_parts q_base q_power q_powerSum q_found q_Sc sp_unlike sp_number sp_partsKept sp_partsNumber (0 : Int32) wh_many v1 n_list a_list a_prime a_times a_parts a_base a_power a_powerSum a_found) H := hP
    have hD : va_D A (wd28 cyI cyJ cyZ q_Pr q_Sp q_Wh q_list q_prime q_times q_parts q_base q_power q_powerSum q_found q_Sc sp_unlike sp_number sp_partsKept sp_partsNumber (0 : Int32) wh_many v1 n_list a_list a_prime a_times a_parts a_base a_power a_powerSum a_found) := hD
    refine lv_aload_n hx hb dX9_seek_20 rfl (lv_at hl 0 rfl) ?_
    refine lv_iconst (v := (0 : Int32)) hx hb dX9_seek_21 (by decide) ?_
    refine va_put (D := (dC, dI)) (ci := 9) (v := .int (0 : Int32)) (ty := .int) (C := RX9) (T := TX9) (N := 9) hx hb hts iw_X9_seek_X9 tyX9 tyX9_ok nmX9 hown hK hP hD hS 2 rfl rfl 7 (by decide) (hts (.fieldLink RX9 28 "GoesInto$Whole" "many" "I") (List.mem_of_getElem? (i := 3) rfl)) (fun _ h9 => h9) rfl (tyX9_ok 7 (by decide)) rfl rfl (Nat.le_of_ble_eq_true rfl) dX9_seek_22 (fun H locs hP hD hS => ?_)
    have hP : va_P (dC, dI) vwCl (wd28 cyI cyJ cyZ q_Pr q_Sp q_Wh q_list q_prime q_times q_parts q_base q_power q_powerSum q_found q_Sc sp_unlike sp_number sp_partsKept sp_partsNumber (0 : Int32) (0 : Int32) v1 n_list a_list a_prime a_times a_parts a_base a_power a_powerSum a_found) H := hP
    have hD : va_D A (wd28 cyI cyJ cyZ q_Pr q_Sp q_Wh q_list q_prime q_times q_parts q_base q_power q_powerSum q_found q_Sc sp_unlike sp_number sp_partsKept sp_partsNumber (0 : Int32) (0 : Int32) v1 n_list a_list a_prime a_times a_parts a_base a_power a_powerSum a_found) := hD
    refine lv_aload_n hx hb dX9_seek_25 rfl (lv_at hl 0 rfl) ?_
    refine lv_lload_n hx hb dX9_seek_26 rfl (lv_at hl 1 rfl) ?_
    obtain ⟨r2z, hr2z, h⟩ := xb_at h
    have hPc := hP.sub (ws' := (wd25 cyI cyJ cyZ q_Pr q_Sp q_Wh q_list q_prime q_times q_parts q_base q_power q_powerSum q_Sc q_found sp_unlike sp_number sp_partsKept sp_partsNumber (0 : Int32) (0 : Int32) v1 n_list a_list a_prime a_times a_parts a_base a_power a_powerSum)) [0, 1, 2, 3, 4, 5, 6, 7, 8, 9] rfl
    have hDc := hD.sub (ws' := (wd25 cyI cyJ cyZ q_Pr q_Sp q_Wh q_list q_prime q_times q_parts q_base q_power q_powerSum q_Sc q_found sp_unlike sp_number sp_partsKept sp_partsNumber (0 : Int32) (0 : Int32) v1 n_list a_list a_prime a_times a_parts a_base a_power a_powerSum)) [0, 1, 2, 3, 4, 5, 6, 7, 8, 9] (by decide) rfl
    refine cal_v [0, 1, 2, 3, 4, 5, 6, 7, 8, 9] [10] (va_runV (As := [.long v1]) (rest := []) ⟨hx, hb, hml, hown, hts⟩ (c_X9_keepPrimes l dC dI cyI cyJ cyZ N r2z H.size q_Pr q_Sp q_Wh q_list q_prime q_times q_parts q_base q_power q_powerSum q_Sc q_found v1 sp_unlike sp_number sp_partsKept sp_partsNumber (0 : Int32) (0 : Int32) v1 n_list a_list a_prime a_times a_parts a_base a_power a_powerSum hr2z) (cwV 1 hts gX9_seek_X9_keepPrimes rfl rfl rfl ⟨rfl, hd_X9_keepPrimes⟩ ⟨Nat.le_of_ble_eq_true rfl, Nat.le_of_ble_eq_true rfl⟩) ⟨pC.blind, va_recv hK hPc (ci := 9) (q0 := 2) rfl rfl, pC.pre hPc hG hDc⟩ rfl rfl hl.1 rfl (lv_room (Nat.le_of_ble_eq_true rfl)) dX9_seek_27 ⟨Nat.zero_le _, Nat.zero_le _⟩) hP hD hS hA rfl rfl rfl (by decide) (fun u3z H locs _ hP hD hS => ?_)
    have hP : va_P (dC, dI) vwCl (wd28 cyI cyJ cyZ q_Pr q_Sp q_Wh q_list q_prime q_times q_parts q_base q_power q_powerSum q_found q_Sc r2z.1 r2z.2.1 r2z.2.2.1 r2z.2.2.2.1 r2z.2.2.2.2.1 (0 : Int32) v1 n_list a_list r2z.2.2.2.2.2.1 r2z.2.2.2.2.2.2.1 r2z.2.2.2.2.2.2.2.1 r2z.2.2.2.2.2.2.2.2.1 r2z.2.2.2.2.2.2.2.2.2.1 r2z.2.2.2.2.2.2.2.2.2.2 a_found) H := hP.sub [1, 2, 3, 4, 5, 6, 7, 8, 9, 10, 0] rfl
    have hD : va_D A (wd28 cyI cyJ cyZ q_Pr q_Sp q_Wh q_list q_prime q_times q_parts q_base q_power q_powerSum q_found q_Sc r2z.1 r2z.2.1 r2z.2.2.1 r2z.2.2.2.1 r2z.2.2.2.2.1 (0 : Int32) v1 n_list a_list r2z.2.2.2.2.2.1 r2z.2.2.2.2.2.2.1 r2z.2.2.2.2.2.2.2.1 r2z.2.2.2.2.2.2.2.2.1 r2z.2.2.2.2.2.2.2.2.2.1 r2z.2.2.2.2.2.2.2.2.2.2 a_found) := hD.sub [1, 2, 3, 4, 5, 6, 7, 8, 9, 10, 0] (by decide) rfl
    refine lv_aload_n hx hb dX9_seek_30 rfl (lv_at hl 0 rfl) ?_
    refine lv_lload_n hx hb dX9_seek_31 rfl (lv_at hl 1 rfl) ?_
    obtain ⟨r5z, hr5z, h⟩ := xb_at h
    have hPc := hP.sub (ws' := (wd26 cyI cyJ cyZ q_Pr q_Wh q_list q_base q_power q_powerSum q_Sc q_Sp q_found r2z.2.2.2.2.1 (0 : Int32) v1 n_list a_list r2z.2.2.2.2.2.2.2.2.1 r2z.2.2.2.2.2.2.2.2.2.1 r2z.2.2.2.2.2.2.2.2.2.2)) [0, 2, 3, 7, 8, 9] rfl
    have hDc := hD.sub (ws' := (wd26 cyI cyJ cyZ q_Pr q_Wh q_list q_base q_power q_powerSum q_Sc q_Sp q_found r2z.2.2.2.2.1 (0 : Int32) v1 n_list a_list r2z.2.2.2.2.2.2.2.2.1 r2z.2.2.2.2.2.2.2.2.2.1 r2z.2.2.2.2.2.2.2.2.2.2)) [0, 2, 3, 7, 8, 9] (by decide) rfl
    refine cal_v [0, 2, 3, 7, 8, 9] [1, 4, 5, 6, 10] (va_runV (As := [.long v1]) (rest := []) ⟨hx, hb, hml, hown, hts⟩ (c_X9_keepPowers l dC dI cyI cyJ cyZ N r5z H.size q_Pr q_Wh q_list q_base q_power q_powerSum q_Sc q_Sp q_found v1 r2z.2.2.2.2.1 (0 : Int32) v1 n_list a_list r2z.2.2.2.2.2.2.2.2.1 r2z.2.2.2.2.2.2.2.2.2.1 r2z.2.2.2.2.2.2.2.2.2.2 hr5z) (cwV 1 hts gX9_seek_X9_keepPowers rfl rfl rfl ⟨rfl, hd_X9_keepPowers⟩ ⟨Nat.le_of_ble_eq_true rfl, Nat.le_of_ble_eq_true rfl⟩) ⟨pC.blind, va_recv hK hPc (ci := 9) (q0 := 1) rfl rfl, pC.pre hPc hG hDc⟩ rfl rfl hl.1 rfl (lv_room (Nat.le_of_ble_eq_true rfl)) dX9_seek_32 ⟨Nat.zero_le _, Nat.zero_le _⟩) hP hD hS hA rfl rfl rfl (by decide) (fun u6z H locs _ hP hD hS => ?_)
    have hP : va_P (dC, dI) vwCl (wd28 cyI cyJ cyZ q_Pr q_Sp q_Wh q_list q_prime q_times q_parts q_base q_power q_powerSum q_found q_Sc r2z.1 r2z.2.1 r2z.2.2.1 r2z.2.2.2.1 r5z.1 (0 : Int32) v1 n_list a_list r2z.2.2.2.2.2.1 r2z.2.2.2.2.2.2.1 r2z.2.2.2.2.2.2.2.1 r5z.2.1 r5z.2.2.1 r5z.2.2.2 a_found) H := hP.sub [5, 0, 6, 7, 1, 2, 3, 8, 9, 10, 4] rfl
    have hD : va_D A (wd28 cyI cyJ cyZ q_Pr q_Sp q_Wh q_list q_prime q_times q_parts q_base q_power q_powerSum q_found q_Sc r2z.1 r2z.2.1 r2z.2.2.1 r2z.2.2.2.1 r5z.1 (0 : Int32) v1 n_list a_list r2z.2.2.2.2.2.1 r2z.2.2.2.2.2.2.1 r2z.2.2.2.2.2.2.2.1 r5z.2.1 r5z.2.2.1 r5z.2.2.2 a_found) := hD.sub [5, 0, 6, 7, 1, 2, 3, 8, 9, 10, 4] (by decide) rfl
    refine lv_lload_n hx hb dX9_seek_35 rfl (lv_at hl 1 rfl) ?_
    refine lv_lconst (v := (1 : Int64)) hx hb dX9_seek_36 (by decide) ?_
    refine W.lcmp hx hb dX9_seek_37 ?_
    refine lv_if_ne (tgt := 46) hx hb dX9_seek_38 (by decide) (fun c8z => ?_) (fun c8z => ?_)
    · have c8z := fun z => c8z ((lg_cmp_eq _ _).mpr z)
      have h := xf h c8z
      exact k_X9_seek_46 C0 N res q_Pr q_Sp q_Wh q_list q_prime q_times q_parts q_base q_power q_powerSum q_found q_Sc v1 r2z.1 r2z.2.1 r2z.2.2.1 r2z.2.2.2.1 r5z.1 (0 : Int32) v1 n_list a_list r2z.2.2.2.2.2.1 r2z.2.2.2.2.2.2.1 r2z.2.2.2.2.2.2.2.1 r5z.2.1 r5z.2.2.1 r5z.2.2.2 a_found  h _ _ hP hD hS _ (lv_sub hl [0, 1] rfl)
    · have c8z := (lg_cmp_eq _ _).mp c8z
      have h := xt h c8z
      refine lv_aload_n hx hb dX9_seek_41 rfl (lv_at hl 0 rfl) ?_
      refine lv_lconst (v := (1 : Int64)) hx hb dX9_seek_42 (by decide) ?_
      obtain ⟨r15z, hr15z, h⟩ := xb_at h
      have hPc := hP.sub (ws' := (wd22 cyI cyJ cyZ q_Wh q_found q_Sp q_Pr q_base q_power q_powerSum r5z.1 (0 : Int32) v1 a_found)) [2, 10] rfl
      have hDc := hD.sub (ws' := (wd22 cyI cyJ cyZ q_Wh q_found q_Sp q_Pr q_base q_power q_powerSum r5z.1 (0 : Int32) v1 a_found)) [2, 10] (by decide) rfl
      refine cal_v [2, 10] [0, 1, 3, 4, 5, 6, 7, 8, 9] (va_runV (As := [.long (1 : Int64)]) (rest := []) ⟨hx, hb, hml, hown, hts⟩ (c_X9_keepFound l dC dI cyI cyJ cyZ N r15z H.size q_Wh q_found q_Sp q_Pr q_base q_power q_powerSum (1 : Int64) r5z.1 (0 : Int32) v1 a_found hr15z) (cwV 1 hts gX9_seek_X9_keepFound rfl rfl rfl ⟨rfl, hd_X9_keepFound⟩ ⟨Nat.le_of_ble_eq_true rfl, Nat.le_of_ble_eq_true rfl⟩) ⟨pC.blind, va_recv hK hPc (ci := 9) (q0 := 0) rfl rfl, pC.pre hPc hG hDc⟩ rfl rfl hl.1 rfl (lv_room (Nat.le_of_ble_eq_true rfl)) dX9_seek_43 ⟨Nat.zero_le _, Nat.zero_le _⟩) hP hD hS hA rfl rfl rfl (by decide) (fun u16z H locs _ hP hD hS => ?_)
      have hP : va_P (dC, dI) vwCl (wd28 cyI cyJ cyZ q_Pr q_Sp q_Wh q_list q_prime q_times q_parts q_base q_power q_powerSum q_found q_Sc r2z.1 r2z.2.1 r2z.2.2.1 r2z.2.2.2.1 r5z.1 r15z.1 v1 n_list a_list r2z.2.2.2.2.2.1 r2z.2.2.2.2.2.2.1 r2z.2.2.2.2.2.2.2.1 r5z.2.1 r5z.2.2.1 r5z.2.2.2 r15z.2) H := hP.sub [0, 1, 9, 2, 3, 4, 5, 6, 7, 8, 10] rfl
      have hD : va_D A (wd28 cyI cyJ cyZ q_Pr q_Sp q_Wh q_list q_prime q_times q_parts q_base q_power q_powerSum q_found q_Sc r2z.1 r2z.2.1 r2z.2.2.1 r2z.2.2.2.1 r5z.1 r15z.1 v1 n_list a_list r2z.2.2.2.2.2.1 r2z.2.2.2.2.2.2.1 r2z.2.2.2.2.2.2.2.1 r5z.2.1 r5z.2.2.1 r5z.2.2.2 r15z.2) := hD.sub [0, 1, 9, 2, 3, 4, 5, 6, 7, 8, 10] (by decide) rfl
      exact k_X9_seek_46 C0 N res q_Pr q_Sp q_Wh q_list q_prime q_times q_parts q_base q_power q_powerSum q_found q_Sc v1 r2z.1 r2z.2.1 r2z.2.2.1 r2z.2.2.2.1 r5z.1 r15z.1 v1 n_list a_list r2z.2.2.2.2.2.1 r2z.2.2.2.2.2.2.1 r2z.2.2.2.2.2.2.2.1 r5z.2.1 r5z.2.2.1 r5z.2.2.2 r15z.2  h _ _ hP hD hS _ (lv_sub hl [0, 1] rfl)
  · have c1z := (lg_cmp_eq _ _).mp c1z
    have h := xt h c1z
    obtain rfl := Option.some.inj h
    exact W.vret hx hb hr (fun t ht hW => ⟨⟨(), rfl, trivial, by rw [ht]; exact hP, hD⟩, hS.F ht⟩) hS.2.2 dX9_seek_9 hlocks
set_option maxRecDepth 100000 in
set_option maxHeartbeats 4000000 in
theorem c_X9_seek (l : Launch) (dC : Nat → ClassId) (dI : Nat → Nat → Nat) (cyI cyJ cyZ : ClassId) (N : Nat) (res : Int32 × Int64 × Int32 × Int64 × Int32 × Int32 × Int64 × (Nat → Int64) × (Nat → Int32) × (Nat → Int64) × (Nat → Int64) × (Nat → Int64) × (Nat → Int64) × (Nat → Int64)) (sz : Nat) (q_Pr : Nat) (q_Sp : Nat) (q_Wh : Nat) (q_list : Nat) (q_prime : Nat) (q_times : Nat) (q_parts : Nat) (q_base : Nat) (q_power : Nat) (q_powerSum : Nat) (q_found : Nat) (q_Sc : Nat) (v1 : Int64) (sp_unlike : Int32) (sp_number : Int64) (sp_partsKept : Int32) (sp_partsNumber : Int64) (wh_powers : Int32) (wh_many : Int32) (wh_told : Int64) (n_list : Nat) (a_list : Nat → Int32) (a_prime : Nat → Int64) (a_times : Nat → Int32) (a_parts : Nat → Int64) (a_base : Nat → Int64) (a_power : Nat → Int64) (a_powerSum : Nat → Int64) (a_found : Nat → Int64) (h : f_X9_seek N v1 sp_unlike sp_number sp_partsKept sp_partsNumber wh_powers wh_many wh_told n_list a_list a_prime a_times a_parts a_base a_power a_powerSum a_found = some res) : Met l yX9_seek wsX9_seek rm_X9_seek (pC dC dI cyI cyJ cyZ [.ref q_Wh, .long v1] sz (wd28 cyI cyJ cyZ q_Pr q_Sp q_Wh q_list q_prime q_times q_parts q_base q_power q_powerSum q_found q_Sc sp_unlike sp_number sp_partsKept sp_partsNumber wh_powers wh_many wh_told n_list a_list a_prime a_times a_parts a_base a_power a_powerSum a_found)) (va_Qv (fun (_ : Unit) => True) (bW dC dI (fun (u : Unit) => (wd28 cyI cyJ cyZ q_Pr q_Sp q_Wh q_list q_prime q_times q_parts q_base q_power q_powerSum q_found q_Sc res.1 res.2.1 res.2.2.1 res.2.2.2.1 res.2.2.2.2.1 res.2.2.2.2.2.1 res.2.2.2.2.2.2.1 n_list a_list res.2.2.2.2.2.2.2.1 res.2.2.2.2.2.2.2.2.1 res.2.2.2.2.2.2.2.2.2.1 res.2.2.2.2.2.2.2.2.2.2.1 res.2.2.2.2.2.2.2.2.2.2.2.1 res.2.2.2.2.2.2.2.2.2.2.2.2.1 res.2.2.2.2.2.2.2.2.2.2.2.2.2)) (va_A (wd28 cyI cyJ cyZ q_Pr q_Sp q_Wh q_list q_prime q_times q_parts q_base q_power q_powerSum q_found q_Sc sp_unlike sp_number sp_partsKept sp_partsNumber wh_powers wh_many wh_told n_list a_list a_prime a_times a_parts a_base a_power a_powerSum a_found) sz)) (va_A (wd28 cyI cyJ cyZ q_Pr q_Sp q_Wh q_list q_prime q_times q_parts q_base q_power q_powerSum q_found q_Sc sp_unlike sp_number sp_partsKept sp_partsNumber wh_powers wh_many wh_told n_list a_list a_prime a_times a_parts a_base a_power a_powerSum a_found) sz)) 0 0 (va_A (wd28 cyI cyJ cyZ q_Pr q_Sp q_Wh q_list q_prime q_times q_parts q_base q_power q_powerSum q_found q_Sc sp_unlike sp_number sp_partsKept sp_partsNumber wh_powers wh_many wh_told n_list a_list a_prime a_times a_parts a_base a_power a_powerSum a_found) sz) := by
  refine Met.ofW (cc := cX9_seek) (maxL := 3) (ret := none) (by decide) rfl ?_
  intro p e s m args below meth c s₁ B hml hv
  obtain ⟨rfl, hsz, hP, hG, hD0⟩ := hv
  have hx := B.exec
  have hb := B.bytes
  have hr := B.returns
  have hts := atoms_spec (ws := wsX9_seek) B.pre
  have hown : s.vm.findClass RX9 = some m.cls := findClass_of_methodNamed B.named
  have hlocks := B.notSynchronized
  subst hsz
  have hD := hD0.self (sz := s.heap.size)
  generalize hAe : va_A (wd28 cyI cyJ cyZ q_Pr q_Sp q_Wh q_list q_prime q_times q_parts q_base q_power q_powerSum q_found q_Sc sp_unlike sp_number sp_partsKept sp_partsNumber wh_powers wh_many wh_told n_list a_list a_prime a_times a_parts a_base a_power a_powerSum a_found) s.heap.size = A at hD ⊢
  have hA : ∀ q : Nat, s.heap.size ≤ q → A q := fun q h => by rw [← hAe]; exact Or.inr h
  have hS : va_S A s.heap s.heap [] := va_S.rf
  have hl := lv_entry ([.ref q_Wh, .long v1]) (n := 3) (Nat.le_of_ble_eq_true rfl)
  rw [lg_entry_eq]
  generalize (lg_sl ([.ref q_Wh, .long v1]) ++ List.replicate (3 - (lg_sl ([.ref q_Wh, .long v1])).length) Slot.unset).toArray = ls at hl ⊢
  have hl : lv_has ls 3 [(0, .ref q_Wh), (1, .long v1)] := hl
  exact k_X9_seek_0 ⟨hx, hb, hr, hml, hown, hts, hlocks, hG, hA⟩ N res q_Pr q_Sp q_Wh q_list q_prime q_times q_parts q_base q_power q_powerSum q_found q_Sc v1 sp_unlike sp_number sp_partsKept sp_partsNumber wh_powers wh_many wh_told n_list a_list a_prime a_times a_parts a_base a_power a_powerSum a_found  h _ _ hP hD hS _ hl
