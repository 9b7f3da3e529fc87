/-- the cells Ws -/
abbrev wd36 (cyI cyJ cyZ : ClassId) (q_Ws : Nat) (q_Tr : Nat) (q_Pk2 : Nat) (q_text : Nat) (wi_length : Int32) : va_W := [(q_Ws, .inr (10, [.ref q_Tr, .ref q_Pk2, .ref q_text, .int wi_length]))]
abbrev rm_X10_clear : Room := { frames := 0, cells := 0, slots := 0, locals := 0 }
theorem hd_X10_clear : yX10_clear.cls ≠ "java/lang/invoke/MethodHandle" ∧ yX10_clear.cls ≠ "java/lang/invoke/VarHandle" ∧ (parseMethodDescriptor yX10_clear.desc).map (fun d => d.parameters.length) = some 0 := by decide +kernel
theorem iw_X10_clear_X10 : ∀ w ∈ wsX100, w ∈ wsX10_clear := List.forall_mem_cons.mpr ⟨List.mem_of_getElem? (i := 2) rfl, List.forall_mem_cons.mpr ⟨List.mem_of_getElem? (i := 3) rfl, List.forall_mem_cons.mpr ⟨List.mem_of_getElem? (i := 4) rfl, List.forall_mem_cons.mpr ⟨List.mem_of_getElem? (i := 5) rfl, fun _ h => absurd h List.not_mem_nil⟩⟩⟩⟩
def f_X10_clear (N : Nat) (wi_length : Int32) : Option (Int32 × Int32) :=
  some (wi_length, (0 : Int32))
set_option maxRecDepth 100000 in
set_option maxHeartbeats 4000000 in
theorem k_X10_clear_0 {p : Program} {l : Launch} {e : Env} {s : State} {m : MethodId} {args : Array Value} {below : List Frame} {meth : Method} {c : Code} {dC : Nat → ClassId} {dI : Nat → Nat → Nat} {cyI cyJ cyZ : ClassId} {A : Nat → Prop} (C0 : mC p s m meth c args cX10_clear (some .int) 2 RX10 wsX10_clear (gK dC dI cyI cyJ cyZ) A) (N : Nat) (res : Int32 × Int32) (q_Ws : Nat) (q_Tr : Nat) (q_Pk2 : Nat) (q_text : Nat) (wi_length : Int32) (h : f_X10_clear N wi_length = some res) : ∀ (H : Heap) (locs : List Loc), va_P (dC, dI) vwCl (wd36 cyI cyJ cyZ q_Ws q_Tr q_Pk2 q_text wi_length) H → va_D A (wd36 cyI cyJ cyZ q_Ws q_Tr q_Pk2 q_text wi_length) → va_S A s.heap H locs → ∀ (ls : Array Slot), lv_has ls 2 [(0, .ref q_Ws)] → W p l e (headSpec wsX10_clear rm_X10_clear).room s m args below meth c H locs 0 0 (MQ below (va_Qi (fun (r : Int32) (_ : Unit) => r = res.1) (bW dC dI (fun (u : Unit) => (wd36 cyI cyJ cyZ q_Ws q_Tr q_Pk2 q_text res.2)) A) A) args s 0 0 A) (F0 m 0 ls []) := by
  obtain ⟨hx, hb, hr, hml, hown, hts, hlocks, hG, hA⟩ := id C0
  have hK := hG.1
  intro H locs hP hD hS ls hl
  unfold f_X10_clear at h
  refine lv_aload_n hx hb dX10_clear_0 rfl (lv_at hl 0 rfl) ?_
  refine va_get (D := (dC, dI)) (ci := 10) (v := .int wi_length) (C := RX10) (T := TX10) (N := 4) hx hb hts iw_X10_clear_X10 hown hK hP 0 rfl rfl 3 (by decide) (hts (.fieldLink RX10 22 "GoesInto$Wishes" "length" "I") (List.mem_of_getElem? (i := 1) rfl)) (fun _ h9 => h9) rfl dX10_clear_1 ?_
  refine lv_istore_n (lv' := [(1, .int wi_length), (0, .ref q_Ws)]) hx hb dX10_clear_4 rfl hl (by decide) rfl (fun ls hl => ?_)
  refine lv_aload_n hx hb dX10_clear_5 rfl (lv_at hl 1 rfl) ?_
  refine lv_iconst (v := (0 : Int32)) hx hb dX10_clear_6 (by decide) ?_
  refine va_put (D := (dC, dI)) (ci := 10) (v := .int (0 : Int32)) (ty := .int) (C := RX10) (T := TX10) (N := 4) hx hb hts iw_X10_clear_X10 tyX10 tyX10_ok nmX10 hown hK hP hD hS 0 rfl rfl 3 (by decide) (hts (.fieldLink RX10 22 "GoesInto$Wishes" "length" "I") (List.mem_of_getElem? (i := 1) rfl)) (fun _ h9 => h9) rfl (tyX10_ok 3 (by decide)) rfl rfl (Nat.le_of_ble_eq_true rfl) dX10_clear_7 (fun H locs hP hD hS => ?_)
  have hP : va_P (dC, dI) vwCl (wd36 cyI cyJ cyZ q_Ws q_Tr q_Pk2 q_text (0 : Int32)) H := hP
  have hD : va_D A (wd36 cyI cyJ cyZ q_Ws q_Tr q_Pk2 q_text (0 : Int32)) := hD
  refine lv_iload_n hx hb dX10_clear_10 rfl (lv_at hl 0 rfl) ?_
  obtain rfl := Option.some.inj h
  exact W.iret (v := wi_length) hx hb hr (fun t ht hW => ⟨⟨_, (), rfl, rfl, by rw [ht]; exact hP, hD⟩, hS.F ht⟩) hS.2.2 dX10_clear_11 hlocks
set_option maxRecDepth 100000 in
set_option maxHeartbeats 4000000 in
theorem c_X10_clear (l : Launch) (dC : Nat → ClassId) (dI : Nat → Nat → Nat) (cyI cyJ cyZ : ClassId) (N : Nat) (res : Int32 × Int32) (sz : Nat) (q_Ws : Nat) (q_Tr : Nat) (q_Pk2 : Nat) (q_text : Nat) (wi_length : Int32) (h : f_X10_clear N  wi_length = some res) : Met l yX10_clear wsX10_clear rm_X10_clear (pC dC dI cyI cyJ cyZ [.ref q_Ws] sz (wd36 cyI cyJ cyZ q_Ws q_Tr q_Pk2 q_text wi_length)) (va_Qi (fun (r : Int32) (_ : Unit) => r = res.1) (bW dC dI (fun (u : Unit) => (wd36 cyI cyJ cyZ q_Ws q_Tr q_Pk2 q_text res.2)) (va_A (wd36 cyI cyJ cyZ q_Ws q_Tr q_Pk2 q_text wi_length) sz)) (va_A (wd36 cyI cyJ cyZ q_Ws q_Tr q_Pk2 q_text wi_length) sz)) 0 0 (va_A (wd36 cyI cyJ cyZ q_Ws q_Tr q_Pk2 q_text wi_length) sz) := by
  refine Met.ofW (cc := cX10_clear) (maxL := 2) (ret := (some .int)) (by decide) rfl ?_
  intro p e s m args below meth c s₁ B hml hv
  obtain ⟨rfl, hsz, hP, hG, hD0⟩ := hv
  have hx := B.exec
  have hb := B.bytes
  have hr := B.returns
  have hts := atoms_spec (ws := wsX10_clear) B.pre
  have hown : s.vm.findClass RX10 = some m.cls := findClass_of_methodNamed B.named
  have hlocks := B.notSynchronized
  subst hsz
  have hD := hD0.self (sz := s.heap.size)
  generalize hAe : va_A (wd36 cyI cyJ cyZ q_Ws q_Tr q_Pk2 q_text wi_length) s.heap.size = A at hD ⊢
  have hA : ∀ q : Nat, s.heap.size ≤ q → A q := fun q h => by rw [← hAe]; exact Or.inr h
  have hS : va_S A s.heap s.heap [] := va_S.rf
  have hl := lv_entry ([.ref q_Ws]) (n := 2) (Nat.le_of_ble_eq_true rfl)
  rw [lg_entry_eq]
  generalize (lg_sl ([.ref q_Ws]) ++ List.replicate (2 - (lg_sl ([.ref q_Ws])).length) Slot.unset).toArray = ls at hl ⊢
  have hl : lv_has ls 2 [(0, .ref q_Ws)] := hl
  exact k_X10_clear_0 ⟨hx, hb, hr, hml, hown, hts, hlocks, hG, hA⟩ N res q_Ws q_Tr q_Pk2 q_text wi_length  h _ _ hP hD hS _ hl
/-- the cells  -/
abbrev wd37 (cyI cyJ cyZ : ClassId)  : va_W := []
abbrev rm_X10_looks : Room := { frames := 0, cells := 0, slots := 0, locals := 0 }
theorem hd_X10_looks : yX10_looks.cls ≠ "java/lang/invoke/MethodHandle" ∧ yX10_looks.cls ≠ "java/lang/invoke/VarHandle" ∧ (parseMethodDescriptor yX10_looks.desc).map (fun d => d.parameters.length) = some 1 := by decide +kernel
def f_X10_looks (N : Nat) (v0 : Int32) : Option (Int32) :=
  if v0 ≤ (-1 : Int32) then
    some (0 : Int32)
  else
    if (19 : Int32) ≤ v0 then
      some (0 : Int32)
    else
      some (1 : Int32)
set_option maxRecDepth 100000 in
set_option maxHeartbeats 4000000 in
theorem k_X10_looks_0 {p : Program} {l : Launch} {e : Env} {s : State} {m : MethodId} {args : Array Value} {below : List Frame} {meth : Method} {c : Code} {dC : Nat → ClassId} {dI : Nat → Nat → Nat} {cyI cyJ cyZ : ClassId} {A : Nat → Prop} (C0 : mC p s m meth c args cX10_looks (some .boolean) 1 RX10 wsX10_looks (gK dC dI cyI cyJ cyZ) A) (N : Nat) (res : Int32) (v0 : Int32) (h : f_X10_looks N v0 = some res) : ∀ (H : Heap) (locs : List Loc), va_P (dC, dI) vwCl (wd37 cyI cyJ cyZ) H → va_D A (wd37 cyI cyJ cyZ) → va_S A s.heap H locs → ∀ (ls : Array Slot), lv_has ls 1 [(0, .int v0)] → W p l e (headSpec wsX10_looks rm_X10_looks).room s m args below meth c H locs 0 0 (MQ below (va_Qi (fun (r : Int32) (_ : Unit) => r = res) (bW dC dI (fun (u : Unit) => (wd37 cyI cyJ cyZ)) A) A) args s 0 0 A) (F0 m 0 ls []) := by
  obtain ⟨hx, hb, hr, hml, hown, hts, hlocks, hG, hA⟩ := id C0
  have hK := hG.1
  intro H locs hP hD hS ls hl
  unfold f_X10_looks at h
  refine lv_iload_n hx hb dX10_looks_0 rfl (lv_at hl 0 rfl) ?_
  refine lv_iconst (v := (-1 : Int32)) hx hb dX10_looks_1 (by decide) ?_
  refine lv_icmp_le (tgt := 15) hx hb dX10_looks_2 (by decide) (fun c1z => ?_) (fun c1z => ?_)
  · have h := xt h c1z
    refine lv_iconst (v := (0 : Int32)) hx hb dX10_looks_15 (by decide) ?_
    obtain rfl := Option.some.inj h
    exact W.zret (v := (0 : Int32)) hx hb hr rfl (fun t ht hW => ⟨⟨_, (), rfl, rfl, by rw [ht]; exact hP, hD⟩, hS.F ht⟩) hS.2.2 dX10_looks_16 hlocks
  · have h := xf h c1z
    refine lv_iload_n hx hb dX10_looks_5 rfl (lv_at hl 0 rfl) ?_
    refine lv_bipush (v := (19 : Int32)) hx hb dX10_looks_6 (by decide) ?_
    refine lv_icmp_ge (tgt := 15) hx hb dX10_looks_8 (by decide) (fun c2z => ?_) (fun c2z => ?_)
    · have h := xt h c2z
      refine lv_iconst (v := (0 : Int32)) hx hb dX10_looks_15 (by decide) ?_
      obtain rfl := Option.some.inj h
      exact W.zret (v := (0 : Int32)) hx hb hr rfl (fun t ht hW => ⟨⟨_, (), rfl, rfl, by rw [ht]; exact hP, hD⟩, hS.F ht⟩) hS.2.2 dX10_looks_16 hlocks
    · have h := xf h c2z
      refine lv_iconst (v := (1 : Int32)) hx hb dX10_looks_11 (by decide) ?_
      refine lv_goto (tgt := 16) hx hb dX10_looks_12 (by decide) ?_
      obtain rfl := Option.some.inj h
      exact W.zret (v := (1 : Int32)) hx hb hr rfl (fun t ht hW => ⟨⟨_, (), rfl, rfl, by rw [ht]; exact hP, hD⟩, hS.F ht⟩) hS.2.2 dX10_looks_16 hlocks
set_option maxRecDepth 100000 in
set_option maxHeartbeats 4000000 in
theorem c_X10_looks (l : Launch) (dC : Nat → ClassId) (dI : Nat → Nat → Nat) (cyI cyJ cyZ : ClassId) (N : Nat) (res : Int32) (sz : Nat) (v0 : Int32) (h : f_X10_looks N v0  = some res) : Met l yX10_looks wsX10_looks rm_X10_looks (pC dC dI cyI cyJ cyZ [.int v0] sz (wd37 cyI cyJ cyZ)) (va_Qi (fun (r : Int32) (_ : Unit) => r = res) (bW dC dI (fun (u : Unit) => (wd37 cyI cyJ cyZ)) (va_A (wd37 cyI cyJ cyZ) sz)) (va_A (wd37 cyI cyJ cyZ) sz)) 0 0 (va_A (wd37 cyI cyJ cyZ) sz) := by
  refine Met.ofW (cc := cX10_looks) (maxL := 1) (ret := (some .boolean)) (by decide) rfl ?_
  intro p e s m args below meth c s₁ B hml hv
  obtain ⟨rfl, hsz, hP, hG, hD0⟩ := hv
  have hx := B.exec
  have hb := B.bytes
  have hr := B.returns
  have hts := atoms_spec (ws := wsX10_looks) B.pre
  have hown : s.vm.findClass RX10 = some m.cls := findClass_of_methodNamed B.named
  have hlocks := B.notSynchronized
  subst hsz
  have hD := hD0.self (sz := s.heap.size)
  generalize hAe : va_A (wd37 cyI cyJ cyZ) s.heap.size = A at hD ⊢
  have hA : ∀ q : Nat, s.heap.size ≤ q → A q := fun q h => by rw [← hAe]; exact Or.inr h
  have hS : va_S A s.heap s.heap [] := va_S.rf
  have hl := lv_entry ([.int v0]) (n := 1) (Nat.le_of_ble_eq_true rfl)
  rw [lg_entry_eq]
  generalize (lg_sl ([.int v0]) ++ List.replicate (1 - (lg_sl ([.int v0])).length) Slot.unset).toArray = ls at hl ⊢
  have hl : lv_has ls 1 [(0, .int v0)] := hl
  exact k_X10_looks_0 ⟨hx, hb, hr, hml, hown, hts, hlocks, hG, hA⟩ N res  v0  h _ _ hP hD hS _ hl
/-- the cells Ws, text -/
abbrev wd38 (cyI cyJ cyZ : ClassId) (q_Ws : Nat) (q_text : Nat) (q_Tr : Nat) (q_Pk2 : Nat) (wi_length : Int32) (a_text : Nat → Int32) : va_W := [(q_Ws, .inr (10, [.ref q_Tr, .ref q_Pk2, .ref q_text, .int wi_length])), (q_text, .inl (cyI, 60, .inl a_text))]
abbrev rm_X10_howManyLook : Room := { frames := 1, cells := 0, slots := 0, locals := 20 }
theorem hd_X10_howManyLook : yX10_howManyLook.cls ≠ "java/lang/invoke/MethodHandle" ∧ yX10_howManyLook.cls ≠ "java/lang/invoke/VarHandle" ∧ (parseMethodDescriptor yX10_howManyLook.desc).map (fun d => d.parameters.length) = some 0 := by decide +kernel
theorem iw_X10_howManyLook_X10 : ∀ w ∈ wsX100, w ∈ wsX10_howManyLook := List.forall_mem_cons.mpr ⟨List.mem_of_getElem? (i := 7) rfl, List.forall_mem_cons.mpr ⟨List.mem_of_getElem? (i := 8) rfl, List.forall_mem_cons.mpr ⟨List.mem_of_getElem? (i := 9) rfl, List.forall_mem_cons.mpr ⟨List.mem_of_getElem? (i := 10) rfl, fun _ h => absurd h List.not_mem_nil⟩⟩⟩⟩
def s_X10_howManyLook_4 (N : Nat) (wi_length : Int32) (a_text : Nat → Int32) (k_4 : (Int32 × Int32) → Option (Int32)) (v1 : Int32) (v2 : Int32) : Option (Int32) :=
  if wi_length ≤ v2 then
    some v1
  else
    if (60 : Int32) ≤ v2 then
      some v1
    else
      if v2 < 0 ∨ 60 ≤ v2.toNatClampNeg then
        none
      else
        Option.bind (f_X10_looks N (a_text v2.toNatClampNeg)) fun r4z =>
        if r4z = 0 then
          xl (v2 + (1 : Int32)) fun y8z =>
          k_4 (v1, y8z)
        else
          xl (v1 + (1 : Int32)) fun y9z =>
          xl (v2 + (1 : Int32)) fun y10z =>
          k_4 (y9z, y10z)
def l_X10_howManyLook_4 (N : Nat) (wi_length : Int32) (a_text : Nat → Int32) (n : Nat) (z : Int32 × Int32) : Option (Int32) := lp (fun k z => s_X10_howManyLook_4 N wi_length a_text k z.1 z.2) n z
set_option maxRecDepth 100000 in
set_option maxHeartbeats 4000000 in
theorem k_X10_howManyLook_4 {p : Program} {l : Launch} {e : Env} {s : State} {m : MethodId} {args : Array Value} {below : List Frame} {meth : Method} {c : Code} {dC : Nat → ClassId} {dI : Nat → Nat → Nat} {cyI cyJ cyZ : ClassId} {A : Nat → Prop} (C0 : mC p s m meth c args cX10_howManyLook (some .int) 3 RX10 wsX10_howManyLook (gK dC dI cyI cyJ cyZ) A) (N : Nat) (res : Int32) (q_Ws : Nat) (q_text : Nat) (q_Tr : Nat) (q_Pk2 : Nat) (wi_length : Int32) (a_text : Nat → Int32) : ∀ (n : Nat) (v1 : Int32) (v2 : Int32), l_X10_howManyLook_4 N wi_length a_text n (v1, v2) = some res → ∀ (H : Heap) (locs : List Loc), va_P (dC, dI) vwCl (wd38 cyI cyJ cyZ q_Ws q_text q_Tr q_Pk2 wi_length a_text) H → va_D A (wd38 cyI cyJ cyZ q_Ws q_text q_Tr q_Pk2 wi_length a_text) → va_S A s.heap H locs → ∀ (ls : Array Slot), lv_has ls 3 [(0, .ref q_Ws), (1, .int v1), (2, .int v2)] → W p l e (headSpec wsX10_howManyLook rm_X10_howManyLook).room s m args below meth c H locs 0 0 (MQ below (va_Qi (fun (r : Int32) (_ : Unit) => r = res) (bW dC dI (fun (u : Unit) => (wd38 cyI cyJ cyZ q_Ws q_text q_Tr q_Pk2 wi_length a_text)) A) A) args s 0 0 A) (F0 m 4 ls []) := by
  obtain ⟨hx, hb, hr, hml, hown, hts, hlocks, hG, hA⟩ := id C0
  have hK := hG.1
  intro n
  induction n with
  | zero =>
    intro v1 v2 h
    cases h
  | succ n ih =>
    intro v1 v2 h H locs hP hD hS ls hl
    have h : s_X10_howManyLook_4 N wi_length a_text (l_X10_howManyLook_4 N wi_length a_text n) v1 v2 = some res := h
    unfold s_X10_howManyLook_4 at h
    refine lv_iload_n hx hb dX10_howManyLook_4 rfl (lv_at hl 2 rfl) ?_
    refine lv_aload_n hx hb dX10_howManyLook_5 rfl (lv_at hl 0 rfl) ?_
    refine va_get (D := (dC, dI)) (ci := 10) (v := .int wi_length) (C := RX10) (T := TX10) (N := 4) hx hb hts iw_X10_howManyLook_X10 hown hK hP 0 rfl rfl 3 (by decide) (hts (.fieldLink RX10 22 "GoesInto$Wishes" "length" "I") (List.mem_of_getElem? (i := 1) rfl)) (fun _ h9 => h9) rfl dX10_howManyLook_6 ?_
    refine lv_icmp_ge (tgt := 39) hx hb dX10_howManyLook_9 (by decide) (fun c1z => ?_) (fun c1z => ?_)
    · have h := xt h c1z
      refine lv_iload_n hx hb dX10_howManyLook_39 rfl (lv_at hl 1 rfl) ?_
      obtain rfl := Option.some.inj h
      exact W.iret (v := v1) hx hb hr (fun t ht hW => ⟨⟨_, (), rfl, rfl, by rw [ht]; exact hP, hD⟩, hS.F ht⟩) hS.2.2 dX10_howManyLook_40 hlocks
    · have h := xf h c1z
      refine lv_iload_n hx hb dX10_howManyLook_12 rfl (lv_at hl 2 rfl) ?_
      refine lv_bipush (v := (60 : Int32)) hx hb dX10_howManyLook_13 (by decide) ?_
      refine lv_icmp_ge (tgt := 39) hx hb dX10_howManyLook_15 (by decide) (fun c2z => ?_) (fun c2z => ?_)
      · have h := xt h c2z
        refine lv_iload_n hx hb dX10_howManyLook_39 rfl (lv_at hl 1 rfl) ?_
        obtain rfl := Option.some.inj h
        exact W.iret (v := v1) hx hb hr (fun t ht hW => ⟨⟨_, (), rfl, rfl, by rw [ht]; exact hP, hD⟩, hS.F ht⟩) hS.2.2 dX10_howManyLook_40 hlocks
      · have h := xf h c2z
        refine lv_aload_n hx hb dX10_howManyLook_18 rfl (lv_at hl 0 rfl) ?_
        refine va_get (D := (dC, dI)) (ci := 10) (v := .ref q_text) (C := RX10) (T := TX10) (N := 4) hx hb hts iw_X10_howManyLook_X10 hown hK hP 0 rfl rfl 2 (by decide) (hts (.fieldLink RX10 18 "GoesInto$Wishes" "text" "[I") (List.mem_of_getElem? (i := 2) rfl)) (fun _ h9 => h9) rfl dX10_howManyLook_19 ?_
        refine lv_iload_n hx hb dX10_howManyLook_22 rfl (lv_at hl 2 rfl) ?_
        obtain ⟨b3z, h⟩ := xn h
        refine va_iald hx hb hK hP 1 0 rfl rfl b3z dX10_howManyLook_23 ?_
        obtain ⟨r4z, hr4z, h⟩ := xb_at h
        have hPc := hP.sub (ws' := (wd37 cyI cyJ cyZ)) [] rfl
        have hDc := hD.sub (ws' := (wd37 cyI cyJ cyZ)) [] (by decide) rfl
        refine cal_i [] [0, 1] (va_runS (As := [.int (a_text v2.toNatClampNeg)]) (rest := []) ⟨hx, hb, hml, hown, hts⟩ (c_X10_looks l dC dI cyI cyJ cyZ N r4z H.size  (a_text v2.toNatClampNeg)  hr4z) (va_cwS 1 hts gX10_howManyLook_X10_looks rfl rfl rfl hd_X10_looks ⟨Nat.le_of_ble_eq_true rfl, Nat.le_of_ble_eq_true rfl⟩) ⟨pC.blind, pC.pre hPc hG hDc⟩ rfl rfl hl.1 rfl (lv_room (Nat.le_of_ble_eq_true rfl)) dX10_howManyLook_24 ⟨Nat.zero_le _, Nat.zero_le _⟩) hP hD hS hA rfl rfl rfl (by decide) (fun x6z u5z H locs hw hP hD hS => ?_)
        obtain rfl := hw.symm
        have hP : va_P (dC, dI) vwCl (wd38 cyI cyJ cyZ q_Ws q_text q_Tr q_Pk2 wi_length a_text) H := hP.sub [0, 1] rfl
        have hD : va_D A (wd38 cyI cyJ cyZ q_Ws q_text q_Tr q_Pk2 wi_length a_text) := hD.sub [0, 1] (by decide) rfl
        refine lv_if_eq (tgt := 33) hx hb dX10_howManyLook_27 (by decide) (fun c7z => ?_) (fun c7z => ?_)
        · have h := xt h c7z
          obtain ⟨y8z, ey8z⟩ : ∃ z : Int32, z = v2 + (1 : Int32) := ⟨_, rfl⟩
          have h := xl_at h ey8z
          refine lv_iinc (v := y8z) (lv' := [(2, .int y8z), (0, .ref q_Ws), (1, .int v1)]) hx hb dX10_howManyLook_33 hl (k := 2) rfl (by rw [ey8z]; rfl) (by decide) rfl (fun ls hl => ?_)
          refine lv_goto (tgt := 4) hx hb dX10_howManyLook_36 (by decide) ?_
          exact ih v1 y8z h _ _ hP hD hS _ (lv_sub hl [1, 2, 0] rfl)
        · have h := xf h c7z
          obtain ⟨y9z, ey9z⟩ : ∃ z : Int32, z = v1 + (1 : Int32) := ⟨_, rfl⟩
          have h := xl_at h ey9z
          refine lv_iinc (v := y9z) (lv' := [(1, .int y9z), (0, .ref q_Ws), (2, .int v2)]) hx hb dX10_howManyLook_30 hl (k := 1) rfl (by rw [ey9z]; rfl) (by decide) rfl (fun ls hl => ?_)
          obtain ⟨y10z, ey10z⟩ : ∃ z : Int32, z = v2 + (1 : Int32) := ⟨_, rfl⟩
          have h := xl_at h ey10z
          refine lv_iinc (v := y10z) (lv' := [(2, .int y10z), (1, .int y9z), (0, .ref q_Ws)]) hx hb dX10_howManyLook_33 hl (k := 2) rfl (by rw [ey10z]; rfl) (by decide) rfl (fun ls hl => ?_)
          refine lv_goto (tgt := 4) hx hb dX10_howManyLook_36 (by decide) ?_
          exact ih y9z y10z h _ _ hP hD hS _ (lv_sub hl [2, 1, 0] rfl)
def f_X10_howManyLook (N : Nat) (wi_length : Int32) (a_text : Nat → Int32) : Option (Int32) :=
  l_X10_howManyLook_4 N wi_length a_text N ((0 : Int32), (0 : Int32))
set_option maxRecDepth 100000 in
set_option maxHeartbeats 4000000 in
theorem k_X10_howManyLook_0 {p : Program} {l : Launch} {e : Env} {s : State} {m : MethodId} {args : Array Value} {below : List Frame} {meth : Method} {c : Code} {dC : Nat → ClassId} {dI : Nat → Nat → Nat} {cyI cyJ cyZ : ClassId} {A : Nat → Prop} (C0 : mC p s m meth c args cX10_howManyLook (some .int) 3 RX10 wsX10_howManyLook (gK dC dI cyI cyJ cyZ) A) (N : Nat) (res : Int32) (q_Ws : Nat) (q_text : Nat) (q_Tr : Nat) (q_Pk2 : Nat) (wi_length : Int32) (a_text : Nat → Int32) (h : f_X10_howManyLook N wi_length a_text = some res) : ∀ (H : Heap) (locs : List Loc), va_P (dC, dI) vwCl (wd38 cyI cyJ cyZ q_Ws q_text q_Tr q_Pk2 wi_length a_text) H → va_D A (wd38 cyI cyJ cyZ q_Ws q_text q_Tr q_Pk2 wi_length a_text) → va_S A s.heap H locs → ∀ (ls : Array Slot), lv_has ls 3 [(0, .ref q_Ws)] → W p l e (headSpec wsX10_howManyLook rm_X10_howManyLook).room s m args below meth c H locs 0 0 (MQ below (va_Qi (fun (r : Int32) (_ : Unit) => r = res) (bW dC dI (fun (u : Unit) => (wd38 cyI cyJ cyZ q_Ws q_text q_Tr q_Pk2 wi_length a_text)) A) A) args s 0 0 A) (F0 m 0 ls []) := by
  obtain ⟨hx, hb, hr, hml, hown, hts, hlocks, hG, hA⟩ := id C0
  have hK := hG.1
  intro H locs hP hD hS ls hl
  unfold f_X10_howManyLook at h
  refine lv_iconst (v := (0 : Int32)) hx hb dX10_howManyLook_0 (by decide) ?_
  refine lv_istore_n (lv' := [(1, .int (0 : Int32)), (0, .ref q_Ws)]) hx hb dX10_howManyLook_1 rfl hl (by decide) rfl (fun ls hl => ?_)
  refine lv_iconst (v := (0 : Int32)) hx hb dX10_howManyLook_2 (by decide) ?_
  refine lv_istore_n (lv' := [(2, .int (0 : Int32)), (1, .int (0 : Int32)), (0, .ref q_Ws)]) hx hb dX10_howManyLook_3 rfl hl (by decide) rfl (fun ls hl => ?_)
  exact k_X10_howManyLook_4 C0 N res q_Ws q_text q_Tr q_Pk2 wi_length a_text N (0 : Int32) (0 : Int32) h _ _ hP hD hS _ (lv_sub hl [2, 1, 0] rfl)
set_option maxRecDepth 100000 in
set_option maxHeartbeats 4000000 in
theorem c_X10_howManyLook (l : Launch) (dC : Nat → ClassId) (dI : Nat → Nat → Nat) (cyI cyJ cyZ : ClassId) (N : Nat) (res : Int32) (sz : Nat) (q_Ws : Nat) (q_text : Nat) (q_Tr : Nat) (q_Pk2 : Nat) (wi_length : Int32) (a_text : Nat → Int32) (h : f_X10_howManyLook N  wi_length a_text = some res) : Met l yX10_howManyLook wsX10_howManyLook rm_X10_howManyLook (pC dC dI cyI cyJ cyZ [.ref q_Ws] sz (wd38 cyI cyJ cyZ q_Ws q_text q_Tr q_Pk2 wi_length a_text)) (va_Qi (fun (r : Int32) (_ : Unit) => r = res) (bW dC dI (fun (u : Unit) => (wd38 cyI cyJ cyZ q_Ws q_text q_Tr q_Pk2 wi_length a_text)) (va_A (wd38 cyI cyJ cyZ q_Ws q_text q_Tr q_Pk2 wi_length a_text) sz)) (va_A (wd38 cyI cyJ cyZ q_Ws q_text q_Tr q_Pk2 wi_length a_text) sz)) 0 0 (va_A (wd38 cyI cyJ cyZ q_Ws q_text q_Tr q_Pk2 wi_length a_text) sz) := by
  refine Met.ofW (cc := cX10_howManyLook) (maxL := 3) (ret := (some .int)) (by decide) rfl ?_
  intro p e s m args below meth c s₁ B hml hv
  obtain ⟨rfl, hsz, hP, hG, hD0⟩ := hv
  have hx := B.exec
  have hb := B.bytes
  have hr := B.returns
  have hts := atoms_spec (ws := wsX10_howManyLook) B.pre
  have hown : s.vm.findClass RX10 = some m.cls := findClass_of_methodNamed B.named
  have hlocks := B.notSynchronized
  subst hsz
  have hD := hD0.self (sz := s.heap.size)
  generalize hAe : va_A (wd38 cyI cyJ cyZ q_Ws q_text q_Tr q_Pk2 wi_length a_text) s.heap.size = A at hD ⊢
  have hA : ∀ q : Nat, s.heap.size ≤ q → A q := fun q h => by rw [← hAe]; exact Or.inr h
  have hS : va_S A s.heap s.heap [] := va_S.rf
  have hl := lv_entry ([.ref q_Ws]) (n := 3) (Nat.le_of_ble_eq_true rfl)
  rw [lg_entry_eq]
  generalize (lg_sl ([.ref q_Ws]) ++ List.replicate (3 - (lg_sl ([.ref q_Ws])).length) Slot.unset).toArray = ls at hl ⊢
  have hl : lv_has ls 3 [(0, .ref q_Ws)] := hl
  exact k_X10_howManyLook_0 ⟨hx, hb, hr, hml, hown, hts, hlocks, hG, hA⟩ N res q_Ws q_text q_Tr q_Pk2 wi_length a_text  h _ _ hP hD hS _ hl
abbrev rm_X10_firstFault : Room := { frames := 1, cells := 0, slots := 0, locals := 20 }
theorem hd_X10_firstFault : yX10_firstFault.cls ≠ "java/lang/invoke/MethodHandle" ∧ yX10_firstFault.cls ≠ "java/lang/invoke/VarHandle" ∧ (parseMethodDescriptor yX10_firstFault.desc).map (fun d => d.parameters.length) = some 0 := by decide +kernel
theorem iw_X10_firstFault_X10 : ∀ w ∈ wsX100, w ∈ wsX10_firstFault := List.forall_mem_cons.mpr ⟨List.mem_of_getElem? (i := 7) rfl, List.forall_mem_cons.mpr ⟨List.mem_of_getElem? (i := 8) rfl, List.forall_mem_cons.mpr ⟨List.mem_of_getElem? (i := 9) rfl, List.forall_mem_cons.mpr ⟨List.mem_of_getElem? (i := 10) rfl, fun _ h => absurd h List.not_mem_nil⟩⟩⟩⟩
def j_X10_firstFault_118 (N : Nat) (v1 : Int32) (wi_length : Int32) : Option (Int32) :=
  if v1 = (1 : Int32) then
    some (-4 : Int32)
  else
    some wi_length
set_option maxRecDepth 100000 in
set_option maxHeartbeats 4000000 in
theorem k_X10_firstFault_118 {p : Program} {l : Launch} {e : Env} {s : State} {m : MethodId} {args : Array Value} {below : List Frame} {meth : Method} {c : Code} {dC : Nat → ClassId} {dI : Nat → Nat → Nat} {cyI cyJ cyZ : ClassId} {A : Nat → Prop} (C0 : mC p s m meth c args cX10_firstFault (some .int) 6 RX10 wsX10_firstFault (gK dC dI cyI cyJ cyZ) A) (N : Nat) (res : Int32) (q_Ws : Nat) (q_text : Nat) (q_Tr : Nat) (q_Pk2 : Nat) (v1 : Int32) (wi_length : Int32) (a_text : Nat → Int32) (h : j_X10_firstFault_118 N v1 wi_length = some res) : ∀ (H : Heap) (locs : List Loc), va_P (dC, dI) vwCl (wd38 cyI cyJ cyZ q_Ws q_text q_Tr q_Pk2 wi_length a_text) H → va_D A (wd38 cyI cyJ cyZ q_Ws q_text q_Tr q_Pk2 wi_length a_text) → va_S A s.heap H locs → ∀ (ls : Array Slot), lv_has ls 6 [(0, .ref q_Ws), (1, .int v1)] → W p l e (headSpec wsX10_firstFault rm_X10_firstFault).room s m args below meth c H locs 0 0 (MQ below (va_Qi (fun (r : Int32) (_ : Unit) => r = res) (bW dC dI (fun (u : Unit) => (wd38 cyI cyJ cyZ q_Ws q_text q_Tr q_Pk2 wi_length a_text)) A) A) args s 0 0 A) (F0 m 118 ls []) := by
  obtain ⟨hx, hb, hr, hml, hown, hts, hlocks, hG, hA⟩ := id C0
  have hK := hG.1
  intro H locs hP hD hS ls hl
  unfold j_X10_firstFault_118 at h
  refine lv_iload_n hx hb dX10_firstFault_118 rfl (lv_at hl 1 rfl) ?_
  refine lv_iconst (v := (1 : Int32)) hx hb dX10_firstFault_119 (by decide) ?_
  refine lv_icmp_ne (tgt := 128) hx hb dX10_firstFault_120 (by decide) (fun c2z => ?_) (fun c2z => ?_)
  · have h := xf h c2z
    refine lv_aload_n hx hb dX10_firstFault_128 rfl (lv_at hl 0 rfl) ?_
    refine va_get (D := (dC, dI)) (ci := 10) (v := .int wi_length) (C := RX10) (T := TX10) (N := 4) hx hb hts iw_X10_firstFault_X10 hown hK hP 0 rfl rfl 3 (by decide) (hts (.fieldLink RX10 22 "GoesInto$Wishes" "length" "I") (List.mem_of_getElem? (i := 1) rfl)) (fun _ h9 => h9) rfl dX10_firstFault_129 ?_
    obtain rfl := Option.some.inj h
    exact W.iret (v := wi_length) hx hb hr (fun t ht hW => ⟨⟨_, (), rfl, rfl, by rw [ht]; exact hP, hD⟩, hS.F ht⟩) hS.2.2 dX10_firstFault_132 hlocks
  · have h := xt h c2z
    refine lv_bipush (v := (-4 : Int32)) hx hb dX10_firstFault_123 (by decide) ?_
    refine lv_goto (tgt := 132) hx hb dX10_firstFault_125 (by decide) ?_
    obtain rfl := Option.some.inj h
    exact W.iret (v := (-4 : Int32)) hx hb hr (fun t ht hW => ⟨⟨_, (), rfl, rfl, by rw [ht]; exact hP, hD⟩, hS.F ht⟩) hS.2.2 dX10_firstFault_132 hlocks
def j_X10_firstFault_67 (N : Nat) (k_4 : (Int32 × Int32) → Option (Int32)) (v1 : Int32) (v2 : Int32) (v3 : Int32) (v4 : Int32) (s0 : Int32) : Option (Int32) :=
  if v3 = (-1 : Int32) then
    some v2
  else
    if v1 < v4 then
      some v2
    else
      if s0 = 0 then
        Option.bind (f_X10_looks N v3) fun r18z =>
        if r18z = 0 then
          if v3 = (19 : Int32) then
            xl (v1 + (0 : Int32)) fun y25z =>
            xl (v2 + (1 : Int32)) fun y26z =>
            k_4 (y25z, y26z)
          else
            xl (v1 + (-1 : Int32)) fun y23z =>
            xl (v2 + (1 : Int32)) fun y24z =>
            k_4 (y23z, y24z)
        else
          xl (v1 + (1 : Int32)) fun y27z =>
          xl (v2 + (1 : Int32)) fun y28z =>
          k_4 (y27z, y28z)
      else
        some v2
set_option maxRecDepth 100000 in
set_option maxHeartbeats 4000000 in
theorem k_X10_firstFault_67 {p : Program} {l : Launch} {e : Env} {s : State} {m : MethodId} {args : Array Value} {below : List Frame} {meth : Method} {c : Code} {dC : Nat → ClassId} {dI : Nat → Nat → Nat} {cyI cyJ cyZ : ClassId} {A : Nat → Prop} (C0 : mC p s m meth c args cX10_firstFault (some .int) 6 RX10 wsX10_firstFault (gK dC dI cyI cyJ cyZ) A) (N : Nat) (res : Int32) (q_Ws : Nat) (q_text : Nat) (q_Tr : Nat) (q_Pk2 : Nat) (v3 : Int32) (v4 : Int32) (s0 : Int32) (wi_length : Int32) (a_text : Nat → Int32) (k_4 : (Int32 × Int32) → Option (Int32)) (hk_4 : ∀ (v1 : Int32) (v2 : Int32), k_4 (v1, v2) = some res → ∀ (H : Heap) (locs : List Loc), va_P (dC, dI) vwCl (wd38 cyI cyJ cyZ q_Ws q_text q_Tr q_Pk2 wi_length a_text) H → va_D A (wd38 cyI cyJ cyZ q_Ws q_text q_Tr q_Pk2 wi_length a_text) → va_S A s.heap H locs → ∀ (ls : Array Slot), lv_has ls 6 [(0, .ref q_Ws), (1, .int v1), (2, .int v2)] → W p l e (headSpec wsX10_firstFault rm_X10_firstFault).room s m args below meth c H locs 0 0 (MQ below (va_Qi (fun (r : Int32) (_ : Unit) => r = res) (bW dC dI (fun (u : Unit) => (wd38 cyI cyJ cyZ q_Ws q_text q_Tr q_Pk2 wi_length a_text)) A) A) args s 0 0 A) (F0 m 4 ls [])) (v1 : Int32) (v2 : Int32) (h : j_X10_firstFault_67 N k_4 v1 v2 v3 v4 s0 = some res) : ∀ (H : Heap) (locs : List Loc), va_P (dC, dI) vwCl (wd38 cyI cyJ cyZ q_Ws q_text q_Tr q_Pk2 wi_length a_text) H → va_D A (wd38 cyI cyJ cyZ q_Ws q_text q_Tr q_Pk2 wi_length a_text) → va_S A s.heap H locs → ∀ (ls : Array Slot), lv_has ls 6 [(0, .ref q_Ws), (1, .int v1), (2, .int v2), (3, .int v3), (4, .int v4)] → W p l e (headSpec wsX10_firstFault rm_X10_firstFault).room s m args below meth c H locs 0 0 (MQ below (va_Qi (fun (r : Int32) (_ : Unit) => r = res) (bW dC dI (fun (u : Unit) => (wd38 cyI cyJ cyZ q_Ws q_text q_Tr q_Pk2 wi_length a_text)) A) A) args s 0 0 A) (F0 m 67 ls [.int s0]) := by
  obtain ⟨hx, hb, hr, hml, hown, hts, hlocks, hG, hA⟩ := id C0
  have hK := hG.1
  intro H locs hP hD hS ls hl
  unfold j_X10_firstFault_67 at h
  refine lv_istore (lv' := [(5, .int s0), (0, .ref q_Ws), (1, .int v1), (2, .int v2), (3, .int v3), (4, .int v4)]) hx hb dX10_firstFault_67 hl (by decide) rfl (fun ls hl => ?_)
  refine lv_iload_n hx hb dX10_firstFault_69 rfl (lv_at hl 4 rfl) ?_
  refine lv_iconst (v := (-1 : Int32)) hx hb dX10_firstFault_70 (by decide) ?_
  refine lv_icmp_eq (tgt := 85) hx hb dX10_firstFault_71 (by decide) (fun c15z => ?_) (fun c15z => ?_)
  · have h := xt h c15z
    refine lv_iload_n hx hb dX10_firstFault_85 rfl (lv_at hl 3 rfl) ?_
    obtain rfl := Option.some.inj h
    exact W.iret (v := v2) hx hb hr (fun t ht hW => ⟨⟨_, (), rfl, rfl, by rw [ht]; exact hP, hD⟩, hS.F ht⟩) hS.2.2 dX10_firstFault_86 hlocks
  · have h := xf h c15z
    refine lv_iload_n hx hb dX10_firstFault_74 rfl (lv_at hl 2 rfl) ?_
    refine lv_iload hx hb dX10_firstFault_75 (lv_at hl 5 rfl) ?_
    refine lv_icmp_lt (tgt := 85) hx hb dX10_firstFault_77 (by decide) (fun c16z => ?_) (fun c16z => ?_)
    · have h := xt h c16z
      refine lv_iload_n hx hb dX10_firstFault_85 rfl (lv_at hl 3 rfl) ?_
      obtain rfl := Option.some.inj h
      exact W.iret (v := v2) hx hb hr (fun t ht hW => ⟨⟨_, (), rfl, rfl, by rw [ht]; exact hP, hD⟩, hS.F ht⟩) hS.2.2 dX10_firstFault_86 hlocks
    · have h := xf h c16z
      refine lv_iload hx hb dX10_firstFault_80 (lv_at hl 0 rfl) ?_
      refine lv_if_eq (tgt := 87) hx hb dX10_firstFault_82 (by decide) (fun c17z => ?_) (fun c17z => ?_)
      · have h := xt h c17z
        refine lv_iload_n hx hb dX10_firstFault_87 rfl (lv_at hl 2 rfl) ?_
        refine lv_iload_n hx hb dX10_firstFault_88 rfl (lv_at hl 4 rfl) ?_
        obtain ⟨r18z, hr18z, h⟩ := xb_at h
        have hPc := hP.sub (ws' := (wd37 cyI cyJ cyZ)) [] rfl
        have hDc := hD.sub (ws' := (wd37 cyI cyJ cyZ)) [] (by decide) rfl
        refine cal_i [] [0, 1] (va_runS (As := [.int v3]) (rest := [.int v1]) ⟨hx, hb, hml, hown, hts⟩ (c_X10_looks l dC dI cyI cyJ cyZ N r18z H.size  v3  hr18z) (va_cwS 1 hts gX10_firstFault_X10_looks rfl rfl rfl hd_X10_looks ⟨Nat.le_of_ble_eq_true rfl, Nat.le_of_ble_eq_true rfl⟩) ⟨pC.blind, pC.pre hPc hG hDc⟩ rfl rfl hl.1 rfl (lv_room (Nat.le_of_ble_eq_true rfl)) dX10_firstFault_89 ⟨Nat.zero_le _, Nat.zero_le _⟩) hP hD hS hA rfl rfl rfl (by decide) (fun x20z u19z H locs hw hP hD hS => ?_)
        obtain rfl := hw.symm
        have hP : va_P (dC, dI) vwCl (wd38 cyI cyJ cyZ q_Ws q_text q_Tr q_Pk2 wi_length a_text) H := hP.sub [0, 1] rfl
        have hD : va_D A (wd38 cyI cyJ cyZ q_Ws q_text q_Tr q_Pk2 wi_length a_text) := hD.sub [0, 1] (by decide) rfl
        refine lv_if_eq (tgt := 99) hx hb dX10_firstFault_92 (by decide) (fun c21z => ?_) (fun c21z => ?_)
        · have h := xt h c21z
          refine lv_iload_n hx hb dX10_firstFault_99 rfl (lv_at hl 4 rfl) ?_
          refine lv_bipush (v := (19 : Int32)) hx hb dX10_firstFault_100 (by decide) ?_
          refine lv_icmp_ne (tgt := 109) hx hb dX10_firstFault_102 (by decide) (fun c22z => ?_) (fun c22z => ?_)
          · have h := xf h c22z
            refine lv_iconst (v := (-1 : Int32)) hx hb dX10_firstFault_109 (by decide) ?_
            refine lv_iadd hx hb dX10_firstFault_110 ?_
            refine lv_topi (fun y23z ey23z => ?_)
            have h := xl_at h ey23z
            refine lv_istore_n (lv' := [(1, .int y23z), (5, .int s0), (0, .ref q_Ws), (2, .int v2), (3, .int v3), (4, .int v4)]) hx hb dX10_firstFault_111 rfl hl (by decide) rfl (fun ls hl => ?_)
            obtain ⟨y24z, ey24z⟩ : ∃ z : Int32, z = v2 + (1 : Int32) := ⟨_, rfl⟩
            have h := xl_at h ey24z
            refine lv_iinc (v := y24z) (lv' := [(2, .int y24z), (1, .int y23z), (5, .int s0), (0, .ref q_Ws), (3, .int v3), (4, .int v4)]) hx hb dX10_firstFault_112 hl (k := 3) rfl (by rw [ey24z]; rfl) (by decide) rfl (fun ls hl => ?_)
            refine lv_goto (tgt := 4) hx hb dX10_firstFault_115 (by decide) ?_
            exact hk_4 y23z y24z h _ _ hP hD hS _ (lv_sub hl [3, 1, 0] rfl)
          · have h := xt h c22z
            refine lv_iconst (v := (0 : Int32)) hx hb dX10_firstFault_105 (by decide) ?_
            refine lv_goto (tgt := 110) hx hb dX10_firstFault_106 (by decide) ?_
            refine lv_iadd hx hb dX10_firstFault_110 ?_
            refine lv_topi (fun y25z ey25z => ?_)
            have h := xl_at h ey25z
            refine lv_istore_n (lv' := [(1, .int y25z), (5, .int s0), (0, .ref q_Ws), (2, .int v2), (3, .int v3), (4, .int v4)]) hx hb dX10_firstFault_111 rfl hl (by decide) rfl (fun ls hl => ?_)
            obtain ⟨y26z, ey26z⟩ : ∃ z : Int32, z = v2 + (1 : Int32) := ⟨_, rfl⟩
            have h := xl_at h ey26z
            refine lv_iinc (v := y26z) (lv' := [(2, .int y26z), (1, .int y25z), (5, .int s0), (0, .ref q_Ws), (3, .int v3), (4, .int v4)]) hx hb dX10_firstFault_112 hl (k := 3) rfl (by rw [ey26z]; rfl) (by decide) rfl (fun ls hl => ?_)
            refine lv_goto (tgt := 4) hx hb dX10_firstFault_115 (by decide) ?_
            exact hk_4 y25z y26z h _ _ hP hD hS _ (lv_sub hl [3, 1, 0] rfl)
        · have h := xf h c21z
          refine lv_iconst (v := (1 : Int32)) hx hb dX10_firstFault_95 (by decide) ?_
          refine lv_goto (tgt := 110) hx hb dX10_firstFault_96 (by decide) ?_
          refine lv_iadd hx hb dX10_firstFault_110 ?_
          refine lv_topi (fun y27z ey27z => ?_)
          have h := xl_at h ey27z
          refine lv_istore_n (lv' := [(1, .int y27z), (5, .int s0), (0, .ref q_Ws), (2, .int v2), (3, .int v3), (4, .int v4)]) hx hb dX10_firstFault_111 rfl hl (by decide) rfl (fun ls hl => ?_)
          obtain ⟨y28z, ey28z⟩ : ∃ z : Int32, z = v2 + (1 : Int32) := ⟨_, rfl⟩
          have h := xl_at h ey28z
          refine lv_iinc (v := y28z) (lv' := [(2, .int y28z), (1, .int y27z), (5, .int s0), (0, .ref q_Ws), (3, .int v3), (4, .int v4)]) hx hb dX10_firstFault_112 hl (k := 3) rfl (by rw [ey28z]; rfl) (by decide) rfl (fun ls hl => ?_)
          refine lv_goto (tgt := 4) hx hb dX10_firstFault_115 (by decide) ?_
          exact hk_4 y27z y28z h _ _ hP hD hS _ (lv_sub hl [3, 1, 0] rfl)
      · have h := xf h c17z
        refine lv_iload_n hx hb dX10_firstFault_85 rfl (lv_at hl 3 rfl) ?_
        obtain rfl := Option.some.inj h
        exact W.iret (v := v2) hx hb hr (fun t ht hW => ⟨⟨_, (), rfl, rfl, by rw [ht]; exact hP, hD⟩, hS.F ht⟩) hS.2.2 dX10_firstFault_86 hlocks
def j_X10_firstFault_66 (N : Nat) (k_4 : (Int32 × Int32) → Option (Int32)) (v1 : Int32) (v2 : Int32) (v3 : Int32) (v4 : Int32) : Option (Int32) :=
  j_X10_firstFault_67 N k_4 v1 v2 v3 v4 (0 : Int32)
set_option maxRecDepth 100000 in
set_option maxHeartbeats 4000000 in
theorem k_X10_firstFault_66 {p : Program} {l : Launch} {e : Env} {s : State} {m : MethodId} {args : Array Value} {below : List Frame} {meth : Method} {c : Code} {dC : Nat → ClassId} {dI : Nat → Nat → Nat} {cyI cyJ cyZ : ClassId} {A : Nat → Prop} (C0 : mC p s m meth c args cX10_firstFault (some .int) 6 RX10 wsX10_firstFault (gK dC dI cyI cyJ cyZ) A) (N : Nat) (res : Int32) (q_Ws : Nat) (q_text : Nat) (q_Tr : Nat) (q_Pk2 : Nat) (v3 : Int32) (v4 : Int32) (wi_length : Int32) (a_text : Nat → Int32) (k_4 : (Int32 × Int32) → Option (Int32)) (hk_4 : ∀ (v1 : Int32) (v2 : Int32), k_4 (v1, v2) = some res → ∀ (H : Heap) (locs : List Loc), va_P (dC, dI) vwCl (wd38 cyI cyJ cyZ q_Ws q_text q_Tr q_Pk2 wi_length a_text) H → va_D A (wd38 cyI cyJ cyZ q_Ws q_text q_Tr q_Pk2 wi_length a_text) → va_S A s.heap H locs → ∀ (ls : Array Slot), lv_has ls 6 [(0, .ref q_Ws), (1, .int v1), (2, .int v2)] → W p l e (headSpec wsX10_firstFault rm_X10_firstFault).room s m args below meth c H locs 0 0 (MQ below (va_Qi (fun (r : Int32) (_ : Unit) => r = res) (bW dC dI (fun (u : Unit) => (wd38 cyI cyJ cyZ q_Ws q_text q_Tr q_Pk2 wi_length a_text)) A) A) args s 0 0 A) (F0 m 4 ls [])) (v1 : Int32) (v2 : Int32) (h : j_X10_firstFault_66 N k_4 v1 v2 v3 v4 = some res) : ∀ (H : Heap) (locs : List Loc), va_P (dC, dI) vwCl (wd38 cyI cyJ cyZ q_Ws q_text q_Tr q_Pk2 wi_length a_text) H → va_D A (wd38 cyI cyJ cyZ q_Ws q_text q_Tr q_Pk2 wi_length a_text) → va_S A s.heap H locs → ∀ (ls : Array Slot), lv_has ls 6 [(0, .ref q_Ws), (1, .int v1), (2, .int v2), (3, .int v3), (4, .int v4)] → W p l e (headSpec wsX10_firstFault rm_X10_firstFault).room s m args below meth c H locs 0 0 (MQ below (va_Qi (fun (r : Int32) (_ : Unit) => r = res) (bW dC dI (fun (u : Unit) => (wd38 cyI cyJ cyZ q_Ws q_text q_Tr q_Pk2 wi_length a_text)) A) A) args s 0 0 A) (F0 m 66 ls []) := by
  obtain ⟨hx, hb, hr, hml, hown, hts, hlocks, hG, hA⟩ := id C0
  have hK := hG.1
  intro H locs hP hD hS ls hl
  unfold j_X10_firstFault_66 at h
  refine lv_iconst (v := (0 : Int32)) hx hb dX10_firstFault_66 (by decide) ?_
  exact k_X10_firstFault_67 C0 N res q_Ws q_text q_Tr q_Pk2 v3 v4 (0 : Int32) wi_length a_text k_4 hk_4 v1 v2  h _ _ hP hD hS _ (lv_sub hl [0, 1, 2, 3, 4] rfl)
def j_X10_firstFault_47 (N : Nat) (k_4 : (Int32 × Int32) → Option (Int32)) (v1 : Int32) (v2 : Int32) (v3 : Int32) (s0 : Int32) : Option (Int32) :=
  Option.bind (f_X10_looks N v3) fun r11z =>
  if r11z = 0 then
    j_X10_firstFault_66 N k_4 v1 v2 v3 s0
  else
    if v1 < (8 : Int32) then
      j_X10_firstFault_66 N k_4 v1 v2 v3 s0
    else
      j_X10_firstFault_67 N k_4 v1 v2 v3 s0 (1 : Int32)
set_option maxRecDepth 100000 in
set_option maxHeartbeats 4000000 in
theorem k_X10_firstFault_47 {p : Program} {l : Launch} {e : Env} {s : State} {m : MethodId} {args : Array Value} {below : List Frame} {meth : Method} {c : Code} {dC : Nat → ClassId} {dI : Nat → Nat → Nat} {cyI cyJ cyZ : ClassId} {A : Nat → Prop} (C0 : mC p s m meth c args cX10_firstFault (some .int) 6 RX10 wsX10_firstFault (gK dC dI cyI cyJ cyZ) A) (N : Nat) (res : Int32) (q_Ws : Nat) (q_text : Nat) (q_Tr : Nat) (q_Pk2 : Nat) (v3 : Int32) (s0 : Int32) (wi_length : Int32) (a_text : Nat → Int32) (k_4 : (Int32 × Int32) → Option (Int32)) (hk_4 : ∀ (v1 : Int32) (v2 : Int32), k_4 (v1, v2) = some res → ∀ (H : Heap) (locs : List Loc), va_P (dC, dI) vwCl (wd38 cyI cyJ cyZ q_Ws q_text q_Tr q_Pk2 wi_length a_text) H → va_D A (wd38 cyI cyJ cyZ q_Ws q_text q_Tr q_Pk2 wi_length a_text) → va_S A s.heap H locs → ∀ (ls : Array Slot), lv_has ls 6 [(0, .ref q_Ws), (1, .int v1), (2, .int v2)] → W p l e (headSpec wsX10_firstFault rm_X10_firstFault).room s m args below meth c H locs 0 0 (MQ below (va_Qi (fun (r : Int32) (_ : Unit) => r = res) (bW dC dI (fun (u : Unit) => (wd38 cyI cyJ cyZ q_Ws q_text q_Tr q_Pk2 wi_length a_text)) A) A) args s 0 0 A) (F0 m 4 ls [])) (v1 : Int32) (v2 : Int32) (h : j_X10_firstFault_47 N k_4 v1 v2 v3 s0 = some res) : ∀ (H : Heap) (locs : List Loc), va_P (dC, dI) vwCl (wd38 cyI cyJ cyZ q_Ws q_text q_Tr q_Pk2 wi_length a_text) H → va_D A (wd38 cyI cyJ cyZ q_Ws q_text q_Tr q_Pk2 wi_length a_text) → va_S A s.heap H locs → ∀ (ls : Array Slot), lv_has ls 6 [(0, .ref q_Ws), (1, .int v1), (2, .int v2), (3, .int v3)] → W p l e (headSpec wsX10_firstFault rm_X10_firstFault).room s m args below meth c H locs 0 0 (MQ below (va_Qi (fun (r : Int32) (_ : Unit) => r = res) (bW dC dI (fun (u : Unit) => (wd38 cyI cyJ cyZ q_Ws q_text q_Tr q_Pk2 wi_length a_text)) A) A) args s 0 0 A) (F0 m 47 ls [.int s0]) := by
  obtain ⟨hx, hb, hr, hml, hown, hts, hlocks, hG, hA⟩ := id C0
  have hK := hG.1
  intro H locs hP hD hS ls hl
  unfold j_X10_firstFault_47 at h
  refine lv_istore (lv' := [(4, .int s0), (0, .ref q_Ws), (1, .int v1), (2, .int v2), (3, .int v3)]) hx hb dX10_firstFault_47 hl (by decide) rfl (fun ls hl => ?_)
  refine lv_iload_n hx hb dX10_firstFault_49 rfl (lv_at hl 4 rfl) ?_
  obtain ⟨r11z, hr11z, h⟩ := xb_at h
  have hPc := hP.sub (ws' := (wd37 cyI cyJ cyZ)) [] rfl
  have hDc := hD.sub (ws' := (wd37 cyI cyJ cyZ)) [] (by decide) rfl
  refine cal_i [] [0, 1] (va_runS (As := [.int v3]) (rest := []) ⟨hx, hb, hml, hown, hts⟩ (c_X10_looks l dC dI cyI cyJ cyZ N r11z H.size  v3  hr11z) (va_cwS 1 hts gX10_firstFault_X10_looks rfl rfl rfl hd_X10_looks ⟨Nat.le_of_ble_eq_true rfl, Nat.le_of_ble_eq_true rfl⟩) ⟨pC.blind, pC.pre hPc hG hDc⟩ rfl rfl hl.1 rfl (lv_room (Nat.le_of_ble_eq_true rfl)) dX10_firstFault_50 ⟨Nat.zero_le _, Nat.zero_le _⟩) hP hD hS hA rfl rfl rfl (by decide) (fun x13z u12z H locs hw hP hD hS => ?_)
  obtain rfl := hw.symm
  have hP : va_P (dC, dI) vwCl (wd38 cyI cyJ cyZ q_Ws q_text q_Tr q_Pk2 wi_length a_text) H := hP.sub [0, 1] rfl
  have hD : va_D A (wd38 cyI cyJ cyZ q_Ws q_text q_Tr q_Pk2 wi_length a_text) := hD.sub [0, 1] (by decide) rfl
  refine lv_if_eq (tgt := 66) hx hb dX10_firstFault_53 (by decide) (fun c14z => ?_) (fun c14z => ?_)
  · have h := xt h c14z
    exact k_X10_firstFault_66 C0 N res q_Ws q_text q_Tr q_Pk2 v3 s0 wi_length a_text k_4 hk_4 v1 v2  h _ _ hP hD hS _ (lv_sub hl [1, 2, 3, 4, 0] rfl)
  · have h := xf h c14z
    refine lv_iload_n hx hb dX10_firstFault_56 rfl (lv_at hl 2 rfl) ?_
    refine lv_bipush (v := (8 : Int32)) hx hb dX10_firstFault_57 (by decide) ?_
    refine lv_icmp_lt (tgt := 66) hx hb dX10_firstFault_59 (by decide) (fun c29z => ?_) (fun c29z => ?_)
    · have h := xt h c29z
      exact k_X10_firstFault_66 C0 N res q_Ws q_text q_Tr q_Pk2 v3 s0 wi_length a_text k_4 hk_4 v1 v2  h _ _ hP hD hS _ (lv_sub hl [1, 2, 3, 4, 0] rfl)
    · have h := xf h c29z
      refine lv_iconst (v := (1 : Int32)) hx hb dX10_firstFault_62 (by decide) ?_
      refine lv_goto (tgt := 67) hx hb dX10_firstFault_63 (by decide) ?_
      exact k_X10_firstFault_67 C0 N res q_Ws q_text q_Tr q_Pk2 v3 s0 (1 : Int32) wi_length a_text k_4 hk_4 v1 v2  h _ _ hP hD hS _ (lv_sub hl [1, 2, 3, 4, 0] rfl)
def s_X10_firstFault_4 (N : Nat) (wi_length : Int32) (a_text : Nat → Int32) (k_4 : (Int32 × Int32) → Option (Int32)) (v1 : Int32) (v2 : Int32) : Option (Int32) :=
  if wi_length ≤ v2 then
    j_X10_firstFault_118 N v1 wi_length
  else
    if (60 : Int32) ≤ v2 then
      j_X10_firstFault_118 N v1 wi_length
    else
      if v2 < 0 ∨ 60 ≤ v2.toNatClampNeg then
        none
      else
        xl (a_text v2.toNatClampNeg) fun y5z =>
        Option.bind (f_X10_looks N y5z) fun r6z =>
        if r6z = 0 then
          if y5z = (19 : Int32) then
            j_X10_firstFault_47 N k_4 v1 v2 y5z (1 : Int32)
          else
            j_X10_firstFault_47 N k_4 v1 v2 y5z (2 : Int32)
        else
          j_X10_firstFault_47 N k_4 v1 v2 y5z (0 : Int32)
def l_X10_firstFault_4 (N : Nat) (wi_length : Int32) (a_text : Nat → Int32) (n : Nat) (z : Int32 × Int32) : Option (Int32) := lp (fun k z => s_X10_firstFault_4 N wi_length a_text k z.1 z.2) n z
set_option maxRecDepth 100000 in
set_option maxHeartbeats 4000000 in
theorem k_X10_firstFault_4 {p : Program} {l : Launch} {e : Env} {s : State} {m : MethodId} {args : Array Value} {below : List Frame} {meth : Method} {c : Code} {dC : Nat → ClassId} {dI : Nat → Nat → Nat} {cyI cyJ cyZ : ClassId} {A : Nat → Prop} (C0 : mC p s m meth c args cX10_firstFault (some .int) 6 RX10 wsX10_firstFault (gK dC dI cyI cyJ cyZ) A) (N : Nat) (res : Int32) (q_Ws : Nat) (q_text : Nat) (q_Tr : Nat) (q_Pk2 : Nat) (wi_length : Int32) (a_text : Nat → Int32) : ∀ (n : Nat) (v1 : Int32) (v2 : Int32), l_X10_firstFault_4 N wi_length a_text n (v1, v2) = some res → ∀ (H : Heap) (locs : List Loc), va_P (dC, dI) vwCl (wd38 cyI cyJ cyZ q_Ws q_text q_Tr q_Pk2 wi_length a_text) H → va_D A (wd38 cyI cyJ cyZ q_Ws q_text q_Tr q_Pk2 wi_length a_text) → va_S A s.heap H locs → ∀ (ls : Array Slot), lv_has ls 6 [(0, .ref q_Ws), (1, .int v1), (2, .int v2)] → W p l e (headSpec wsX10_firstFault rm_X10_firstFault).room s m args below meth c H locs 0 0 (MQ below (va_Qi (fun (r : Int32) (_ : Unit) => r = res) (bW dC dI (fun (u : Unit) => (wd38 cyI cyJ cyZ q_Ws q_text q_Tr q_Pk2 wi_length a_text)) A) A) args s 0 0 A) (F0 m 4 ls []) := by
  obtain ⟨hx, hb, hr, hml, hown, hts, hlocks, hG, hA⟩ := id C0
  have hK := hG.1
  intro n
  induction n with
  | zero =>
    intro v1 v2 h
    cases h
  | succ n ih =>
    intro v1 v2 h H locs hP hD hS ls hl
    have h : s_X10_firstFault_4 N wi_length a_text (l_X10_firstFault_4 N wi_length a_text n) v1 v2 = some res := h
    unfold s_X10_firstFault_4 at h
    refine lv_iload_n hx hb dX10_firstFault_4 rfl (lv_at hl 2 rfl) ?_
    refine lv_aload_n hx hb dX10_firstFault_5 rfl (lv_at hl 0 rfl) ?_
    refine va_get (D := (dC, dI)) (ci := 10) (v := .int wi_length) (C := RX10) (T := TX10) (N := 4) hx hb hts iw_X10_firstFault_X10 hown hK hP 0 rfl rfl 3 (by decide) (hts (.fieldLink RX10 22 "GoesInto$Wishes" "length" "I") (List.mem_of_getElem? (i := 1) rfl)) (fun _ h9 => h9) rfl dX10_firstFault_6 ?_
    refine lv_icmp_ge (tgt := 118) hx hb dX10_firstFault_9 (by decide) (fun c1z => ?_) (fun c1z => ?_)
    · have h := xt h c1z
      exact k_X10_firstFault_118 C0 N res q_Ws q_text q_Tr q_Pk2 v1 wi_length a_text  h _ _ hP hD hS _ (lv_sub hl [0, 1] rfl)
    · have h := xf h c1z
      refine lv_iload_n hx hb dX10_firstFault_12 rfl (lv_at hl 2 rfl) ?_
      refine lv_bipush (v := (60 : Int32)) hx hb dX10_firstFault_13 (by decide) ?_
      refine lv_icmp_ge (tgt := 118) hx hb dX10_firstFault_15 (by decide) (fun c3z => ?_) (fun c3z => ?_)
      · have h := xt h c3z
        exact k_X10_firstFault_118 C0 N res q_Ws q_text q_Tr q_Pk2 v1 wi_length a_text  h _ _ hP hD hS _ (lv_sub hl [0, 1] rfl)
      · have h := xf h c3z
        refine lv_aload_n hx hb dX10_firstFault_18 rfl (lv_at hl 0 rfl) ?_
        refine va_get (D := (dC, dI)) (ci := 10) (v := .ref q_text) (C := RX10) (T := TX10) (N := 4) hx hb hts iw_X10_firstFault_X10 hown hK hP 0 rfl rfl 2 (by decide) (hts (.fieldLink RX10 18 "GoesInto$Wishes" "text" "[I") (List.mem_of_getElem? (i := 2) rfl)) (fun _ h9 => h9) rfl dX10_firstFault_19 ?_
        refine lv_iload_n hx hb dX10_firstFault_22 rfl (lv_at hl 2 rfl) ?_
        obtain ⟨b4z, h⟩ := xn h
        refine va_iald hx hb hK hP 1 0 rfl rfl b4z dX10_firstFault_23 ?_
        refine lv_topi (fun y5z ey5z => ?_)
        have h := xl_at h ey5z
        refine lv_istore_n (lv' := [(3, .int y5z), (0, .ref q_Ws), (1, .int v1), (2, .int v2)]) hx hb dX10_firstFault_24 rfl hl (by decide) rfl (fun ls hl => ?_)
        refine lv_iload_n hx hb dX10_firstFault_25 rfl (lv_at hl 0 rfl) ?_
        obtain ⟨r6z, hr6z, h⟩ := xb_at h
        have hPc := hP.sub (ws' := (wd37 cyI cyJ cyZ)) [] rfl
        have hDc := hD.sub (ws' := (wd37 cyI cyJ cyZ)) [] (by decide) rfl
        refine cal_i [] [0, 1] (va_runS (As := [.int y5z]) (rest := []) ⟨hx, hb, hml, hown, hts⟩ (c_X10_looks l dC dI cyI cyJ cyZ N r6z H.size  y5z  hr6z) (va_cwS 1 hts gX10_firstFault_X10_looks rfl rfl rfl hd_X10_looks ⟨Nat.le_of_ble_eq_true rfl, Nat.le_of_ble_eq_true rfl⟩) ⟨pC.blind, pC.pre hPc hG hDc⟩ rfl rfl hl.1 rfl (lv_room (Nat.le_of_ble_eq_true rfl)) dX10_firstFault_26 ⟨Nat.zero_le _, Nat.zero_le _⟩) hP hD hS hA rfl rfl rfl (by decide) (fun x8z u7z H locs hw hP hD hS => ?_)
        obtain rfl := hw.symm
        have hP : va_P (dC, dI) vwCl (wd38 cyI cyJ cyZ q_Ws q_text q_Tr q_Pk2 wi_length a_text) H := hP.sub [0, 1] rfl
        have hD : va_D A (wd38 cyI cyJ cyZ q_Ws q_text q_Tr q_Pk2 wi_length a_text) := hD.sub [0, 1] (by decide) rfl
        refine lv_if_eq (tgt := 36) hx hb dX10_firstFault_29 (by decide) (fun c9z => ?_) (fun c9z => ?_)
        · have h := xt h c9z
          refine lv_iload_n hx hb dX10_firstFault_36 rfl (lv_at hl 0 rfl) ?_
          refine lv_bipush (v := (19 : Int32)) hx hb dX10_firstFault_37 (by decide) ?_
          refine lv_icmp_ne (tgt := 46) hx hb dX10_firstFault_39 (by decide) (fun c10z => ?_) (fun c10z => ?_)
          · have h := xf h c10z
            refine lv_iconst (v := (2 : Int32)) hx hb dX10_firstFault_46 (by decide) ?_
            exact k_X10_firstFault_47 C0 N res q_Ws q_text q_Tr q_Pk2 y5z (2 : Int32) wi_length a_text _ ih v1 v2  h _ _ hP hD hS _ (lv_sub hl [1, 2, 3, 0] rfl)
          · have h := xt h c10z
            refine lv_iconst (v := (1 : Int32)) hx hb dX10_firstFault_42 (by decide) ?_
            refine lv_goto (tgt := 47) hx hb dX10_firstFault_43 (by decide) ?_
            exact k_X10_firstFault_47 C0 N res q_Ws q_text q_Tr q_Pk2 y5z (1 : Int32) wi_length a_text _ ih v1 v2  h _ _ hP hD hS _ (lv_sub hl [1, 2, 3, 0] rfl)
        · have h := xf h c9z
          refine lv_iconst (v := (0 : Int32)) hx hb dX10_firstFault_32 (by decide) ?_
          refine lv_goto (tgt := 47) hx hb dX10_firstFault_33 (by decide) ?_
          exact k_X10_firstFault_47 C0 N res q_Ws q_text q_Tr q_Pk2 y5z (0 : Int32) wi_length a_text _ ih v1 v2  h _ _ hP hD hS _ (lv_sub hl [1, 2, 3, 0] rfl)
def f_X10_firstFault (N : Nat) (wi_length : Int32) (a_text : Nat → Int32) : Option (Int32) :=
  l_X10_firstFault_4 N wi_length a_text N ((0 : Int32), (0 : Int32))
set_option maxRecDepth 100000 in
set_option maxHeartbeats 4000000 in
theorem k_X10_firstFault_0 {p : Program} {l : Launch} {e : Env} {s : State} {m : MethodId} {args : Array Value} {below : List Frame} {meth : Method} {c : Code} {dC : Nat → ClassId} {dI : Nat → Nat → Nat} {cyI cyJ cyZ : ClassId} {A : Nat → Prop} (C0 : mC p s m meth c args cX10_firstFault (some .int) 6 RX10 wsX10_firstFault (gK dC dI cyI cyJ cyZ) A) (N : Nat) (res : Int32) (q_Ws : Nat) (q_text : Nat) (q_Tr : Nat) (q_Pk2 : Nat) (wi_length : Int32) (a_text : Nat → Int32) (h : f_X10_firstFault N wi_length a_text = some res) : ∀ (H : Heap) (locs : List Loc), va_P (dC, dI) vwCl (wd38 cyI cyJ cyZ q_Ws q_text q_Tr q_Pk2 wi_length a_text) H → va_D A (wd38 cyI cyJ cyZ q_Ws q_text q_Tr q_Pk2 wi_length a_text) → va_S A s.heap H locs → ∀ (ls : Array Slot), lv_has ls 6 [(0, .ref q_Ws)] → W p l e (headSpec wsX10_firstFault rm_X10_firstFault).room s m args below meth c H locs 0 0 (MQ below (va_Qi (fun (r : Int32) (_ : Unit) => r = res) (bW dC dI (fun (u : Unit) => (wd38 cyI cyJ cyZ q_Ws q_text q_Tr q_Pk2 wi_length a_text)) A) A) args s 0 0 A) (F0 m 0 ls []) := by
  obtain ⟨hx, hb, hr, hml, hown, hts, hlocks, hG, hA⟩ := id C0
  have hK := hG.1
  intro H locs hP hD hS ls hl
  unfold f_X10_firstFault at h
  refine lv_iconst (v := (0 : Int32)) hx hb dX10_firstFault_0 (by decide) ?_
  refine lv_istore_n (lv' := [(1, .int (0 : Int32)), (0, .ref q_Ws)]) hx hb dX10_firstFault_1 rfl hl (by decide) rfl (fun ls hl => ?_)
  refine lv_iconst (v := (0 : Int32)) hx hb dX10_firstFault_2 (by decide) ?_
  refine lv_istore_n (lv' := [(2, .int (0 : Int32)), (1, .int (0 : Int32)), (0, .ref q_Ws)]) hx hb dX10_firstFault_3 rfl hl (by decide) rfl (fun ls hl => ?_)
  exact k_X10_firstFault_4 C0 N res q_Ws q_text q_Tr q_Pk2 wi_length a_text N (0 : Int32) (0 : Int32) h _ _ hP hD hS _ (lv_sub hl [2, 1, 0] rfl)
set_option maxRecDepth 100000 in
set_option maxHeartbeats 4000000 in
theorem c_X10_firstFault (l : Launch) (dC : Nat → ClassId) (dI : Nat → Nat → Nat) (cyI cyJ cyZ : ClassId) (N : Nat) (res : Int32) (sz : Nat) (q_Ws : Nat) (q_text : Nat) (q_Tr : Nat) (q_Pk2 : Nat) (wi_length : Int32) (a_text : Nat → Int32) (h : f_X10_firstFault N  wi_length a_text = some res) : Met l yX10_firstFault wsX10_firstFault rm_X10_firstFault (pC dC dI cyI cyJ cyZ [.ref q_Ws] sz (wd38 cyI cyJ cyZ q_Ws q_text q_Tr q_Pk2 wi_length a_text)) (va_Qi (fun (r : Int32) (_ : Unit) => r = res) (bW dC dI (fun (u : Unit) => (wd38 cyI cyJ cyZ q_Ws q_text q_Tr q_Pk2 wi_length a_text)) (va_A (wd38 cyI cyJ cyZ q_Ws q_text q_Tr q_Pk2 wi_length a_text) sz)) (va_A (wd38 cyI cyJ cyZ q_Ws q_text q_Tr q_Pk2 wi_length a_text) sz)) 0 0 (va_A (wd38 cyI cyJ cyZ q_Ws q_text q_Tr q_Pk2 wi_length a_text) sz) := by
  refine Met.ofW (cc := cX10_firstFault) (maxL := 6) (ret := (some .int)) (by decide) rfl ?_
  intro p e s m args below meth c s₁ B hml hv
  obtain ⟨rfl, hsz, hP, hG, hD0⟩ := hv
  have hx := B.exec
  have hb := B.bytes
  have hr := B.returns
  have hts := atoms_spec (ws := wsX10_firstFault) B.pre
  have hown : s.vm.findClass RX10 = some m.cls := findClass_of_methodNamed B.named
  have hlocks := B.notSynchronized
  subst hsz
  have hD := hD0.self (sz := s.heap.size)
  generalize hAe : va_A (wd38 cyI cyJ cyZ q_Ws q_text q_Tr q_Pk2 wi_length a_text) s.heap.size = A at hD ⊢
  have hA : ∀ q : Nat, s.heap.size ≤ q → A q := fun q h => by rw [← hAe]; exact Or.inr h
  have hS : va_S A s.heap s.heap [] := va_S.rf
  have hl := lv_entry ([.ref q_Ws]) (n := 6) (Nat.le_of_ble_eq_true rfl)
  rw [lg_entry_eq]
  generalize (lg_sl ([.ref q_Ws]) ++ List.replicate (6 - (lg_sl ([.ref q_Ws])).length) Slot.unset).toArray = ls at hl ⊢
  have hl : lv_has ls 6 [(0, .ref q_Ws)] := hl
  exact k_X10_firstFault_0 ⟨hx, hb, hr, hml, hown, hts, hlocks, hG, hA⟩ N res q_Ws q_text q_Tr q_Pk2 wi_length a_text  h _ _ hP hD hS _ hl
abbrev rm_X10_together : Room := { frames := 0, cells := 0, slots := 0, locals := 0 }
theorem hd_X10_together : yX10_together.cls ≠ "java/lang/invoke/MethodHandle" ∧ yX10_together.cls ≠ "java/lang/invoke/VarHandle" ∧ (parseMethodDescriptor yX10_together.desc).map (fun d => d.parameters.length) = some 3 := by decide +kernel
def f_X10_together (N : Nat) (v0 : Int32) (v1 : Int32) (v2 : Int32) : Option (Int32) :=
  if v0 = (20 : Int32) then
    some (v1 &&& v2)
  else
    if v0 = (21 : Int32) then
      some (v1 ||| v2)
    else
      some (v1 ^^^ v2)
set_option maxRecDepth 100000 in
set_option maxHeartbeats 4000000 in
theorem k_X10_together_0 {p : Program} {l : Launch} {e : Env} {s : State} {m : MethodId} {args : Array Value} {below : List Frame} {meth : Method} {c : Code} {dC : Nat → ClassId} {dI : Nat → Nat → Nat} {cyI cyJ cyZ : ClassId} {A : Nat → Prop} (C0 : mC p s m meth c args cX10_together (some .int) 3 RX10 wsX10_together (gK dC dI cyI cyJ cyZ) A) (N : Nat) (res : Int32) (v0 : Int32) (v1 : Int32) (v2 : Int32) (h : f_X10_together N v0 v1 v2 = some res) : ∀ (H : Heap) (locs : List Loc), va_P (dC, dI) vwCl (wd37 cyI cyJ cyZ) H → va_D A (wd37 cyI cyJ cyZ) → va_S A s.heap H locs → ∀ (ls : Array Slot), lv_has ls 3 [(0, .int v0), (1, .int v1), (2, .int v2)] → W p l e (headSpec wsX10_together rm_X10_together).room s m args below meth c H locs 0 0 (MQ below (va_Qi (fun (r : Int32) (_ : Unit) => r = res) (bW dC dI (fun (u : Unit) => (wd37 cyI cyJ cyZ)) A) A) args s 0 0 A) (F0 m 0 ls []) := by
  obtain ⟨hx, hb, hr, hml, hown, hts, hlocks, hG, hA⟩ := id C0
  have hK := hG.1
  intro H locs hP hD hS ls hl
  unfold f_X10_together at h
  refine lv_iload_n hx hb dX10_together_0 rfl (lv_at hl 0 rfl) ?_
  refine lv_bipush (v := (20 : Int32)) hx hb dX10_together_1 (by decide) ?_
  refine lv_icmp_ne (tgt := 10) hx hb dX10_together_3 (by decide) (fun c1z => ?_) (fun c1z => ?_)
  · have h := xf h c1z
    refine lv_iload_n hx hb dX10_together_10 rfl (lv_at hl 0 rfl) ?_
    refine lv_bipush (v := (21 : Int32)) hx hb dX10_together_11 (by decide) ?_
    refine lv_icmp_ne (tgt := 22) hx hb dX10_together_13 (by decide) (fun c2z => ?_) (fun c2z => ?_)
    · have h := xf h c2z
      refine lv_iload_n hx hb dX10_together_22 rfl (lv_at hl 1 rfl) ?_
      refine lv_iload_n hx hb dX10_together_23 rfl (lv_at hl 2 rfl) ?_
      refine lv_ixor hx hb dX10_together_24 ?_
      obtain rfl := Option.some.inj h
      exact W.iret (v := v1 ^^^ v2) hx hb hr (fun t ht hW => ⟨⟨_, (), rfl, rfl, by rw [ht]; exact hP, hD⟩, hS.F ht⟩) hS.2.2 dX10_together_25 hlocks
    · have h := xt h c2z
      refine lv_iload_n hx hb dX10_together_16 rfl (lv_at hl 1 rfl) ?_
      refine lv_iload_n hx hb dX10_together_17 rfl (lv_at hl 2 rfl) ?_
      refine lv_ior hx hb dX10_together_18 ?_
      refine lv_goto (tgt := 25) hx hb dX10_together_19 (by decide) ?_
      obtain rfl := Option.some.inj h
      exact W.iret (v := v1 ||| v2) hx hb hr (fun t ht hW => ⟨⟨_, (), rfl, rfl, by rw [ht]; exact hP, hD⟩, hS.F ht⟩) hS.2.2 dX10_together_25 hlocks
  · have h := xt h c1z
    refine lv_iload_n hx hb dX10_together_6 rfl (lv_at hl 1 rfl) ?_
    refine lv_iload_n hx hb dX10_together_7 rfl (lv_at hl 2 rfl) ?_
    refine lv_iand hx hb dX10_together_8 ?_
    obtain rfl := Option.some.inj h
    exact W.iret (v := v1 &&& v2) hx hb hr (fun t ht hW => ⟨⟨_, (), rfl, rfl, by rw [ht]; exact hP, hD⟩, hS.F ht⟩) hS.2.2 dX10_together_9 hlocks
set_option maxRecDepth 100000 in
set_option maxHeartbeats 4000000 in
theorem c_X10_together (l : Launch) (dC : Nat → ClassId) (dI : Nat → Nat → Nat) (cyI cyJ cyZ : ClassId) (N : Nat) (res : Int32) (sz : Nat) (v0 : Int32) (v1 : Int32) (v2 : Int32) (h : f_X10_together N v0 v1 v2  = some res) : Met l yX10_together wsX10_together rm_X10_together (pC dC dI cyI cyJ cyZ [.int v0, .int v1, .int v2] sz (wd37 cyI cyJ cyZ)) (va_Qi (fun (r : Int32) (_ : Unit) => r = res) (bW dC dI (fun (u : Unit) => (wd37 cyI cyJ cyZ)) (va_A (wd37 cyI cyJ cyZ) sz)) (va_A (wd37 cyI cyJ cyZ) sz)) 0 0 (va_A (wd37 cyI cyJ cyZ) sz) := by
  refine Met.ofW (cc := cX10_together) (maxL := 3) (ret := (some .int)) (by decide) rfl ?_
  intro p e s m args below meth c s₁ B hml hv
  obtain ⟨rfl, hsz, hP, hG, hD0⟩ := hv
  have hx := B.exec
  have hb := B.bytes
  have hr := B.returns
  have hts := atoms_spec (ws := wsX10_together) B.pre
  have hown : s.vm.findClass RX10 = some m.cls := findClass_of_methodNamed B.named
  have hlocks := B.notSynchronized
  subst hsz
  have hD := hD0.self (sz := s.heap.size)
  generalize hAe : va_A (wd37 cyI cyJ cyZ) s.heap.size = A at hD ⊢
  have hA : ∀ q : Nat, s.heap.size ≤ q → A q := fun q h => by rw [← hAe]; exact Or.inr h
  have hS : va_S A s.heap s.heap [] := va_S.rf
  have hl := lv_entry ([.int v0, .int v1, .int v2]) (n := 3) (Nat.le_of_ble_eq_true rfl)
  rw [lg_entry_eq]
  generalize (lg_sl ([.int v0, .int v1, .int v2]) ++ List.replicate (3 - (lg_sl ([.int v0, .int v1, .int v2])).length) Slot.unset).toArray = ls at hl ⊢
  have hl : lv_has ls 3 [(0, .int v0), (1, .int v1), (2, .int v2)] := hl
  exact k_X10_together_0 ⟨hx, hb, hr, hml, hown, hts, hlocks, hG, hA⟩ N res  v0 v1 v2  h _ _ hP hD hS _ hl
/-- the cells Tr, Ws, traits, text -/
abbrev wd39 (cyI cyJ cyZ : ClassId) (q_Tr : Nat) (q_Ws : Nat) (q_traits : Nat) (q_text : Nat) (q_Sp : Nat) (q_Tb : Nat) (q_Mk : Nat) (q_Pk2 : Nat) (wi_length : Int32) (n_traits : Nat) (a_traits : Nat → Int32) (a_text : Nat → Int32) : va_W := [(q_Tr, .inr (8, [.ref q_Sp, .ref q_Tb, .ref q_Mk, .ref q_traits])), (q_Ws, .inr (10, [.ref q_Tr, .ref q_Pk2, .ref q_text, .int wi_length])), (q_traits, .inl (cyI, n_traits, .inl a_traits)), (q_text, .inl (cyI, 60, .inl a_text))]
abbrev rm_X10_agrees : Room := { frames := 1, cells := 0, slots := 0, locals := 22 }
theorem hd_X10_agrees : yX10_agrees.cls ≠ "java/lang/invoke/MethodHandle" ∧ yX10_agrees.cls ≠ "java/lang/invoke/VarHandle" ∧ (parseMethodDescriptor yX10_agrees.desc).map (fun d => d.parameters.length) = some 1 := by decide +kernel
theorem iw_X10_agrees_X8 : ∀ w ∈ wsX80, w ∈ wsX10_agrees := List.forall_mem_cons.mpr ⟨List.mem_of_getElem? (i := 21) rfl, List.forall_mem_cons.mpr ⟨List.mem_of_getElem? (i := 22) rfl, List.forall_mem_cons.mpr ⟨List.mem_of_getElem? (i := 23) rfl, List.forall_mem_cons.mpr ⟨List.mem_of_getElem? (i := 24) rfl, fun _ h => absurd h List.not_mem_nil⟩⟩⟩⟩
theorem iw_X10_agrees_X10 : ∀ w ∈ wsX100, w ∈ wsX10_agrees := List.forall_mem_cons.mpr ⟨List.mem_of_getElem? (i := 17) rfl, List.forall_mem_cons.mpr ⟨List.mem_of_getElem? (i := 18) rfl, List.forall_mem_cons.mpr ⟨List.mem_of_getElem? (i := 19) rfl, List.forall_mem_cons.mpr ⟨List.mem_of_getElem? (i := 20) rfl, fun _ h => absurd h List.not_mem_nil⟩⟩⟩⟩
def j_X10_agrees_100 (N : Nat) (v2 : Int32) : Option (Int32) :=
  if (v2 &&& (1 : Int32)) = (1 : Int32) then
    some (1 : Int32)
  else
    some (0 : Int32)
set_option maxRecDepth 100000 in
set_option maxHeartbeats 4000000 in
theorem k_X10_agrees_100 {p : Program} {l : Launch} {e : Env} {s : State} {m : MethodId} {args : Array Value} {below : List Frame} {meth : Method} {c : Code} {dC : Nat → ClassId} {dI : Nat → Nat → Nat} {cyI cyJ cyZ : ClassId} {A : Nat → Prop} (C0 : mC p s m meth c args cX10_agrees (some .boolean) 5 RX10 wsX10_agrees (gK dC dI cyI cyJ cyZ) A) (N : Nat) (res : Int32) (q_Tr : Nat) (q_Ws : Nat) (q_traits : Nat) (q_text : Nat) (q_Sp : Nat) (q_Tb : Nat) (q_Mk : Nat) (q_Pk2 : Nat) (v2 : Int32) (wi_length : Int32) (n_traits : Nat) (a_traits : Nat → Int32) (a_text : Nat → Int32) (h : j_X10_agrees_100 N v2 = some res) : ∀ (H : Heap) (locs : List Loc), va_P (dC, dI) vwCl (wd39 cyI cyJ cyZ q_Tr q_Ws q_traits q_text q_Sp q_Tb q_Mk q_Pk2 wi_length n_traits a_traits a_text) H → va_D A (wd39 cyI cyJ cyZ q_Tr q_Ws q_traits q_text q_Sp q_Tb q_Mk q_Pk2 wi_length n_traits a_traits a_text) → va_S A s.heap H locs → ∀ (ls : Array Slot), lv_has ls 5 [(2, .int v2)] → W p l e (headSpec wsX10_agrees rm_X10_agrees).room s m args below meth c H locs 0 0 (MQ below (va_Qi (fun (r : Int32) (_ : Unit) => r = res) (bW dC dI (fun (u : Unit) => (wd39 cyI cyJ cyZ q_Tr q_Ws q_traits q_text q_Sp q_Tb q_Mk q_Pk2 wi_length n_traits a_traits a_text)) A) A) args s 0 0 A) (F0 m 100 ls []) := by
  obtain ⟨hx, hb, hr, hml, hown, hts, hlocks, hG, hA⟩ := id C0
  have hK := hG.1
  intro H locs hP hD hS ls hl
  unfold j_X10_agrees_100 at h
  refine lv_iload_n hx hb dX10_agrees_100 rfl (lv_at hl 0 rfl) ?_
  refine lv_iconst (v := (1 : Int32)) hx hb dX10_agrees_101 (by decide) ?_
  refine lv_iand hx hb dX10_agrees_102 ?_
  refine lv_iconst (v := (1 : Int32)) hx hb dX10_agrees_103 (by decide) ?_
  refine lv_icmp_ne (tgt := 111) hx hb dX10_agrees_104 (by decide) (fun c2z => ?_) (fun c2z => ?_)
  · have h := xf h c2z
    refine lv_iconst (v := (0 : Int32)) hx hb dX10_agrees_111 (by decide) ?_
    obtain rfl := Option.some.inj h
    exact W.zret (v := (0 : Int32)) hx hb hr rfl (fun t ht hW => ⟨⟨_, (), rfl, rfl, by rw [ht]; exact hP, hD⟩, hS.F ht⟩) hS.2.2 dX10_agrees_112 hlocks
  · have h := xt h c2z
    refine lv_iconst (v := (1 : Int32)) hx hb dX10_agrees_107 (by decide) ?_
    refine lv_goto (tgt := 112) hx hb dX10_agrees_108 (by decide) ?_
    obtain rfl := Option.some.inj h
    exact W.zret (v := (1 : Int32)) hx hb hr rfl (fun t ht hW => ⟨⟨_, (), rfl, rfl, by rw [ht]; exact hP, hD⟩, hS.F ht⟩) hS.2.2 dX10_agrees_112 hlocks
def s_X10_agrees_4 (N : Nat) (v1 : Int32) (wi_length : Int32) (n_traits : Nat) (a_traits : Nat → Int32) (a_text : Nat → Int32) (k_4 : (Int32 × Int32) → Option (Int32)) (v2 : Int32) (v3 : Int32) : Option (Int32) :=
  if wi_length ≤ v3 then
    j_X10_agrees_100 N v2
  else
    if (60 : Int32) ≤ v3 then
      j_X10_agrees_100 N v2
    else
      if v3 < 0 ∨ 60 ≤ v3.toNatClampNeg then
        none
      else
        xl (a_text v3.toNatClampNeg) fun y5z =>
        Option.bind (f_X10_looks N y5z) fun r6z =>
        if r6z = 0 then
          if y5z = (19 : Int32) then
            xl (v2 ^^^ (1 : Int32)) fun y16z =>
            xl (v3 + (1 : Int32)) fun y17z =>
            k_4 (y16z, y17z)
          else
            Option.bind (f_X10_together N y5z ((v2 >>> ((1 : Int32) &&& 31)) &&& (1 : Int32)) (v2 &&& (1 : Int32))) fun r11z =>
            xl (((v2 >>> ((2 : Int32) &&& 31)) <<< ((1 : Int32) &&& 31)) ||| r11z) fun y14z =>
            xl (v3 + (1 : Int32)) fun y15z =>
            k_4 (y14z, y15z)
        else
          Option.bind (f_X8_has N v1 y5z n_traits a_traits) fun r18z =>
          if r18z = 0 then
            xl ((v2 <<< ((1 : Int32) &&& 31)) ||| (0 : Int32)) fun y22z =>
            xl (v3 + (1 : Int32)) fun y23z =>
            k_4 (y22z, y23z)
          else
            xl ((v2 <<< ((1 : Int32) &&& 31)) ||| (1 : Int32)) fun y24z =>
            xl (v3 + (1 : Int32)) fun y25z =>
            k_4 (y24z, y25z)
def l_X10_agrees_4 (N : Nat) (v1 : Int32) (wi_length : Int32) (n_traits : Nat) (a_traits : Nat → Int32) (a_text : Nat → Int32) (n : Nat) (z : Int32 × Int32) : Option (Int32) := lp (fun k z => s_X10_agrees_4 N v1 wi_length n_traits a_traits a_text k z.1 z.2) n z
set_option maxRecDepth 100000 in
set_option maxHeartbeats 4000000 in
theorem k_X10_agrees_4 {p : Program} {l : Launch} {e : Env} {s : State} {m : MethodId} {args : Array Value} {below : List Frame} {meth : Method} {c : Code} {dC : Nat → ClassId} {dI : Nat → Nat → Nat} {cyI cyJ cyZ : ClassId} {A : Nat → Prop} (C0 : mC p s m meth c args cX10_agrees (some .boolean) 5 RX10 wsX10_agrees (gK dC dI cyI cyJ cyZ) A) (N : Nat) (res : Int32) (q_Tr : Nat) (q_Ws : Nat) (q_traits : Nat) (q_text : Nat) (q_Sp : Nat) (q_Tb : Nat) (q_Mk : Nat) (q_Pk2 : Nat) (v1 : Int32) (wi_length : Int32) (n_traits : Nat) (a_traits : Nat → Int32) (a_text : Nat → Int32) : ∀ (n : Nat) (v2 : Int32) (v3 : Int32), l_X10_agrees_4 N v1 wi_length n_traits a_traits a_text n (v2, v3) = some res → ∀ (H : Heap) (locs : List Loc), va_P (dC, dI) vwCl (wd39 cyI cyJ cyZ q_Tr q_Ws q_traits q_text q_Sp q_Tb q_Mk q_Pk2 wi_length n_traits a_traits a_text) H → va_D A (wd39 cyI cyJ cyZ q_Tr q_Ws q_traits q_text q_Sp q_Tb q_Mk q_Pk2 wi_length n_traits a_traits a_text) → va_S A s.heap H locs → ∀ (ls : Array Slot), lv_has ls 5 [(0, .ref q_Ws), (1, .int v1), (2, .int v2), (3, .int v3)] → W p l e (headSpec wsX10_agrees rm_X10_agrees).room s m args below meth c H locs 0 0 (MQ below (va_Qi (fun (r : Int32) (_ : Unit) => r = res) (bW dC dI (fun (u : Unit) => (wd39 cyI cyJ cyZ q_Tr q_Ws q_traits q_text q_Sp q_Tb q_Mk q_Pk2 wi_length n_traits a_traits a_text)) A) A) args s 0 0 A) (F0 m 4 ls []) := by
  obtain ⟨hx, hb, hr, hml, hown, hts, hlocks, hG, hA⟩ := id C0
  have hK := hG.1
  intro n
  induction n with
  | zero =>
    intro v2 v3 h
    cases h
  | succ n ih =>
    intro v2 v3 h H locs hP hD hS ls hl
    have h : s_X10_agrees_4 N v1 wi_length n_traits a_traits a_text (l_X10_agrees_4 N v1 wi_length n_traits a_traits a_text n) v2 v3 = some res := h
    unfold s_X10_agrees_4 at h
    refine lv_iload_n hx hb dX10_agrees_4 rfl (lv_at hl 3 rfl) ?_
    refine lv_aload_n hx hb dX10_agrees_5 rfl (lv_at hl 0 rfl) ?_
    refine va_get (D := (dC, dI)) (ci := 10) (v := .int wi_length) (C := RX10) (T := TX10) (N := 4) hx hb hts iw_X10_agrees_X10 hown hK hP 1 rfl rfl 3 (by decide) (hts (.fieldLink RX10 22 "GoesInto$Wishes" "length" "I") (List.mem_of_getElem? (i := 1) rfl)) (fun _ h9 => h9) rfl dX10_agrees_6 ?_
    refine lv_icmp_ge (tgt := 100) hx hb dX10_agrees_9 (by decide) (fun c1z => ?_) (fun c1z => ?_)
    · have h := xt h c1z
      exact k_X10_agrees_100 C0 N res q_Tr q_Ws q_traits q_text q_Sp q_Tb q_Mk q_Pk2 v2 wi_length n_traits a_traits a_text  h _ _ hP hD hS _ (lv_sub hl [2] rfl)
    · have h := xf h c1z
      refine lv_iload_n hx hb dX10_agrees_12 rfl (lv_at hl 3 rfl) ?_
      refine lv_bipush (v := (60 : Int32)) hx hb dX10_agrees_13 (by decide) ?_
      refine lv_icmp_ge (tgt := 100) hx hb dX10_agrees_15 (by decide) (fun c3z => ?_) (fun c3z => ?_)
      · have h := xt h c3z
        exact k_X10_agrees_100 C0 N res q_Tr q_Ws q_traits q_text q_Sp q_Tb q_Mk q_Pk2 v2 wi_length n_traits a_traits a_text  h _ _ hP hD hS _ (lv_sub hl [2] rfl)
      · have h := xf h c3z
        refine lv_aload_n hx hb dX10_agrees_18 rfl (lv_at hl 0 rfl) ?_
        refine va_get (D := (dC, dI)) (ci := 10) (v := .ref q_text) (C := RX10) (T := TX10) (N := 4) hx hb hts iw_X10_agrees_X10 hown hK hP 1 rfl rfl 2 (by decide) (hts (.fieldLink RX10 18 "GoesInto$Wishes" "text" "[I") (List.mem_of_getElem? (i := 2) rfl)) (fun _ h9 => h9) rfl dX10_agrees_19 ?_
        refine lv_iload_n hx hb dX10_agrees_22 rfl (lv_at hl 3 rfl) ?_
        obtain ⟨b4z, h⟩ := xn h
        refine va_iald hx hb hK hP 3 0 rfl rfl b4z dX10_agrees_23 ?_
        refine lv_topi (fun y5z ey5z => ?_)
        have h := xl_at h ey5z
        refine lv_istore (lv' := [(4, .int y5z), (0, .ref q_Ws), (1, .int v1), (2, .int v2), (3, .int v3)]) hx hb dX10_agrees_24 hl (by decide) rfl (fun ls hl => ?_)
        refine lv_iload hx hb dX10_agrees_26 (lv_at hl 0 rfl) ?_
        obtain ⟨r6z, hr6z, h⟩ := xb_at h
        have hPc := hP.sub (ws' := (wd37 cyI cyJ cyZ)) [] rfl
        have hDc := hD.sub (ws' := (wd37 cyI cyJ cyZ)) [] (by decide) rfl
        refine cal_i [] [0, 1, 2, 3] (va_runS (As := [.int y5z]) (rest := []) ⟨hx, hb, hml, hown, hts⟩ (c_X10_looks l dC dI cyI cyJ cyZ N r6z H.size  y5z  hr6z) (va_cwS 1 hts gX10_agrees_X10_looks rfl rfl rfl hd_X10_looks ⟨Nat.le_of_ble_eq_true rfl, Nat.le_of_ble_eq_true rfl⟩) ⟨pC.blind, pC.pre hPc hG hDc⟩ rfl rfl hl.1 rfl (lv_room (Nat.le_of_ble_eq_true rfl)) dX10_agrees_28 ⟨Nat.zero_le _, Nat.zero_le _⟩) hP hD hS hA rfl rfl rfl (by decide) (fun x8z u7z H locs hw hP hD hS => ?_)
        obtain rfl := hw.symm
        have hP : va_P (dC, dI) vwCl (wd39 cyI cyJ cyZ q_Tr q_Ws q_traits q_text q_Sp q_Tb q_Mk q_Pk2 wi_length n_traits a_traits a_text) H := hP.sub [0, 1, 2, 3] rfl
        have hD : va_D A (wd39 cyI cyJ cyZ q_Tr q_Ws q_traits q_text q_Sp q_Tb q_Mk q_Pk2 wi_length n_traits a_traits a_text) := hD.sub [0, 1, 2, 3] (by decide) rfl
        refine lv_if_eq (tgt := 60) hx hb dX10_agrees_31 (by decide) (fun c9z => ?_) (fun c9z => ?_)
        · have h := xt h c9z
          refine lv_iload hx hb dX10_agrees_60 (lv_at hl 0 rfl) ?_
          refine lv_bipush (v := (19 : Int32)) hx hb dX10_agrees_62 (by decide) ?_
          refine lv_icmp_ne (tgt := 74) hx hb dX10_agrees_64 (by decide) (fun c10z => ?_) (fun c10z => ?_)
          · have h := xf h c10z
            refine lv_iload_n hx hb dX10_agrees_74 rfl (lv_at hl 3 rfl) ?_
            refine lv_iconst (v := (2 : Int32)) hx hb dX10_agrees_75 (by decide) ?_
            refine lv_ishr hx hb dX10_agrees_76 ?_
            refine lv_iconst (v := (1 : Int32)) hx hb dX10_agrees_77 (by decide) ?_
            refine lv_ishl hx hb dX10_agrees_78 ?_
            refine lv_iload hx hb dX10_agrees_79 (lv_at hl 0 rfl) ?_
            refine lv_iload_n hx hb dX10_agrees_81 rfl (lv_at hl 3 rfl) ?_
            refine lv_iconst (v := (1 : Int32)) hx hb dX10_agrees_82 (by decide) ?_
            refine lv_ishr hx hb dX10_agrees_83 ?_
            refine lv_iconst (v := (1 : Int32)) hx hb dX10_agrees_84 (by decide) ?_
            refine lv_iand hx hb dX10_agrees_85 ?_
            refine lv_iload_n hx hb dX10_agrees_86 rfl (lv_at hl 3 rfl) ?_
            refine lv_iconst (v := (1 : Int32)) hx hb dX10_agrees_87 (by decide) ?_
            refine lv_iand hx hb dX10_agrees_88 ?_
            obtain ⟨r11z, hr11z, h⟩ := xb_at h
            have hPc := hP.sub (ws' := (wd37 cyI cyJ cyZ)) [] rfl
            have hDc := hD.sub (ws' := (wd37 cyI cyJ cyZ)) [] (by decide) rfl
            refine cal_i [] [0, 1, 2, 3] (va_runS (As := [.int y5z, .int ((v2 >>> ((1 : Int32) &&& 31)) &&& (1 : Int32)), .int (v2 &&& (1 : Int32))]) (rest := [.int ((v2 >>> ((2 : Int32) &&& 31)) <<< ((1 : Int32) &&& 31))]) ⟨hx, hb, hml, hown, hts⟩ (c_X10_together l dC dI cyI cyJ cyZ N r11z H.size  y5z ((v2 >>> ((1 : Int32) &&& 31)) &&& (1 : Int32)) (v2 &&& (1 : Int32))  hr11z) (va_cwS 3 hts gX10_agrees_X10_together rfl rfl rfl hd_X10_together ⟨Nat.le_of_ble_eq_true rfl, Nat.le_of_ble_eq_true rfl⟩) ⟨pC.blind, pC.pre hPc hG hDc⟩ rfl rfl hl.1 rfl (lv_room (Nat.le_of_ble_eq_true rfl)) dX10_agrees_89 ⟨Nat.zero_le _, Nat.zero_le _⟩) hP hD hS hA rfl rfl rfl (by decide) (fun x13z u12z H locs hw hP hD hS => ?_)
            obtain rfl := hw.symm
            have hP : va_P (dC, dI) vwCl (wd39 cyI cyJ cyZ q_Tr q_Ws q_traits q_text q_Sp q_Tb q_Mk q_Pk2 wi_length n_traits a_traits a_text) H := hP.sub [0, 1, 2, 3] rfl
            have hD : va_D A (wd39 cyI cyJ cyZ q_Tr q_Ws q_traits q_text q_Sp q_Tb q_Mk q_Pk2 wi_length n_traits a_traits a_text) := hD.sub [0, 1, 2, 3] (by decide) rfl
            refine lv_ior hx hb dX10_agrees_92 ?_
            refine lv_topi (fun y14z ey14z => ?_)
            have h := xl_at h ey14z
            refine lv_istore_n (lv' := [(2, .int y14z), (4, .int y5z), (0, .ref q_Ws), (1, .int v1), (3, .int v3)]) hx hb dX10_agrees_93 rfl hl (by decide) rfl (fun ls hl => ?_)
            obtain ⟨y15z, ey15z⟩ : ∃ z : Int32, z = v3 + (1 : Int32) := ⟨_, rfl⟩
            have h := xl_at h ey15z
            refine lv_iinc (v := y15z) (lv' := [(3, .int y15z), (2, .int y14z), (4, .int y5z), (0, .ref q_Ws), (1, .int v1)]) hx hb dX10_agrees_94 hl (k := 4) rfl (by rw [ey15z]; rfl) (by decide) rfl (fun ls hl => ?_)
            refine lv_goto (tgt := 4) hx hb dX10_agrees_97 (by decide) ?_
            exact ih y14z y15z h _ _ hP hD hS _ (lv_sub hl [3, 4, 1, 0] rfl)
          · have h := xt h c10z
            refine lv_iload_n hx hb dX10_agrees_67 rfl (lv_at hl 3 rfl) ?_
            refine lv_iconst (v := (1 : Int32)) hx hb dX10_agrees_68 (by decide) ?_
            refine lv_ixor hx hb dX10_agrees_69 ?_
            refine lv_topi (fun y16z ey16z => ?_)
            have h := xl_at h ey16z
            refine lv_istore_n (lv' := [(2, .int y16z), (4, .int y5z), (0, .ref q_Ws), (1, .int v1), (3, .int v3)]) hx hb dX10_agrees_70 rfl hl (by decide) rfl (fun ls hl => ?_)
            refine lv_goto (tgt := 94) hx hb dX10_agrees_71 (by decide) ?_
            obtain ⟨y17z, ey17z⟩ : ∃ z : Int32, z = v3 + (1 : Int32) := ⟨_, rfl⟩
            have h := xl_at h ey17z
            refine lv_iinc (v := y17z) (lv' := [(3, .int y17z), (2, .int y16z), (4, .int y5z), (0, .ref q_Ws), (1, .int v1)]) hx hb dX10_agrees_94 hl (k := 4) rfl (by rw [ey17z]; rfl) (by decide) rfl (fun ls hl => ?_)
            refine lv_goto (tgt := 4) hx hb dX10_agrees_97 (by decide) ?_
            exact ih y16z y17z h _ _ hP hD hS _ (lv_sub hl [3, 4, 1, 0] rfl)
        · have h := xf h c9z
          refine lv_iload_n hx hb dX10_agrees_34 rfl (lv_at hl 3 rfl) ?_
          refine lv_iconst (v := (1 : Int32)) hx hb dX10_agrees_35 (by decide) ?_
          refine lv_ishl hx hb dX10_agrees_36 ?_
          refine lv_aload_n hx hb dX10_agrees_37 rfl (lv_at hl 1 rfl) ?_
          refine va_get (D := (dC, dI)) (ci := 10) (v := .ref q_Tr) (C := RX10) (T := TX10) (N := 4) hx hb hts iw_X10_agrees_X10 hown hK hP 1 rfl rfl 0 (by decide) (hts (.fieldLink RX10 26 "GoesInto$Wishes" "traits" "LGoesInto$Traits;") (List.mem_of_getElem? (i := 3) rfl)) (fun _ h9 => h9) rfl dX10_agrees_38 ?_
          refine lv_iload_n hx hb dX10_agrees_41 rfl (lv_at hl 2 rfl) ?_
          refine lv_iload hx hb dX10_agrees_42 (lv_at hl 0 rfl) ?_
          obtain ⟨r18z, hr18z, h⟩ := xb_at h
          have hPc := hP.sub (ws' := (wd32 cyI cyJ cyZ q_Tr q_traits q_Sp q_Tb q_Mk n_traits a_traits)) [0, 2] rfl
          have hDc := hD.sub (ws' := (wd32 cyI cyJ cyZ q_Tr q_traits q_Sp q_Tb q_Mk n_traits a_traits)) [0, 2] (by decide) rfl
          refine cal_i [0, 2] [1, 3] (va_runV (As := [.int v1, .int y5z]) (rest := [.int (v2 <<< ((1 : Int32) &&& 31))]) ⟨hx, hb, hml, hown, hts⟩ (c_X8_has l dC dI cyI cyJ cyZ N r18z H.size q_Tr q_traits q_Sp q_Tb q_Mk v1 y5z n_traits a_traits hr18z) (cwV 2 hts gX10_agrees_X8_has rfl rfl rfl ⟨rfl, hd_X8_has⟩ ⟨Nat.le_of_ble_eq_true rfl, Nat.le_of_ble_eq_true rfl⟩) ⟨pC.blind, va_recv hK hPc (ci := 8) (q0 := 0) rfl rfl, pC.pre hPc hG hDc⟩ rfl rfl hl.1 rfl (lv_room (Nat.le_of_ble_eq_true rfl)) dX10_agrees_44 ⟨Nat.zero_le _, Nat.zero_le _⟩) hP hD hS hA rfl rfl rfl (by decide) (fun x20z u19z H locs hw hP hD hS => ?_)
          obtain rfl := hw.symm
          have hP : va_P (dC, dI) vwCl (wd39 cyI cyJ cyZ q_Tr q_Ws q_traits q_text q_Sp q_Tb q_Mk q_Pk2 wi_length n_traits a_traits a_text) H := hP.sub [2, 0, 3, 1] rfl
          have hD : va_D A (wd39 cyI cyJ cyZ q_Tr q_Ws q_traits q_text q_Sp q_Tb q_Mk q_Pk2 wi_length n_traits a_traits a_text) := hD.sub [2, 0, 3, 1] (by decide) rfl
          refine lv_if_eq (tgt := 54) hx hb dX10_agrees_47 (by decide) (fun c21z => ?_) (fun c21z => ?_)
          · have h := xt h c21z
            refine lv_iconst (v := (0 : Int32)) hx hb dX10_agrees_54 (by decide) ?_
            refine lv_ior hx hb dX10_agrees_55 ?_
            refine lv_topi (fun y22z ey22z => ?_)
            have h := xl_at h ey22z
            refine lv_istore_n (lv' := [(2, .int y22z), (4, .int y5z), (0, .ref q_Ws), (1, .int v1), (3, .int v3)]) hx hb dX10_agrees_56 rfl hl (by decide) rfl (fun ls hl => ?_)
            refine lv_goto (tgt := 94) hx hb dX10_agrees_57 (by decide) ?_
            obtain ⟨y23z, ey23z⟩ : ∃ z : Int32, z = v3 + (1 : Int32) := ⟨_, rfl⟩
            have h := xl_at h ey23z
            refine lv_iinc (v := y23z) (lv' := [(3, .int y23z), (2, .int y22z), (4, .int y5z), (0, .ref q_Ws), (1, .int v1)]) hx hb dX10_agrees_94 hl (k := 4) rfl (by rw [ey23z]; rfl) (by decide) rfl (fun ls hl => ?_)
            refine lv_goto (tgt := 4) hx hb dX10_agrees_97 (by decide) ?_
            exact ih y22z y23z h _ _ hP hD hS _ (lv_sub hl [3, 4, 1, 0] rfl)
          · have h := xf h c21z
            refine lv_iconst (v := (1 : Int32)) hx hb dX10_agrees_50 (by decide) ?_
            refine lv_goto (tgt := 55) hx hb dX10_agrees_51 (by decide) ?_
            refine lv_ior hx hb dX10_agrees_55 ?_
            refine lv_topi (fun y24z ey24z => ?_)
            have h := xl_at h ey24z
            refine lv_istore_n (lv' := [(2, .int y24z), (4, .int y5z), (0, .ref q_Ws), (1, .int v1), (3, .int v3)]) hx hb dX10_agrees_56 rfl hl (by decide) rfl (fun ls hl => ?_)
            refine lv_goto (tgt := 94) hx hb dX10_agrees_57 (by decide) ?_
            obtain ⟨y25z, ey25z⟩ : ∃ z : Int32, z = v3 + (1 : Int32) := ⟨_, rfl⟩
            have h := xl_at h ey25z
            refine lv_iinc (v := y25z) (lv' := [(3, .int y25z), (2, .int y24z), (4, .int y5z), (0, .ref q_Ws), (1, .int v1)]) hx hb dX10_agrees_94 hl (k := 4) rfl (by rw [ey25z]; rfl) (by decide) rfl (fun ls hl => ?_)
            refine lv_goto (tgt := 4) hx hb dX10_agrees_97 (by decide) ?_
            exact ih y24z y25z h _ _ hP hD hS _ (lv_sub hl [3, 4, 1, 0] rfl)
def f_X10_agrees (N : Nat) (v1 : Int32) (wi_length : Int32) (n_traits : Nat) (a_traits : Nat → Int32) (a_text : Nat → Int32) : Option (Int32) :=
  l_X10_agrees_4 N v1 wi_length n_traits a_traits a_text N ((0 : Int32), (0 : Int32))
set_option maxRecDepth 100000 in
set_option maxHeartbeats 4000000 in
theorem k_X10_agrees_0 {p : Program} {l : Launch} {e : Env} {s : State} {m : MethodId} {args : Array Value} {below : List Frame} {meth : Method} {c : Code} {dC : Nat → ClassId} {dI : Nat → Nat → Nat} {cyI cyJ cyZ : ClassId} {A : Nat → Prop} (C0 : mC p s m meth c args cX10_agrees (some .boolean) 5 RX10 wsX10_agrees (gK dC dI cyI cyJ cyZ) A) (N : Nat) (res : Int32) (q_Tr : Nat) (q_Ws : Nat) (q_traits : Nat) (q_text : Nat) (q_Sp : Nat) (q_Tb : Nat) (q_Mk : Nat) (q_Pk2 : Nat) (v1 : Int32) (wi_length : Int32) (n_traits : Nat) (a_traits : Nat → Int32) (a_text : Nat → Int32) (h : f_X10_agrees N v1 wi_length n_traits a_traits a_text = some res) : ∀ (H : Heap) (locs : List Loc), va_P (dC, dI) vwCl (wd39 cyI cyJ cyZ q_Tr q_Ws q_traits q_text q_Sp q_Tb q_Mk q_Pk2 wi_length n_traits a_traits a_text) H → va_D A (wd39 cyI cyJ cyZ q_Tr q_Ws q_traits q_text q_Sp q_Tb q_Mk q_Pk2 wi_length n_traits a_traits a_text) → va_S A s.heap H locs → ∀ (ls : Array Slot), lv_has ls 5 [(0, .ref q_Ws), (1, .int v1)] → W p l e (headSpec wsX10_agrees rm_X10_agrees).room s m args below meth c H locs 0 0 (MQ below (va_Qi (fun (r : Int32) (_ : Unit) => r = res) (bW dC dI (fun (u : Unit) => (wd39 cyI cyJ cyZ q_Tr q_Ws q_traits q_text q_Sp q_Tb q_Mk q_Pk2 wi_length n_traits a_traits a_text)) A) A) args s 0 0 A) (F0 m 0 ls []) := by
  obtain ⟨hx, hb, hr, hml, hown, hts, hlocks, hG, hA⟩ := id C0
  have hK := hG.1
  intro H locs hP hD hS ls hl
  unfold f_X10_agrees at h
  refine lv_iconst (v := (0 : Int32)) hx hb dX10_agrees_0 (by decide) ?_
  refine lv_istore_n (lv' := [(2, .int (0 : Int32)), (0, .ref q_Ws), (1, .int v1)]) hx hb dX10_agrees_1 rfl hl (by decide) rfl (fun ls hl => ?_)
  refine lv_iconst (v := (0 : Int32)) hx hb dX10_agrees_2 (by decide) ?_
  refine lv_istore_n (lv' := [(3, .int (0 : Int32)), (2, .int (0 : Int32)), (0, .ref q_Ws), (1, .int v1)]) hx hb dX10_agrees_3 rfl hl (by decide) rfl (fun ls hl => ?_)
  exact k_X10_agrees_4 C0 N res q_Tr q_Ws q_traits q_text q_Sp q_Tb q_Mk q_Pk2 v1 wi_length n_traits a_traits a_text N (0 : Int32) (0 : Int32) h _ _ hP hD hS _ (lv_sub hl [2, 3, 1, 0] rfl)
set_option maxRecDepth 100000 in
set_option maxHeartbeats 4000000 in
theorem c_X10_agrees (l : Launch) (dC : Nat → ClassId) (dI : Nat → Nat → Nat) (cyI cyJ cyZ : ClassId) (N : Nat) (res : Int32) (sz : Nat) (q_Tr : Nat) (q_Ws : Nat) (q_traits : Nat) (q_text : Nat) (q_Sp : Nat) (q_Tb : Nat) (q_Mk : Nat) (q_Pk2 : Nat) (v1 : Int32) (wi_length : Int32) (n_traits : Nat) (a_traits : Nat → Int32) (a_text : Nat → Int32) (h : f_X10_agrees N v1 wi_length n_traits a_traits a_text = some res) : Met l yX10_agrees wsX10_agrees rm_X10_agrees (pC dC dI cyI cyJ cyZ [.ref q_Ws, .int v1] sz (wd39 cyI cyJ cyZ q_Tr q_Ws q_traits q_text q_Sp q_Tb q_Mk q_Pk2 wi_length n_traits a_traits a_text)) (va_Qi (fun (r : Int32) (_ : Unit) => r = res) (bW dC dI (fun (u : Unit) => (wd39 cyI cyJ cyZ q_Tr q_Ws q_traits q_text q_Sp q_Tb q_Mk q_Pk2 wi_length n_traits a_traits a_text)) (va_A (wd39 cyI cyJ cyZ q_Tr q_Ws q_traits q_text q_Sp q_Tb q_Mk q_Pk2 wi_length n_traits a_traits a_text) sz)) (va_A (wd39 cyI cyJ cyZ q_Tr q_Ws q_traits q_text q_Sp q_Tb q_Mk q_Pk2 wi_length n_traits a_traits a_text) sz)) 0 0 (va_A (wd39 cyI cyJ cyZ q_Tr q_Ws q_traits q_text q_Sp q_Tb q_Mk q_Pk2 wi_length n_traits a_traits a_text) sz) := by
  refine Met.ofW (cc := cX10_agrees) (maxL := 5) (ret := (some .boolean)) (by decide) rfl ?_
  intro p e s m args below meth c s₁ B hml hv
  obtain ⟨rfl, hsz, hP, hG, hD0⟩ := hv
  have hx := B.exec
  have hb := B.bytes
  have hr := B.returns
  have hts := atoms_spec (ws := wsX10_agrees) B.pre
  have hown : s.vm.findClass RX10 = some m.cls := findClass_of_methodNamed B.named
  have hlocks := B.notSynchronized
  subst hsz
  have hD := hD0.self (sz := s.heap.size)
  generalize hAe : va_A (wd39 cyI cyJ cyZ q_Tr q_Ws q_traits q_text q_Sp q_Tb q_Mk q_Pk2 wi_length n_traits a_traits a_text) s.heap.size = A at hD ⊢
  have hA : ∀ q : Nat, s.heap.size ≤ q → A q := fun q h => by rw [← hAe]; exact Or.inr h
  have hS : va_S A s.heap s.heap [] := va_S.rf
  have hl := lv_entry ([.ref q_Ws, .int v1]) (n := 5) (Nat.le_of_ble_eq_true rfl)
  rw [lg_entry_eq]
  generalize (lg_sl ([.ref q_Ws, .int v1]) ++ List.replicate (5 - (lg_sl ([.ref q_Ws, .int v1])).length) Slot.unset).toArray = ls at hl ⊢
  have hl : lv_has ls 5 [(0, .ref q_Ws), (1, .int v1)] := hl
  exact k_X10_agrees_0 ⟨hx, hb, hr, hml, hown, hts, hlocks, hG, hA⟩ N res q_Tr q_Ws q_traits q_text q_Sp q_Tb q_Mk q_Pk2 v1 wi_length n_traits a_traits a_text  h _ _ hP hD hS _ hl
/-- the cells Tr, Ws, Pk2, traits, text -/
abbrev wd40 (cyI cyJ cyZ : ClassId) (q_Tr : Nat) (q_Ws : Nat) (q_Pk2 : Nat) (q_traits : Nat) (q_text : Nat) (q_Sp : Nat) (q_Tb : Nat) (q_Mk : Nat) (wi_length : Int32) (pk2_wanted : Int32) (pk2_seen : Int32) (n_traits : Nat) (a_traits : Nat → Int32) (a_text : Nat → Int32) : va_W := [(q_Tr, .inr (8, [.ref q_Sp, .ref q_Tb, .ref q_Mk, .ref q_traits])), (q_Ws, .inr (10, [.ref q_Tr, .ref q_Pk2, .ref q_text, .int wi_length])), (q_Pk2, .inr (2, [.int pk2_wanted, .int pk2_seen])), (q_traits, .inl (cyI, n_traits, .inl a_traits)), (q_text, .inl (cyI, 60, .inl a_text))]
abbrev rm_X10_numberAt : Room := { frames := 2, cells := 0, slots := 0, locals := 46 }
theorem hd_X10_numberAt : yX10_numberAt.cls ≠ "java/lang/invoke/MethodHandle" ∧ yX10_numberAt.cls ≠ "java/lang/invoke/VarHandle" ∧ (parseMethodDescriptor yX10_numberAt.desc).map (fun d => d.parameters.length) = some 2 := by decide +kernel
theorem iw_X10_numberAt_X8 : ∀ w ∈ wsX80, w ∈ wsX10_numberAt := List.forall_mem_cons.mpr ⟨List.mem_of_getElem? (i := 43) rfl, List.forall_mem_cons.mpr ⟨List.mem_of_getElem? (i := 44) rfl, List.forall_mem_cons.mpr ⟨List.mem_of_getElem? (i := 45) rfl, List.forall_mem_cons.mpr ⟨List.mem_of_getElem? (i := 46) rfl, fun _ h => absurd h List.not_mem_nil⟩⟩⟩⟩
theorem iw_X10_numberAt_X10 : ∀ w ∈ wsX100, w ∈ wsX10_numberAt := List.forall_mem_cons.mpr ⟨List.mem_of_getElem? (i := 37) rfl, List.forall_mem_cons.mpr ⟨List.mem_of_getElem? (i := 38) rfl, List.forall_mem_cons.mpr ⟨List.mem_of_getElem? (i := 39) rfl, List.forall_mem_cons.mpr ⟨List.mem_of_getElem? (i := 40) rfl, fun _ h => absurd h List.not_mem_nil⟩⟩⟩⟩
theorem iw_X10_numberAt_X2 : ∀ w ∈ wsX20, w ∈ wsX10_numberAt := List.forall_mem_cons.mpr ⟨List.mem_of_getElem? (i := 41) rfl, List.forall_mem_cons.mpr ⟨List.mem_of_getElem? (i := 42) rfl, fun _ h => absurd h List.not_mem_nil⟩⟩
def j_X10_numberAt_41 (N : Nat) (pk2_wanted : Int32) (pk2_seen : Int32) : Option (Int32 × Int32 × Int32) :=
  Option.bind (f_X2_notFound N  pk2_wanted pk2_seen) fun r5z =>
  some (r5z, pk2_wanted, pk2_seen)
set_option maxRecDepth 100000 in
set_option maxHeartbeats 4000000 in
theorem k_X10_numberAt_41 {p : Program} {l : Launch} {e : Env} {s : State} {m : MethodId} {args : Array Value} {below : List Frame} {meth : Method} {c : Code} {dC : Nat → ClassId} {dI : Nat → Nat → Nat} {cyI cyJ cyZ : ClassId} {A : Nat → Prop} (C0 : mC p s m meth c args cX10_numberAt (some .int) 4 RX10 wsX10_numberAt (gK dC dI cyI cyJ cyZ) A) (N : Nat) (res : Int32 × Int32 × Int32) (q_Tr : Nat) (q_Ws : Nat) (q_Pk2 : Nat) (q_traits : Nat) (q_text : Nat) (q_Sp : Nat) (q_Tb : Nat) (q_Mk : Nat) (wi_length : Int32) (pk2_wanted : Int32) (pk2_seen : Int32) (n_traits : Nat) (a_traits : Nat → Int32) (a_text : Nat → Int32) (h : j_X10_numberAt_41 N pk2_wanted pk2_seen = some res) : ∀ (H : Heap) (locs : List Loc), va_P (dC, dI) vwCl (wd40 cyI cyJ cyZ q_Tr q_Ws q_Pk2 q_traits q_text q_Sp q_Tb q_Mk wi_length pk2_wanted pk2_seen n_traits a_traits a_text) H → va_D A (wd40 cyI cyJ cyZ q_Tr q_Ws q_Pk2 q_traits q_text q_Sp q_Tb q_Mk wi_length pk2_wanted pk2_seen n_traits a_traits a_text) → va_S A s.heap H locs → ∀ (ls : Array Slot), lv_has ls 4 [(0, .ref q_Ws)] → W p l e (headSpec wsX10_numberAt rm_X10_numberAt).room s m args below meth c H locs 0 0 (MQ below (va_Qi (fun (r : Int32) (_ : Unit) => r = res.1) (bW dC dI (fun (u : Unit) => (wd40 cyI cyJ cyZ q_Tr q_Ws q_Pk2 q_traits q_text q_Sp q_Tb q_Mk wi_length res.2.1 res.2.2 n_traits a_traits a_text)) A) A) args s 0 0 A) (F0 m 41 ls []) := by
  obtain ⟨hx, hb, hr, hml, hown, hts, hlocks, hG, hA⟩ := id C0
  have hK := hG.1
  intro H locs hP hD hS ls hl
  unfold j_X10_numberAt_41 at h
  refine lv_aload_n hx hb dX10_numberAt_41 rfl (lv_at hl 0 rfl) ?_
  refine va_get (D := (dC, dI)) (ci := 10) (v := .ref q_Pk2) (C := RX10) (T := TX10) (N := 4) hx hb hts iw_X10_numberAt_X10 hown hK hP 1 rfl rfl 1 (by decide) (hts (.fieldLink RX10 12 "GoesInto$Wishes" "pick" "LGoesInto$Pick;") (List.mem_of_getElem? (i := 1) rfl)) (fun _ h9 => h9) rfl dX10_numberAt_42 ?_
  obtain ⟨r5z, hr5z, h⟩ := xb_at h
  have hPc := hP.sub (ws' := (wd16 cyI cyJ cyZ q_Pk2 pk2_wanted pk2_seen)) [2] rfl
  have hDc := hD.sub (ws' := (wd16 cyI cyJ cyZ q_Pk2 pk2_wanted pk2_seen)) [2] (by decide) rfl
  refine cal_i [2] [0, 1, 3, 4] (va_runV (As := []) (rest := []) ⟨hx, hb, hml, hown, hts⟩ (c_X2_notFound l dC dI cyI cyJ cyZ N r5z H.size q_Pk2  pk2_wanted pk2_seen hr5z) (cwV 0 hts gX10_numberAt_X2_notFound rfl rfl rfl ⟨rfl, hd_X2_notFound⟩ ⟨Nat.le_of_ble_eq_true rfl, Nat.le_of_ble_eq_true rfl⟩) ⟨pC.blind, va_recv hK hPc (ci := 2) (q0 := 0) rfl rfl, pC.pre hPc hG hDc⟩ rfl rfl hl.1 rfl (lv_room (Nat.le_of_ble_eq_true rfl)) dX10_numberAt_45 ⟨Nat.zero_le _, Nat.zero_le _⟩) hP hD hS hA rfl rfl rfl (by decide) (fun x7z u6z H locs hw hP hD hS => ?_)
  obtain rfl := hw.symm
  have hP : va_P (dC, dI) vwCl (wd40 cyI cyJ cyZ q_Tr q_Ws q_Pk2 q_traits q_text q_Sp q_Tb q_Mk wi_length pk2_wanted pk2_seen n_traits a_traits a_text) H := hP.sub [0, 1, 4, 2, 3] rfl
  have hD : va_D A (wd40 cyI cyJ cyZ q_Tr q_Ws q_Pk2 q_traits q_text q_Sp q_Tb q_Mk wi_length pk2_wanted pk2_seen n_traits a_traits a_text) := hD.sub [0, 1, 4, 2, 3] (by decide) rfl
  obtain rfl := Option.some.inj h
  exact W.iret (v := r5z) hx hb hr (fun t ht hW => ⟨⟨_, (), rfl, rfl, by rw [ht]; exact hP, hD⟩, hS.F ht⟩) hS.2.2 dX10_numberAt_48 hlocks
def s_X10_numberAt_10 (N : Nat) (v1 : Int32) (wi_length : Int32) (pk2_wanted : Int32) (n_traits : Nat) (a_traits : Nat → Int32) (a_text : Nat → Int32) (k_10 : (Int32 × Int32) → Option (Int32 × Int32 × Int32)) (v3 : Int32) (pk2_seen : Int32) : Option (Int32 × Int32 × Int32) :=
  if v1 < v3 then
    j_X10_numberAt_41 N pk2_wanted pk2_seen
  else
    Option.bind (f_X10_agrees N v3 wi_length n_traits a_traits a_text) fun r8z =>
    if r8z = 0 then
      xl (v3 + (1 : Int32)) fun y12z =>
      k_10 (y12z, pk2_seen)
    else
      Option.bind (f_X2_isNext N  pk2_wanted pk2_seen) fun r13z =>
      if r13z.1 = 0 then
        xl (v3 + (1 : Int32)) fun y17z =>
        k_10 (y17z, r13z.2)
      else
        some (v3, pk2_wanted, r13z.2)
def l_X10_numberAt_10 (N : Nat) (v1 : Int32) (wi_length : Int32) (pk2_wanted : Int32) (n_traits : Nat) (a_traits : Nat → Int32) (a_text : Nat → Int32) (n : Nat) (z : Int32 × Int32) : Option (Int32 × Int32 × Int32) := lp (fun k z => s_X10_numberAt_10 N v1 wi_length pk2_wanted n_traits a_traits a_text k z.1 z.2) n z
set_option maxRecDepth 100000 in
set_option maxHeartbeats 4000000 in
theorem k_X10_numberAt_10 {p : Program} {l : Launch} {e : Env} {s : State} {m : MethodId} {args : Array Value} {below : List Frame} {meth : Method} {c : Code} {dC : Nat → ClassId} {dI : Nat → Nat → Nat} {cyI cyJ cyZ : ClassId} {A : Nat → Prop} (C0 : mC p s m meth c args cX10_numberAt (some .int) 4 RX10 wsX10_numberAt (gK dC dI cyI cyJ cyZ) A) (N : Nat) (res : Int32 × Int32 × Int32) (q_Tr : Nat) (q_Ws : Nat) (q_Pk2 : Nat) (q_traits : Nat) (q_text : Nat) (q_Sp : Nat) (q_Tb : Nat) (q_Mk : Nat) (v1 : Int32) (wi_length : Int32) (pk2_wanted : Int32) (n_traits : Nat) (a_traits : Nat → Int32) (a_text : Nat → Int32) : ∀ (n : Nat) (v3 : Int32) (pk2_seen : Int32), l_X10_numberAt_10 N v1 wi_length pk2_wanted n_traits a_traits a_text n (v3, pk2_seen) = some res → ∀ (H : Heap) (locs : List Loc), va_P (dC, dI) vwCl (wd40 cyI cyJ cyZ q_Tr q_Ws q_Pk2 q_traits q_text q_Sp q_Tb q_Mk wi_length pk2_wanted pk2_seen n_traits a_traits a_text) H → va_D A (wd40 cyI cyJ cyZ q_Tr q_Ws q_Pk2 q_traits q_text q_Sp q_Tb q_Mk wi_length pk2_wanted pk2_seen n_traits a_traits a_text) → va_S A s.heap H locs → ∀ (ls : Array Slot), lv_has ls 4 [(0, .ref q_Ws), (1, .int v1), (3, .int v3)] → W p l e (headSpec wsX10_numberAt rm_X10_numberAt).room s m args below meth c H locs 0 0 (MQ below (va_Qi (fun (r : Int32) (_ : Unit) => r = res.1) (bW dC dI (fun (u : Unit) => (wd40 cyI cyJ cyZ q_Tr q_Ws q_Pk2 q_traits q_text q_Sp q_Tb q_Mk wi_length res.2.1 res.2.2 n_traits a_traits a_text)) A) A) args s 0 0 A) (F0 m 10 ls []) := by
  obtain ⟨hx, hb, hr, hml, hown, hts, hlocks, hG, hA⟩ := id C0
  have hK := hG.1
  intro n
  induction n with
  | zero =>
    intro v3 pk2_seen h
    cases h
  | succ n ih =>
    intro v3 pk2_seen h H locs hP hD hS ls hl
    have h : s_X10_numberAt_10 N v1 wi_length pk2_wanted n_traits a_traits a_text (l_X10_numberAt_10 N v1 wi_length pk2_wanted n_traits a_traits a_text n) v3 pk2_seen = some res := h
    unfold s_X10_numberAt_10 at h
    refine lv_iload_n hx hb dX10_numberAt_10 rfl (lv_at hl 2 rfl) ?_
    refine lv_iload_n hx hb dX10_numberAt_11 rfl (lv_at hl 1 rfl) ?_
    refine lv_icmp_gt (tgt := 41) hx hb dX10_numberAt_12 (by decide) (fun c4z => ?_) (fun c4z => ?_)
    · have h := xt h c4z
      exact k_X10_numberAt_41 C0 N res q_Tr q_Ws q_Pk2 q_traits q_text q_Sp q_Tb q_Mk wi_length pk2_wanted pk2_seen n_traits a_traits a_text  h _ _ hP hD hS _ (lv_sub hl [0] rfl)
    · have h := xf h c4z
      refine lv_aload_n hx hb dX10_numberAt_15 rfl (lv_at hl 0 rfl) ?_
      refine lv_iload_n hx hb dX10_numberAt_16 rfl (lv_at hl 2 rfl) ?_
      obtain ⟨r8z, hr8z, h⟩ := xb_at h
      have hPc := hP.sub (ws' := (wd39 cyI cyJ cyZ q_Tr q_Ws q_traits q_text q_Sp q_Tb q_Mk q_Pk2 wi_length n_traits a_traits a_text)) [0, 1, 3, 4] rfl
      have hDc := hD.sub (ws' := (wd39 cyI cyJ cyZ q_Tr q_Ws q_traits q_text q_Sp q_Tb q_Mk q_Pk2 wi_length n_traits a_traits a_text)) [0, 1, 3, 4] (by decide) rfl
      refine cal_i [0, 1, 3, 4] [2] (va_runV (As := [.int v3]) (rest := []) ⟨hx, hb, hml, hown, hts⟩ (c_X10_agrees l dC dI cyI cyJ cyZ N r8z H.size q_Tr q_Ws q_traits q_text q_Sp q_Tb q_Mk q_Pk2 v3 wi_length n_traits a_traits a_text hr8z) (cwV 1 hts gX10_numberAt_X10_agrees rfl rfl rfl ⟨rfl, hd_X10_agrees⟩ ⟨Nat.le_of_ble_eq_true rfl, Nat.le_of_ble_eq_true rfl⟩) ⟨pC.blind, va_recv hK hPc (ci := 10) (q0 := 1) rfl rfl, pC.pre hPc hG hDc⟩ rfl rfl hl.1 rfl (lv_room (Nat.le_of_ble_eq_true rfl)) dX10_numberAt_17 ⟨Nat.zero_le _, Nat.zero_le _⟩) hP hD hS hA rfl rfl rfl (by decide) (fun x10z u9z H locs hw hP hD hS => ?_)
      obtain rfl := hw.symm
      have hP : va_P (dC, dI) vwCl (wd40 cyI cyJ cyZ q_Tr q_Ws q_Pk2 q_traits q_text q_Sp q_Tb q_Mk wi_length pk2_wanted pk2_seen n_traits a_traits a_text) H := hP.sub [1, 2, 0, 3, 4] rfl
      have hD : va_D A (wd40 cyI cyJ cyZ q_Tr q_Ws q_Pk2 q_traits q_text q_Sp q_Tb q_Mk wi_length pk2_wanted pk2_seen n_traits a_traits a_text) := hD.sub [1, 2, 0, 3, 4] (by decide) rfl
      refine lv_if_eq (tgt := 35) hx hb dX10_numberAt_20 (by decide) (fun c11z => ?_) (fun c11z => ?_)
      · have h := xt h c11z
        obtain ⟨y12z, ey12z⟩ : ∃ z : Int32, z = v3 + (1 : Int32) := ⟨_, rfl⟩
        have h := xl_at h ey12z
        refine lv_iinc (v := y12z) (lv' := [(3, .int y12z), (0, .ref q_Ws), (1, .int v1)]) hx hb dX10_numberAt_35 hl (k := 2) rfl (by rw [ey12z]; rfl) (by decide) rfl (fun ls hl => ?_)
        refine lv_goto (tgt := 10) hx hb dX10_numberAt_38 (by decide) ?_
        exact ih y12z pk2_seen h _ _ hP hD hS _ (lv_sub hl [1, 2, 0] rfl)
      · have h := xf h c11z
        refine lv_aload_n hx hb dX10_numberAt_23 rfl (lv_at hl 0 rfl) ?_
        refine va_get (D := (dC, dI)) (ci := 10) (v := .ref q_Pk2) (C := RX10) (T := TX10) (N := 4) hx hb hts iw_X10_numberAt_X10 hown hK hP 1 rfl rfl 1 (by decide) (hts (.fieldLink RX10 12 "GoesInto$Wishes" "pick" "LGoesInto$Pick;") (List.mem_of_getElem? (i := 1) rfl)) (fun _ h9 => h9) rfl dX10_numberAt_24 ?_
        obtain ⟨r13z, hr13z, h⟩ := xb_at h
        have hPc := hP.sub (ws' := (wd16 cyI cyJ cyZ q_Pk2 pk2_wanted pk2_seen)) [2] rfl
        have hDc := hD.sub (ws' := (wd16 cyI cyJ cyZ q_Pk2 pk2_wanted pk2_seen)) [2] (by decide) rfl
        refine cal_i [2] [0, 1, 3, 4] (va_runV (As := []) (rest := []) ⟨hx, hb, hml, hown, hts⟩ (c_X2_isNext l dC dI cyI cyJ cyZ N r13z H.size q_Pk2  pk2_wanted pk2_seen hr13z) (cwV 0 hts gX10_numberAt_X2_isNext rfl rfl rfl ⟨rfl, hd_X2_isNext⟩ ⟨Nat.le_of_ble_eq_true rfl, Nat.le_of_ble_eq_true rfl⟩) ⟨pC.blind, va_recv hK hPc (ci := 2) (q0 := 0) rfl rfl, pC.pre hPc hG hDc⟩ rfl rfl hl.1 rfl (lv_room (Nat.le_of_ble_eq_true rfl)) dX10_numberAt_27 ⟨Nat.zero_le _, Nat.zero_le _⟩) hP hD hS hA rfl rfl rfl (by decide) (fun x15z u14z H locs hw hP hD hS => ?_)
        obtain rfl := hw.symm
        have hP : va_P (dC, dI) vwCl (wd40 cyI cyJ cyZ q_Tr q_Ws q_Pk2 q_traits q_text q_Sp q_Tb q_Mk wi_length pk2_wanted r13z.2 n_traits a_traits a_text) H := hP.sub [0, 1, 4, 2, 3] rfl
        have hD : va_D A (wd40 cyI cyJ cyZ q_Tr q_Ws q_Pk2 q_traits q_text q_Sp q_Tb q_Mk wi_length pk2_wanted r13z.2 n_traits a_traits a_text) := hD.sub [0, 1, 4, 2, 3] (by decide) rfl
        refine lv_if_eq (tgt := 35) hx hb dX10_numberAt_30 (by decide) (fun c16z => ?_) (fun c16z => ?_)
        · have h := xt h c16z
          obtain ⟨y17z, ey17z⟩ : ∃ z : Int32, z = v3 + (1 : Int32) := ⟨_, rfl⟩
          have h := xl_at h ey17z
          refine lv_iinc (v := y17z) (lv' := [(3, .int y17z), (0, .ref q_Ws), (1, .int v1)]) hx hb dX10_numberAt_35 hl (k := 2) rfl (by rw [ey17z]; rfl) (by decide) rfl (fun ls hl => ?_)
          refine lv_goto (tgt := 10) hx hb dX10_numberAt_38 (by decide) ?_
          exact ih y17z r13z.2 h _ _ hP hD hS _ (lv_sub hl [1, 2, 0] rfl)
        · have h := xf h c16z
          refine lv_iload_n hx hb dX10_numberAt_33 rfl (lv_at hl 2 rfl) ?_
          obtain rfl := Option.some.inj h
          exact W.iret (v := v3) hx hb hr (fun t ht hW => ⟨⟨_, (), rfl, rfl, by rw [ht]; exact hP, hD⟩, hS.F ht⟩) hS.2.2 dX10_numberAt_34 hlocks
def f_X10_numberAt (N : Nat) (v1 : Int32) (v2 : Int32) (wi_length : Int32) (pk2_wanted : Int32) (pk2_seen : Int32) (n_traits : Nat) (a_traits : Nat → Int32) (a_text : Nat → Int32) : Option (Int32 × Int32 × Int32) :=
  Option.bind (f_X2_begin N v2 pk2_wanted pk2_seen) fun r1z =>
  l_X10_numberAt_10 N v1 wi_length r1z.1 n_traits a_traits a_text N ((1 : Int32), r1z.2)
set_option maxRecDepth 100000 in
set_option maxHeartbeats 4000000 in
theorem k_X10_numberAt_0 {p : Program} {l : Launch} {e : Env} {s : State} {m : MethodId} {args : Array Value} {below : List Frame} {meth : Method} {c : Code} {dC : Nat → ClassId} {dI : Nat → Nat → Nat} {cyI cyJ cyZ : ClassId} {A : Nat → Prop} (C0 : mC p s m meth c args cX10_numberAt (some .int) 4 RX10 wsX10_numberAt (gK dC dI cyI cyJ cyZ) A) (N : Nat) (res : Int32 × Int32 × Int32) (q_Tr : Nat) (q_Ws : Nat) (q_Pk2 : Nat) (q_traits : Nat) (q_text : Nat) (q_Sp : Nat) (q_Tb : Nat) (q_Mk : Nat) (v1 : Int32) (v2 : Int32) (wi_length : Int32) (pk2_wanted : Int32) (pk2_seen : Int32) (n_traits : Nat) (a_traits : Nat → Int32) (a_text : Nat → Int32) (h : f_X10_numberAt N v1 v2 wi_length pk2_wanted pk2_seen n_traits a_traits a_text = some res) : ∀ (H : Heap) (locs : List Loc), va_P (dC, dI) vwCl (wd40 cyI cyJ cyZ q_Tr q_Ws q_Pk2 q_traits q_text q_Sp q_Tb q_Mk wi_length pk2_wanted pk2_seen n_traits a_traits a_text) H → va_D A (wd40 cyI cyJ cyZ q_Tr q_Ws q_Pk2 q_traits q_text q_Sp q_Tb q_Mk wi_length pk2_wanted pk2_seen n_traits a_traits a_text) → va_S A s.heap H locs → ∀ (ls : Array Slot), lv_has ls 4 [(0, .ref q_Ws), (1, .int v1), (2, .int v2)] → W p l e (headSpec wsX10_numberAt rm_X10_numberAt).room s m args below meth c H locs 0 0 (MQ below (va_Qi (fun (r : Int32) (_ : Unit) => r = res.1) (bW dC dI (fun (u : Unit) => (wd40 cyI cyJ cyZ q_Tr q_Ws q_Pk2 q_traits q_text q_Sp q_Tb q_Mk wi_length res.2.1 res.2.2 n_traits a_traits a_text)) A) A) args s 0 0 A) (F0 m 0 ls []) := by
  obtain ⟨hx, hb, hr, hml, hown, hts, hlocks, hG, hA⟩ := id C0
  have hK := hG.1
  intro H locs hP hD hS ls hl
  unfold f_X10_numberAt at h
  refine lv_aload_n hx hb dX10_numberAt_0 rfl (lv_at hl 0 rfl) ?_
  refine va_get (D := (dC, dI)) (ci := 10) (v := .ref q_Pk2) (C := RX10) (T := TX10) (N := 4) hx hb hts iw_X10_numberAt_X10 hown hK hP 1 rfl rfl 1 (by decide) (hts (.fieldLink RX10 12 "GoesInto$Wishes" "pick" "LGoesInto$Pick;") (List.mem_of_getElem? (i := 1) rfl)) (fun _ h9 => h9) rfl dX10_numberAt_1 ?_
  refine lv_iload_n hx hb dX10_numberAt_4 rfl (lv_at hl 2 rfl) ?_
  obtain ⟨r1z, hr1z, h⟩ := xb_at h
  have hPc := hP.sub (ws' := (wd16 cyI cyJ cyZ q_Pk2 pk2_wanted pk2_seen)) [2] rfl
  have hDc := hD.sub (ws' := (wd16 cyI cyJ cyZ q_Pk2 pk2_wanted pk2_seen)) [2] (by decide) rfl
  refine cal_v [2] [0, 1, 3, 4] (va_runV (As := [.int v2]) (rest := []) ⟨hx, hb, hml, hown, hts⟩ (c_X2_begin l dC dI cyI cyJ cyZ N r1z H.size q_Pk2 v2 pk2_wanted pk2_seen hr1z) (cwV 1 hts gX10_numberAt_X2_begin rfl rfl rfl ⟨rfl, hd_X2_begin⟩ ⟨Nat.le_of_ble_eq_true rfl, Nat.le_of_ble_eq_true rfl⟩) ⟨pC.blind, va_recv hK hPc (ci := 2) (q0 := 0) rfl rfl, pC.pre hPc hG hDc⟩ rfl rfl hl.1 rfl (lv_room (Nat.le_of_ble_eq_true rfl)) dX10_numberAt_5 ⟨Nat.zero_le _, Nat.zero_le _⟩) hP hD hS hA rfl rfl rfl (by decide) (fun u2z H locs _ hP hD hS => ?_)
  have hP : va_P (dC, dI) vwCl (wd40 cyI cyJ cyZ q_Tr q_Ws q_Pk2 q_traits q_text q_Sp q_Tb q_Mk wi_length r1z.1 r1z.2 n_traits a_traits a_text) H := hP.sub [0, 1, 4, 2, 3] rfl
  have hD : va_D A (wd40 cyI cyJ cyZ q_Tr q_Ws q_Pk2 q_traits q_text q_Sp q_Tb q_Mk wi_length r1z.1 r1z.2 n_traits a_traits a_text) := hD.sub [0, 1, 4, 2, 3] (by decide) rfl
  refine lv_iconst (v := (1 : Int32)) hx hb dX10_numberAt_8 (by decide) ?_
  refine lv_istore_n (lv' := [(3, .int (1 : Int32)), (0, .ref q_Ws), (1, .int v1), (2, .int v2)]) hx hb dX10_numberAt_9 rfl hl (by decide) rfl (fun ls hl => ?_)
  exact k_X10_numberAt_10 C0 N res q_Tr q_Ws q_Pk2 q_traits q_text q_Sp q_Tb q_Mk v1 wi_length r1z.1 n_traits a_traits a_text N (1 : Int32) r1z.2 h _ _ hP hD hS _ (lv_sub hl [1, 2, 0] rfl)
set_option maxRecDepth 100000 in
set_option maxHeartbeats 4000000 in
theorem c_X10_numberAt (l : Launch) (dC : Nat → ClassId) (dI : Nat → Nat → Nat) (cyI cyJ cyZ : ClassId) (N : Nat) (res : Int32 × Int32 × Int32) (sz : Nat) (q_Tr : Nat) (q_Ws : Nat) (q_Pk2 : Nat) (q_traits : Nat) (q_text : Nat) (q_Sp : Nat) (q_Tb : Nat) (q_Mk : Nat) (v1 : Int32) (v2 : Int32) (wi_length : Int32) (pk2_wanted : Int32) (pk2_seen : Int32) (n_traits : Nat) (a_traits : Nat → Int32) (a_text : Nat → Int32) (h : f_X10_numberAt N v1 v2 wi_length pk2_wanted pk2_seen n_traits a_traits a_text = some res) : Met l yX10_numberAt wsX10_numberAt rm_X10_numberAt (pC dC dI cyI cyJ cyZ [.ref q_Ws, .int v1, .int v2] sz (wd40 cyI cyJ cyZ q_Tr q_Ws q_Pk2 q_traits q_text q_Sp q_Tb q_Mk wi_length pk2_wanted pk2_seen n_traits a_traits a_text)) (va_Qi (fun (r : Int32) (_ : Unit) => r = res.1) (bW dC dI (fun (u : Unit) => (wd40 cyI cyJ cyZ q_Tr q_Ws q_Pk2 q_traits q_text q_Sp q_Tb q_Mk wi_length res.2.1 res.2.2 n_traits a_traits a_text)) (va_A (wd40 cyI cyJ cyZ q_Tr q_Ws q_Pk2 q_traits q_text q_Sp q_Tb q_Mk wi_length pk2_wanted pk2_seen n_traits a_traits a_text) sz)) (va_A (wd40 cyI cyJ cyZ q_Tr q_Ws q_Pk2 q_traits q_text q_Sp q_Tb q_Mk wi_length pk2_wanted pk2_seen n_traits a_traits a_text) sz)) 0 0 (va_A (wd40 cyI cyJ cyZ q_Tr q_Ws q_Pk2 q_traits q_text q_Sp q_Tb q_Mk wi_length pk2_wanted pk2_seen n_traits a_traits a_text) sz) := by
  refine Met.ofW (cc := cX10_numberAt) (maxL := 4) (ret := (some .int)) (by decide) rfl ?_
  intro p e s m args below meth c s₁ B hml hv
  obtain ⟨rfl, hsz, hP, hG, hD0⟩ := hv
  have hx := B.exec
  have hb := B.bytes
  have hr := B.returns
  have hts := atoms_spec (ws := wsX10_numberAt) B.pre
  have hown : s.vm.findClass RX10 = some m.cls := findClass_of_methodNamed B.named
  have hlocks := B.notSynchronized
  subst hsz
  have hD := hD0.self (sz := s.heap.size)
  generalize hAe : va_A (wd40 cyI cyJ cyZ q_Tr q_Ws q_Pk2 q_traits q_text q_Sp q_Tb q_Mk wi_length pk2_wanted pk2_seen n_traits a_traits a_text) s.heap.size = A at hD ⊢
  have hA : ∀ q : Nat, s.heap.size ≤ q → A q := fun q h => by rw [← hAe]; exact Or.inr h
  have hS : va_S A s.heap s.heap [] := va_S.rf
  have hl := lv_entry ([.ref q_Ws, .int v1, .int v2]) (n := 4) (Nat.le_of_ble_eq_true rfl)
  rw [lg_entry_eq]
  generalize (lg_sl ([.ref q_Ws, .int v1, .int v2]) ++ List.replicate (4 - (lg_sl ([.ref q_Ws, .int v1, .int v2])).length) Slot.unset).toArray = ls at hl ⊢
  have hl : lv_has ls 4 [(0, .ref q_Ws), (1, .int v1), (2, .int v2)] := hl
  exact k_X10_numberAt_0 ⟨hx, hb, hr, hml, hown, hts, hlocks, hG, hA⟩ N res q_Tr q_Ws q_Pk2 q_traits q_text q_Sp q_Tb q_Mk v1 v2 wi_length pk2_wanted pk2_seen n_traits a_traits a_text  h _ _ hP hD hS _ hl
