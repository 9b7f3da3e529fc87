abbrev rm_X11_within : Room := { frames := 0, cells := 0, slots := 0, locals := 0 }
theorem hd_X11_within : yX11_within.cls ≠ "java/lang/invoke/MethodHandle" ∧ yX11_within.cls ≠ "java/lang/invoke/VarHandle" ∧ (parseMethodDescriptor yX11_within.desc).map (fun d => d.parameters.length) = some 3 := by decide +kernel
def f_X11_within (N : Nat) (v0 : Int32) (v1 : Int32) (v2 : Int32) : Option (Int32) :=
  if v0 < v1 then
    some (0 : Int32)
  else
    if v2 < v0 then
      some (0 : Int32)
    else
      some (1 : Int32)
set_option maxRecDepth 100000 in
set_option maxHeartbeats 4000000 in
theorem k_X11_within_0 {p : Program} {l : Launch} {e : Env} {s : State} {m : MethodId} {args : Array Value} {below : List Frame} {meth : Method} {c : Code} {dC : Nat → ClassId} {dI : Nat → Nat → Nat} {cyI cyJ cyZ : ClassId} {A : Nat → Prop} (C0 : mC p s m meth c args cX11_within (some .boolean) 3 RX11 wsX11_within (gK dC dI cyI cyJ cyZ) A) (N : Nat) (res : Int32) (v0 : Int32) (v1 : Int32) (v2 : Int32) (h : f_X11_within N v0 v1 v2 = some res) : ∀ (H : Heap) (locs : List Loc), va_P (dC, dI) vwCl (wd37 cyI cyJ cyZ) H → va_D A (wd37 cyI cyJ cyZ) → va_S A s.heap H locs → ∀ (ls : Array Slot), lv_has ls 3 [(0, .int v0), (1, .int v1), (2, .int v2)] → W p l e (headSpec wsX11_within rm_X11_within).room s m args below meth c H locs 0 0 (MQ below (va_Qi (fun (r : Int32) (_ : Unit) => r = res) (bW dC dI (fun (u : Unit) => (wd37 cyI cyJ cyZ)) A) A) args s 0 0 A) (F0 m 0 ls []) := by
  obtain ⟨hx, hb, hr, hml, hown, hts, hlocks, hG, hA⟩ := id C0
  have hK := hG.1
  intro H locs hP hD hS ls hl
  unfold f_X11_within at h
  refine lv_iload_n hx hb dX11_within_0 rfl (lv_at hl 0 rfl) ?_
  refine lv_iload_n hx hb dX11_within_1 rfl (lv_at hl 1 rfl) ?_
  refine lv_icmp_lt (tgt := 14) hx hb dX11_within_2 (by decide) (fun c1z => ?_) (fun c1z => ?_)
  · have h := xt h c1z
    refine lv_iconst (v := (0 : Int32)) hx hb dX11_within_14 (by decide) ?_
    obtain rfl := Option.some.inj h
    exact W.zret (v := (0 : Int32)) hx hb hr rfl (fun t ht hW => ⟨⟨_, (), rfl, rfl, by rw [ht]; exact hP, hD⟩, hS.F ht⟩) hS.2.2 dX11_within_15 hlocks
  · have h := xf h c1z
    refine lv_iload_n hx hb dX11_within_5 rfl (lv_at hl 0 rfl) ?_
    refine lv_iload_n hx hb dX11_within_6 rfl (lv_at hl 2 rfl) ?_
    refine lv_icmp_gt (tgt := 14) hx hb dX11_within_7 (by decide) (fun c2z => ?_) (fun c2z => ?_)
    · have h := xt h c2z
      refine lv_iconst (v := (0 : Int32)) hx hb dX11_within_14 (by decide) ?_
      obtain rfl := Option.some.inj h
      exact W.zret (v := (0 : Int32)) hx hb hr rfl (fun t ht hW => ⟨⟨_, (), rfl, rfl, by rw [ht]; exact hP, hD⟩, hS.F ht⟩) hS.2.2 dX11_within_15 hlocks
    · have h := xf h c2z
      refine lv_iconst (v := (1 : Int32)) hx hb dX11_within_10 (by decide) ?_
      refine lv_goto (tgt := 15) hx hb dX11_within_11 (by decide) ?_
      obtain rfl := Option.some.inj h
      exact W.zret (v := (1 : Int32)) hx hb hr rfl (fun t ht hW => ⟨⟨_, (), rfl, rfl, by rw [ht]; exact hP, hD⟩, hS.F ht⟩) hS.2.2 dX11_within_15 hlocks
set_option maxRecDepth 100000 in
set_option maxHeartbeats 4000000 in
theorem c_X11_within (l : Launch) (dC : Nat → ClassId) (dI : Nat → Nat → Nat) (cyI cyJ cyZ : ClassId) (N : Nat) (res : Int32) (sz : Nat) (v0 : Int32) (v1 : Int32) (v2 : Int32) (h : f_X11_within N v0 v1 v2  = some res) : Met l yX11_within wsX11_within rm_X11_within (pC dC dI cyI cyJ cyZ [.int v0, .int v1, .int v2] sz (wd37 cyI cyJ cyZ)) (va_Qi (fun (r : Int32) (_ : Unit) => r = res) (bW dC dI (fun (u : Unit) => (wd37 cyI cyJ cyZ)) (va_A (wd37 cyI cyJ cyZ) sz)) (va_A (wd37 cyI cyJ cyZ) sz)) 0 0 (va_A (wd37 cyI cyJ cyZ) sz) := by
  refine Met.ofW (cc := cX11_within) (maxL := 3) (ret := (some .boolean)) (by decide) rfl ?_
  intro p e s m args below meth c s₁ B hml hv
  obtain ⟨rfl, hsz, hP, hG, hD0⟩ := hv
  have hx := B.exec
  have hb := B.bytes
  have hr := B.returns
  have hts := atoms_spec (ws := wsX11_within) B.pre
  have hown : s.vm.findClass RX11 = some m.cls := findClass_of_methodNamed B.named
  have hlocks := B.notSynchronized
  subst hsz
  have hD := hD0.self (sz := s.heap.size)
  generalize hAe : va_A (wd37 cyI cyJ cyZ) s.heap.size = A at hD ⊢
  have hA : ∀ q : Nat, s.heap.size ≤ q → A q := fun q h => by rw [← hAe]; exact Or.inr h
  have hS : va_S A s.heap s.heap [] := va_S.rf
  have hl := lv_entry ([.int v0, .int v1, .int v2]) (n := 3) (Nat.le_of_ble_eq_true rfl)
  rw [lg_entry_eq]
  generalize (lg_sl ([.int v0, .int v1, .int v2]) ++ List.replicate (3 - (lg_sl ([.int v0, .int v1, .int v2])).length) Slot.unset).toArray = ls at hl ⊢
  have hl : lv_has ls 3 [(0, .int v0), (1, .int v1), (2, .int v2)] := hl
  exact k_X11_within_0 ⟨hx, hb, hr, hml, hown, hts, hlocks, hG, hA⟩ N res  v0 v1 v2  h _ _ hP hD hS _ hl
abbrev rm_X11_isNumber : Room := { frames := 0, cells := 0, slots := 0, locals := 0 }
theorem hd_X11_isNumber : yX11_isNumber.cls ≠ "java/lang/invoke/MethodHandle" ∧ yX11_isNumber.cls ≠ "java/lang/invoke/VarHandle" ∧ (parseMethodDescriptor yX11_isNumber.desc).map (fun d => d.parameters.length) = some 1 := by decide +kernel
def f_X11_isNumber (N : Nat) (v0 : Int64) : Option (Int32) :=
  if v0 < (1 : Int64) then
    some (0 : Int32)
  else
    if (10000000000 : Int64) < v0 then
      some (0 : Int32)
    else
      some (1 : Int32)
set_option maxRecDepth 100000 in
set_option maxHeartbeats 4000000 in
theorem k_X11_isNumber_0 {p : Program} {l : Launch} {e : Env} {s : State} {m : MethodId} {args : Array Value} {below : List Frame} {meth : Method} {c : Code} {dC : Nat → ClassId} {dI : Nat → Nat → Nat} {cyI cyJ cyZ : ClassId} {A : Nat → Prop} (C0 : mC p s m meth c args cX11_isNumber (some .boolean) 2 RX11 wsX11_isNumber (gK dC dI cyI cyJ cyZ) A) (N : Nat) (res : Int32) (v0 : Int64) (h : f_X11_isNumber N v0 = some res) : ∀ (H : Heap) (locs : List Loc), va_P (dC, dI) vwCl (wd37 cyI cyJ cyZ) H → va_D A (wd37 cyI cyJ cyZ) → va_S A s.heap H locs → ∀ (ls : Array Slot), lv_has ls 2 [(0, .long v0)] → W p l e (headSpec wsX11_isNumber rm_X11_isNumber).room s m args below meth c H locs 0 0 (MQ below (va_Qi (fun (r : Int32) (_ : Unit) => r = res) (bW dC dI (fun (u : Unit) => (wd37 cyI cyJ cyZ)) A) A) args s 0 0 A) (F0 m 0 ls []) := by
  obtain ⟨hx, hb, hr, hml, hown, hts, hlocks, hG, hA⟩ := id C0
  have hK := hG.1
  intro H locs hP hD hS ls hl
  unfold f_X11_isNumber at h
  refine lv_lload_n hx hb dX11_isNumber_0 rfl (lv_at hl 0 rfl) ?_
  refine lv_lconst (v := (1 : Int64)) hx hb dX11_isNumber_1 (by decide) ?_
  refine W.lcmp hx hb dX11_isNumber_2 ?_
  refine lv_if_lt (tgt := 18) hx hb dX11_isNumber_3 (by decide) (fun c1z => ?_) (fun c1z => ?_)
  · have c1z := (lg_cmp_lt _ _).mp c1z
    have h := xt h c1z
    refine lv_iconst (v := (0 : Int32)) hx hb dX11_isNumber_18 (by decide) ?_
    obtain rfl := Option.some.inj h
    exact W.zret (v := (0 : Int32)) hx hb hr rfl (fun t ht hW => ⟨⟨_, (), rfl, rfl, by rw [ht]; exact hP, hD⟩, hS.F ht⟩) hS.2.2 dX11_isNumber_19 hlocks
  · have c1z := fun z => c1z ((lg_cmp_lt _ _).mpr z)
    have h := xf h c1z
    refine lv_lload_n hx hb dX11_isNumber_6 rfl (lv_at hl 0 rfl) ?_
    refine lv_ldc2 (v := (10000000000 : Int64)) hx hb hown (hts (.constantLong RX11 220 (10000000000)) (List.mem_of_getElem? (i := 1) rfl)) dX11_isNumber_7 ?_
    refine W.lcmp hx hb dX11_isNumber_10 ?_
    refine lv_if_gt (tgt := 18) hx hb dX11_isNumber_11 (by decide) (fun c2z => ?_) (fun c2z => ?_)
    · have c2z := (lg_cmp_gt _ _).mp c2z
      have h := xt h c2z
      refine lv_iconst (v := (0 : Int32)) hx hb dX11_isNumber_18 (by decide) ?_
      obtain rfl := Option.some.inj h
      exact W.zret (v := (0 : Int32)) hx hb hr rfl (fun t ht hW => ⟨⟨_, (), rfl, rfl, by rw [ht]; exact hP, hD⟩, hS.F ht⟩) hS.2.2 dX11_isNumber_19 hlocks
    · have c2z := fun z => c2z ((lg_cmp_gt _ _).mpr z)
      have h := xf h c2z
      refine lv_iconst (v := (1 : Int32)) hx hb dX11_isNumber_14 (by decide) ?_
      refine lv_goto (tgt := 19) hx hb dX11_isNumber_15 (by decide) ?_
      obtain rfl := Option.some.inj h
      exact W.zret (v := (1 : Int32)) hx hb hr rfl (fun t ht hW => ⟨⟨_, (), rfl, rfl, by rw [ht]; exact hP, hD⟩, hS.F ht⟩) hS.2.2 dX11_isNumber_19 hlocks
set_option maxRecDepth 100000 in
set_option maxHeartbeats 4000000 in
theorem c_X11_isNumber (l : Launch) (dC : Nat → ClassId) (dI : Nat → Nat → Nat) (cyI cyJ cyZ : ClassId) (N : Nat) (res : Int32) (sz : Nat) (v0 : Int64) (h : f_X11_isNumber N v0  = some res) : Met l yX11_isNumber wsX11_isNumber rm_X11_isNumber (pC dC dI cyI cyJ cyZ [.long v0] sz (wd37 cyI cyJ cyZ)) (va_Qi (fun (r : Int32) (_ : Unit) => r = res) (bW dC dI (fun (u : Unit) => (wd37 cyI cyJ cyZ)) (va_A (wd37 cyI cyJ cyZ) sz)) (va_A (wd37 cyI cyJ cyZ) sz)) 0 0 (va_A (wd37 cyI cyJ cyZ) sz) := by
  refine Met.ofW (cc := cX11_isNumber) (maxL := 2) (ret := (some .boolean)) (by decide) rfl ?_
  intro p e s m args below meth c s₁ B hml hv
  obtain ⟨rfl, hsz, hP, hG, hD0⟩ := hv
  have hx := B.exec
  have hb := B.bytes
  have hr := B.returns
  have hts := atoms_spec (ws := wsX11_isNumber) B.pre
  have hown : s.vm.findClass RX11 = some m.cls := findClass_of_methodNamed B.named
  have hlocks := B.notSynchronized
  subst hsz
  have hD := hD0.self (sz := s.heap.size)
  generalize hAe : va_A (wd37 cyI cyJ cyZ) s.heap.size = A at hD ⊢
  have hA : ∀ q : Nat, s.heap.size ≤ q → A q := fun q h => by rw [← hAe]; exact Or.inr h
  have hS : va_S A s.heap s.heap [] := va_S.rf
  have hl := lv_entry ([.long v0]) (n := 2) (Nat.le_of_ble_eq_true rfl)
  rw [lg_entry_eq]
  generalize (lg_sl ([.long v0]) ++ List.replicate (2 - (lg_sl ([.long v0])).length) Slot.unset).toArray = ls at hl ⊢
  have hl : lv_has ls 2 [(0, .long v0)] := hl
  exact k_X11_isNumber_0 ⟨hx, hb, hr, hml, hown, hts, hlocks, hG, hA⟩ N res  v0  h _ _ hP hD hS _ hl
abbrev rm_X11_isBound : Room := { frames := 1, cells := 0, slots := 0, locals := 22 }
theorem hd_X11_isBound : yX11_isBound.cls ≠ "java/lang/invoke/MethodHandle" ∧ yX11_isBound.cls ≠ "java/lang/invoke/VarHandle" ∧ (parseMethodDescriptor yX11_isBound.desc).map (fun d => d.parameters.length) = some 1 := by decide +kernel
def f_X11_isBound (N : Nat) (v0 : Int32) : Option (Int32) :=
  Option.bind (f_X11_within N v0 (1 : Int32) (50000 : Int32)) fun r1z =>
  if r1z = 0 ∨ r1z = 1 then
    some r1z
  else
    none
set_option maxRecDepth 100000 in
set_option maxHeartbeats 4000000 in
theorem k_X11_isBound_0 {p : Program} {l : Launch} {e : Env} {s : State} {m : MethodId} {args : Array Value} {below : List Frame} {meth : Method} {c : Code} {dC : Nat → ClassId} {dI : Nat → Nat → Nat} {cyI cyJ cyZ : ClassId} {A : Nat → Prop} (C0 : mC p s m meth c args cX11_isBound (some .boolean) 1 RX11 wsX11_isBound (gK dC dI cyI cyJ cyZ) A) (N : Nat) (res : Int32) (v0 : Int32) (h : f_X11_isBound N v0 = some res) : ∀ (H : Heap) (locs : List Loc), va_P (dC, dI) vwCl (wd37 cyI cyJ cyZ) H → va_D A (wd37 cyI cyJ cyZ) → va_S A s.heap H locs → ∀ (ls : Array Slot), lv_has ls 1 [(0, .int v0)] → W p l e (headSpec wsX11_isBound rm_X11_isBound).room s m args below meth c H locs 0 0 (MQ below (va_Qi (fun (r : Int32) (_ : Unit) => r = res) (bW dC dI (fun (u : Unit) => (wd37 cyI cyJ cyZ)) A) A) args s 0 0 A) (F0 m 0 ls []) := by
  obtain ⟨hx, hb, hr, hml, hown, hts, hlocks, hG, hA⟩ := id C0
  have hK := hG.1
  intro H locs hP hD hS ls hl
  unfold f_X11_isBound at h
  refine lv_iload_n hx hb dX11_isBound_0 rfl (lv_at hl 0 rfl) ?_
  refine lv_iconst (v := (1 : Int32)) hx hb dX11_isBound_1 (by decide) ?_
  refine lv_ldc (v := (50000 : Int32)) hx hb hown (hts (.constant RX11 222 (50000)) (List.mem_of_getElem? (i := 1) rfl)) dX11_isBound_2 ?_
  obtain ⟨r1z, hr1z, h⟩ := xb_at h
  have hPc := hP.sub (ws' := (wd37 cyI cyJ cyZ)) [] rfl
  have hDc := hD.sub (ws' := (wd37 cyI cyJ cyZ)) [] (by decide) rfl
  refine cal_i [] [] (va_runS (As := [.int v0, .int (1 : Int32), .int (50000 : Int32)]) (rest := []) ⟨hx, hb, hml, hown, hts⟩ (c_X11_within l dC dI cyI cyJ cyZ N r1z H.size  v0 (1 : Int32) (50000 : Int32)  hr1z) (va_cwS 3 hts gX11_isBound_X11_within rfl rfl rfl hd_X11_within ⟨Nat.le_of_ble_eq_true rfl, Nat.le_of_ble_eq_true rfl⟩) ⟨pC.blind, pC.pre hPc hG hDc⟩ rfl rfl hl.1 rfl (lv_room (Nat.le_of_ble_eq_true rfl)) dX11_isBound_4 ⟨Nat.zero_le _, Nat.zero_le _⟩) hP hD hS hA rfl rfl rfl (by decide) (fun x3z u2z H locs hw hP hD hS => ?_)
  obtain rfl := hw.symm
  have hP : va_P (dC, dI) vwCl (wd37 cyI cyJ cyZ) H := hP.sub [] rfl
  have hD : va_D A (wd37 cyI cyJ cyZ) := hD.sub [] (by decide) rfl
  obtain ⟨b4z, h⟩ := xa h
  obtain rfl := Option.some.inj h
  exact W.zret (v := r1z) hx hb hr (xz01 b4z) (fun t ht hW => ⟨⟨_, (), rfl, rfl, by rw [ht]; exact hP, hD⟩, hS.F ht⟩) hS.2.2 dX11_isBound_7 hlocks
set_option maxRecDepth 100000 in
set_option maxHeartbeats 4000000 in
theorem c_X11_isBound (l : Launch) (dC : Nat → ClassId) (dI : Nat → Nat → Nat) (cyI cyJ cyZ : ClassId) (N : Nat) (res : Int32) (sz : Nat) (v0 : Int32) (h : f_X11_isBound N v0  = some res) : Met l yX11_isBound wsX11_isBound rm_X11_isBound (pC dC dI cyI cyJ cyZ [.int v0] sz (wd37 cyI cyJ cyZ)) (va_Qi (fun (r : Int32) (_ : Unit) => r = res) (bW dC dI (fun (u : Unit) => (wd37 cyI cyJ cyZ)) (va_A (wd37 cyI cyJ cyZ) sz)) (va_A (wd37 cyI cyJ cyZ) sz)) 0 0 (va_A (wd37 cyI cyJ cyZ) sz) := by
  refine Met.ofW (cc := cX11_isBound) (maxL := 1) (ret := (some .boolean)) (by decide) rfl ?_
  intro p e s m args below meth c s₁ B hml hv
  obtain ⟨rfl, hsz, hP, hG, hD0⟩ := hv
  have hx := B.exec
  have hb := B.bytes
  have hr := B.returns
  have hts := atoms_spec (ws := wsX11_isBound) B.pre
  have hown : s.vm.findClass RX11 = some m.cls := findClass_of_methodNamed B.named
  have hlocks := B.notSynchronized
  subst hsz
  have hD := hD0.self (sz := s.heap.size)
  generalize hAe : va_A (wd37 cyI cyJ cyZ) s.heap.size = A at hD ⊢
  have hA : ∀ q : Nat, s.heap.size ≤ q → A q := fun q h => by rw [← hAe]; exact Or.inr h
  have hS : va_S A s.heap s.heap [] := va_S.rf
  have hl := lv_entry ([.int v0]) (n := 1) (Nat.le_of_ble_eq_true rfl)
  rw [lg_entry_eq]
  generalize (lg_sl ([.int v0]) ++ List.replicate (1 - (lg_sl ([.int v0])).length) Slot.unset).toArray = ls at hl ⊢
  have hl : lv_has ls 1 [(0, .int v0)] := hl
  exact k_X11_isBound_0 ⟨hx, hb, hr, hml, hown, hts, hlocks, hG, hA⟩ N res  v0  h _ _ hP hD hS _ hl
abbrev rm_X11_commonPart : Room := { frames := 0, cells := 0, slots := 0, locals := 0 }
theorem hd_X11_commonPart : yX11_commonPart.cls ≠ "java/lang/invoke/MethodHandle" ∧ yX11_commonPart.cls ≠ "java/lang/invoke/VarHandle" ∧ (parseMethodDescriptor yX11_commonPart.desc).map (fun d => d.parameters.length) = some 2 := by decide +kernel
def s_X11_commonPart_9 (N : Nat) (k_9 : (Int64 × Int64 × Int32) → Option (Int64)) (v4 : Int64) (v6 : Int64) (v8 : Int32) : Option (Int64) :=
  if (200 : Int32) ≤ v8 then
    some v4
  else
    if v6 = (0 : Int64) then
      some v4
    else
      if v6 = 0 then
        none
      else
        xl (v4 - v4 / v6 * v6) fun y4z =>
        xl (v8 + (1 : Int32)) fun y5z =>
        k_9 (v6, y4z, y5z)
def l_X11_commonPart_9 (N : Nat) (n : Nat) (z : Int64 × Int64 × Int32) : Option (Int64) := lp (fun k z => s_X11_commonPart_9 N k z.1 z.2.1 z.2.2) n z
set_option maxRecDepth 100000 in
set_option maxHeartbeats 4000000 in
theorem k_X11_commonPart_9 {p : Program} {l : Launch} {e : Env} {s : State} {m : MethodId} {args : Array Value} {below : List Frame} {meth : Method} {c : Code} {dC : Nat → ClassId} {dI : Nat → Nat → Nat} {cyI cyJ cyZ : ClassId} {A : Nat → Prop} (C0 : mC p s m meth c args cX11_commonPart (some .long) 11 RX11 wsX11_commonPart (gK dC dI cyI cyJ cyZ) A) (N : Nat) (res : Int64) : ∀ (n : Nat) (v4 : Int64) (v6 : Int64) (v8 : Int32), l_X11_commonPart_9 N n (v4, v6, v8) = some res → ∀ (H : Heap) (locs : List Loc), va_P (dC, dI) vwCl (wd37 cyI cyJ cyZ) H → va_D A (wd37 cyI cyJ cyZ) → va_S A s.heap H locs → ∀ (ls : Array Slot), lv_has ls 11 [(4, .long v4), (6, .long v6), (8, .int v8)] → W p l e (headSpec wsX11_commonPart rm_X11_commonPart).room s m args below meth c H locs 0 0 (MQ below (va_Ql (fun (r : Int64) (_ : Unit) => r = res) (bW dC dI (fun (u : Unit) => (wd37 cyI cyJ cyZ)) A) A) args s 0 0 A) (F0 m 9 ls []) := by
  obtain ⟨hx, hb, hr, hml, hown, hts, hlocks, hG, hA⟩ := id C0
  have hK := hG.1
  intro n
  induction n with
  | zero =>
    intro v4 v6 v8 h
    cases h
  | succ n ih =>
    intro v4 v6 v8 h H locs hP hD hS ls hl
    have h : s_X11_commonPart_9 N (l_X11_commonPart_9 N n) v4 v6 v8 = some res := h
    unfold s_X11_commonPart_9 at h
    refine lv_iload hx hb dX11_commonPart_9 (lv_at hl 2 rfl) ?_
    refine lv_sipush (v := (200 : Int32)) hx hb dX11_commonPart_11 (by decide) ?_
    refine lv_icmp_ge (tgt := 45) hx hb dX11_commonPart_14 (by decide) (fun c1z => ?_) (fun c1z => ?_)
    · have h := xt h c1z
      refine lv_lload hx hb dX11_commonPart_45 (lv_at hl 0 rfl) ?_
      obtain rfl := Option.some.inj h
      exact W.lret (v := v4) hx hb hr (fun t ht hW => ⟨⟨_, (), rfl, rfl, by rw [ht]; exact hP, hD⟩, hS.F ht⟩) hS.2.2 dX11_commonPart_47 hlocks
    · have h := xf h c1z
      refine lv_lload hx hb dX11_commonPart_17 (lv_at hl 1 rfl) ?_
      refine lv_lconst (v := (0 : Int64)) hx hb dX11_commonPart_19 (by decide) ?_
      refine W.lcmp hx hb dX11_commonPart_20 ?_
      refine lv_if_eq (tgt := 45) hx hb dX11_commonPart_21 (by decide) (fun c2z => ?_) (fun c2z => ?_)
      · have c2z := (lg_cmp_eq _ _).mp c2z
        have h := xt h c2z
        refine lv_lload hx hb dX11_commonPart_45 (lv_at hl 0 rfl) ?_
        obtain rfl := Option.some.inj h
        exact W.lret (v := v4) hx hb hr (fun t ht hW => ⟨⟨_, (), rfl, rfl, by rw [ht]; exact hP, hD⟩, hS.F ht⟩) hS.2.2 dX11_commonPart_47 hlocks
      · have c2z := fun z => c2z ((lg_cmp_eq _ _).mpr z)
        have h := xf h c2z
        refine lv_lload hx hb dX11_commonPart_24 (lv_at hl 0 rfl) ?_
        refine lv_lload hx hb dX11_commonPart_26 (lv_at hl 1 rfl) ?_
        obtain ⟨b3z, h⟩ := xn h
        refine lv_lrem hx hb dX11_commonPart_28 b3z ?_
        refine lv_topl (fun y4z ey4z => ?_)
        have h := xl_at h ey4z
        refine lv_lstore (lv' := [(9, .long y4z), (4, .long v4), (6, .long v6), (8, .int v8)]) hx hb dX11_commonPart_29 hl (by decide) rfl (fun ls hl => ?_)
        refine lv_lload hx hb dX11_commonPart_31 (lv_at hl 2 rfl) ?_
        refine lv_lstore (lv' := [(4, .long v6), (9, .long y4z), (6, .long v6), (8, .int v8)]) hx hb dX11_commonPart_33 hl (by decide) rfl (fun ls hl => ?_)
        refine lv_lload hx hb dX11_commonPart_35 (lv_at hl 1 rfl) ?_
        refine lv_lstore (lv' := [(6, .long y4z), (4, .long v6), (9, .long y4z), (8, .int v8)]) hx hb dX11_commonPart_37 hl (by decide) rfl (fun ls hl => ?_)
        obtain ⟨y5z, ey5z⟩ : ∃ z : Int32, z = v8 + (1 : Int32) := ⟨_, rfl⟩
        have h := xl_at h ey5z
        refine lv_iinc (v := y5z) (lv' := [(8, .int y5z), (6, .long y4z), (4, .long v6), (9, .long y4z)]) hx hb dX11_commonPart_39 hl (k := 3) rfl (by rw [ey5z]; rfl) (by decide) rfl (fun ls hl => ?_)
        refine lv_goto (tgt := 9) hx hb dX11_commonPart_42 (by decide) ?_
        exact ih v6 y4z y5z h _ _ hP hD hS _ (lv_sub hl [2, 1, 0] rfl)
def f_X11_commonPart (N : Nat) (v0 : Int64) (v2 : Int64) : Option (Int64) :=
  l_X11_commonPart_9 N N (v0, v2, (0 : Int32))
set_option maxRecDepth 100000 in
set_option maxHeartbeats 4000000 in
theorem k_X11_commonPart_0 {p : Program} {l : Launch} {e : Env} {s : State} {m : MethodId} {args : Array Value} {below : List Frame} {meth : Method} {c : Code} {dC : Nat → ClassId} {dI : Nat → Nat → Nat} {cyI cyJ cyZ : ClassId} {A : Nat → Prop} (C0 : mC p s m meth c args cX11_commonPart (some .long) 11 RX11 wsX11_commonPart (gK dC dI cyI cyJ cyZ) A) (N : Nat) (res : Int64) (v0 : Int64) (v2 : Int64) (h : f_X11_commonPart N v0 v2 = some res) : ∀ (H : Heap) (locs : List Loc), va_P (dC, dI) vwCl (wd37 cyI cyJ cyZ) H → va_D A (wd37 cyI cyJ cyZ) → va_S A s.heap H locs → ∀ (ls : Array Slot), lv_has ls 11 [(0, .long v0), (2, .long v2)] → W p l e (headSpec wsX11_commonPart rm_X11_commonPart).room s m args below meth c H locs 0 0 (MQ below (va_Ql (fun (r : Int64) (_ : Unit) => r = res) (bW dC dI (fun (u : Unit) => (wd37 cyI cyJ cyZ)) A) A) args s 0 0 A) (F0 m 0 ls []) := by
  obtain ⟨hx, hb, hr, hml, hown, hts, hlocks, hG, hA⟩ := id C0
  have hK := hG.1
  intro H locs hP hD hS ls hl
  unfold f_X11_commonPart at h
  refine lv_lload_n hx hb dX11_commonPart_0 rfl (lv_at hl 0 rfl) ?_
  refine lv_lstore (lv' := [(4, .long v0), (0, .long v0), (2, .long v2)]) hx hb dX11_commonPart_1 hl (by decide) rfl (fun ls hl => ?_)
  refine lv_lload_n hx hb dX11_commonPart_3 rfl (lv_at hl 2 rfl) ?_
  refine lv_lstore (lv' := [(6, .long v2), (4, .long v0), (0, .long v0), (2, .long v2)]) hx hb dX11_commonPart_4 hl (by decide) rfl (fun ls hl => ?_)
  refine lv_iconst (v := (0 : Int32)) hx hb dX11_commonPart_6 (by decide) ?_
  refine lv_istore (lv' := [(8, .int (0 : Int32)), (6, .long v2), (4, .long v0), (0, .long v0), (2, .long v2)]) hx hb dX11_commonPart_7 hl (by decide) rfl (fun ls hl => ?_)
  exact k_X11_commonPart_9 C0 N res N v0 v2 (0 : Int32) h _ _ hP hD hS _ (lv_sub hl [2, 1, 0] rfl)
set_option maxRecDepth 100000 in
set_option maxHeartbeats 4000000 in
theorem c_X11_commonPart (l : Launch) (dC : Nat → ClassId) (dI : Nat → Nat → Nat) (cyI cyJ cyZ : ClassId) (N : Nat) (res : Int64) (sz : Nat) (v0 : Int64) (v2 : Int64) (h : f_X11_commonPart N v0 v2  = some res) : Met l yX11_commonPart wsX11_commonPart rm_X11_commonPart (pC dC dI cyI cyJ cyZ [.long v0, .long v2] sz (wd37 cyI cyJ cyZ)) (va_Ql (fun (r : Int64) (_ : Unit) => r = res) (bW dC dI (fun (u : Unit) => (wd37 cyI cyJ cyZ)) (va_A (wd37 cyI cyJ cyZ) sz)) (va_A (wd37 cyI cyJ cyZ) sz)) 0 0 (va_A (wd37 cyI cyJ cyZ) sz) := by
  refine Met.ofW (cc := cX11_commonPart) (maxL := 11) (ret := (some .long)) (by decide) rfl ?_
  intro p e s m args below meth c s₁ B hml hv
  obtain ⟨rfl, hsz, hP, hG, hD0⟩ := hv
  have hx := B.exec
  have hb := B.bytes
  have hr := B.returns
  have hts := atoms_spec (ws := wsX11_commonPart) B.pre
  have hown : s.vm.findClass RX11 = some m.cls := findClass_of_methodNamed B.named
  have hlocks := B.notSynchronized
  subst hsz
  have hD := hD0.self (sz := s.heap.size)
  generalize hAe : va_A (wd37 cyI cyJ cyZ) s.heap.size = A at hD ⊢
  have hA : ∀ q : Nat, s.heap.size ≤ q → A q := fun q h => by rw [← hAe]; exact Or.inr h
  have hS : va_S A s.heap s.heap [] := va_S.rf
  have hl := lv_entry ([.long v0, .long v2]) (n := 11) (Nat.le_of_ble_eq_true rfl)
  rw [lg_entry_eq]
  generalize (lg_sl ([.long v0, .long v2]) ++ List.replicate (11 - (lg_sl ([.long v0, .long v2])).length) Slot.unset).toArray = ls at hl ⊢
  have hl : lv_has ls 11 [(0, .long v0), (2, .long v2)] := hl
  exact k_X11_commonPart_0 ⟨hx, hb, hr, hml, hown, hts, hlocks, hG, hA⟩ N res  v0 v2  h _ _ hP hD hS _ hl
/-- the cells G, Pr, Sp, Tb, list, prime, times, all, apart -/
abbrev wd41 (cyI cyJ cyZ : ClassId) (q_G : Nat) (q_Pr : Nat) (q_Sp : Nat) (q_Tb : Nat) (q_list : Nat) (q_prime : Nat) (q_times : Nat) (q_all : Nat) (q_apart : Nat) (q_Ch : Nat) (q_Sk : Nat) (q_Wh : Nat) (q_Mk : Nat) (q_Tr : Nat) (q_Ws : Nat) (q_Sc : Nat) (q_parts : Nat) (sp_unlike : Int32) (sp_number : Int64) (sp_partsKept : Int32) (sp_partsNumber : Int64) (n_list : Nat) (a_list : Nat → Int32) (a_prime : Nat → Int64) (a_times : Nat → Int32) (n_all : Nat) (a_all : Nat → Int32) (n_apart : Nat) (a_apart : Nat → Int32) : va_W := [(q_G, .inr (11, [.ref q_Pr, .ref q_Sp, .ref q_Ch, .ref q_Tb, .ref q_Sk, .ref q_Wh, .ref q_Mk, .ref q_Tr, .ref q_Ws])), (q_Pr, .inr (3, [.ref q_Sc, .ref q_list])), (q_Sp, .inr (6, [.ref q_Pr, .ref q_prime, .ref q_times, .int sp_unlike, .long sp_number, .ref q_parts, .int sp_partsKept, .long sp_partsNumber])), (q_Tb, .inr (7, [.ref q_Sc, .ref q_all, .ref q_apart])), (q_list, .inl (cyI, n_list, .inl a_list)), (q_prime, .inl (cyJ, 12, .inr (.inl a_prime))), (q_times, .inl (cyI, 12, .inl a_times)), (q_all, .inl (cyI, n_all, .inl a_all)), (q_apart, .inl (cyI, n_apart, .inl a_apart))]
abbrev rm_X11_hasRichPart : Room := { frames := 2, cells := 0, slots := 0, locals := 56 }
theorem hd_X11_hasRichPart : yX11_hasRichPart.cls ≠ "java/lang/invoke/MethodHandle" ∧ yX11_hasRichPart.cls ≠ "java/lang/invoke/VarHandle" ∧ (parseMethodDescriptor yX11_hasRichPart.desc).map (fun d => d.parameters.length) = some 1 := by decide +kernel
theorem iw_X11_hasRichPart_X11 : ∀ w ∈ wsX110, w ∈ wsX11_hasRichPart := List.forall_mem_cons.mpr ⟨List.mem_of_getElem? (i := 29) rfl, List.forall_mem_cons.mpr ⟨List.mem_of_getElem? (i := 30) rfl, List.forall_mem_cons.mpr ⟨List.mem_of_getElem? (i := 31) rfl, List.forall_mem_cons.mpr ⟨List.mem_of_getElem? (i := 32) rfl, List.forall_mem_cons.mpr ⟨List.mem_of_getElem? (i := 33) rfl, List.forall_mem_cons.mpr ⟨List.mem_of_getElem? (i := 34) rfl, List.forall_mem_cons.mpr ⟨List.mem_of_getElem? (i := 35) rfl, List.forall_mem_cons.mpr ⟨List.mem_of_getElem? (i := 36) rfl, List.forall_mem_cons.mpr ⟨List.mem_of_getElem? (i := 37) rfl, fun _ h => absurd h List.not_mem_nil⟩⟩⟩⟩⟩⟩⟩⟩⟩
theorem iw_X11_hasRichPart_X3 : ∀ w ∈ wsX30, w ∈ wsX11_hasRichPart := List.forall_mem_cons.mpr ⟨List.mem_of_getElem? (i := 46) rfl, List.forall_mem_cons.mpr ⟨List.mem_of_getElem? (i := 47) rfl, fun _ h => absurd h List.not_mem_nil⟩⟩
theorem iw_X11_hasRichPart_X6 : ∀ w ∈ wsX60, w ∈ wsX11_hasRichPart := List.forall_mem_cons.mpr ⟨List.mem_of_getElem? (i := 38) rfl, List.forall_mem_cons.mpr ⟨List.mem_of_getElem? (i := 39) rfl, List.forall_mem_cons.mpr ⟨List.mem_of_getElem? (i := 40) rfl, List.forall_mem_cons.mpr ⟨List.mem_of_getElem? (i := 41) rfl, List.forall_mem_cons.mpr ⟨List.mem_of_getElem? (i := 42) rfl, List.forall_mem_cons.mpr ⟨List.mem_of_getElem? (i := 43) rfl, List.forall_mem_cons.mpr ⟨List.mem_of_getElem? (i := 44) rfl, List.forall_mem_cons.mpr ⟨List.mem_of_getElem? (i := 45) rfl, fun _ h => absurd h List.not_mem_nil⟩⟩⟩⟩⟩⟩⟩⟩
theorem iw_X11_hasRichPart_X7 : ∀ w ∈ wsX70, w ∈ wsX11_hasRichPart := List.forall_mem_cons.mpr ⟨List.mem_of_getElem? (i := 48) rfl, List.forall_mem_cons.mpr ⟨List.mem_of_getElem? (i := 49) rfl, List.forall_mem_cons.mpr ⟨List.mem_of_getElem? (i := 50) rfl, fun _ h => absurd h List.not_mem_nil⟩⟩⟩
def s_X11_hasRichPart_11 (N : Nat) (sp_unlike : Int32) (sp_number : Int64) (a_prime : Nat → Int64) (a_times : Nat → Int32) (n_all : Nat) (a_all : Nat → Int32) (n_apart : Nat) (a_apart : Nat → Int32) (k_11 : (Int32) → Option (Int32 × Int32 × Int64 × (Nat → Int64) × (Nat → Int32))) (v2 : Int32) : Option (Int32 × Int32 × Int64 × (Nat → Int64) × (Nat → Int32)) :=
  if sp_unlike ≤ v2 then
    some ((0 : Int32), sp_unlike, sp_number, a_prime, a_times)
  else
    Option.bind (f_X6_without N v2 sp_unlike sp_number a_prime) fun r5z =>
    xl (r5z.toInt32) fun y8z =>
    Option.bind (f_X7_summed N (1 : Int32) y8z n_all a_all n_apart a_apart) fun r9z =>
    if r9z ≤ y8z then
      xl (v2 + (1 : Int32)) fun y13z =>
      k_11 y13z
    else
      some ((1 : Int32), sp_unlike, sp_number, a_prime, a_times)
def l_X11_hasRichPart_11 (N : Nat) (sp_unlike : Int32) (sp_number : Int64) (a_prime : Nat → Int64) (a_times : Nat → Int32) (n_all : Nat) (a_all : Nat → Int32) (n_apart : Nat) (a_apart : Nat → Int32) (n : Nat) (z : Int32) : Option (Int32 × Int32 × Int64 × (Nat → Int64) × (Nat → Int32)) := lp (fun k z => s_X11_hasRichPart_11 N sp_unlike sp_number a_prime a_times n_all a_all n_apart a_apart k z) n z
set_option maxRecDepth 100000 in
set_option maxHeartbeats 4000000 in
theorem k_X11_hasRichPart_11 {p : Program} {l : Launch} {e : Env} {s : State} {m : MethodId} {args : Array Value} {below : List Frame} {meth : Method} {c : Code} {dC : Nat → ClassId} {dI : Nat → Nat → Nat} {cyI cyJ cyZ : ClassId} {A : Nat → Prop} (C0 : mC p s m meth c args cX11_hasRichPart (some .boolean) 4 RX11 wsX11_hasRichPart (gK dC dI cyI cyJ cyZ) A) (N : Nat) (res : Int32 × Int32 × Int64 × (Nat → Int64) × (Nat → Int32)) (q_G : Nat) (q_Pr : Nat) (q_Sp : Nat) (q_Tb : Nat) (q_list : Nat) (q_prime : Nat) (q_times : Nat) (q_all : Nat) (q_apart : Nat) (q_Ch : Nat) (q_Sk : Nat) (q_Wh : Nat) (q_Mk : Nat) (q_Tr : Nat) (q_Ws : Nat) (q_Sc : Nat) (q_parts : Nat) (sp_unlike : Int32) (sp_number : Int64) (sp_partsKept : Int32) (sp_partsNumber : Int64) (n_list : Nat) (a_list : Nat → Int32) (a_prime : Nat → Int64) (a_times : Nat → Int32) (n_all : Nat) (a_all : Nat → Int32) (n_apart : Nat) (a_apart : Nat → Int32) : ∀ (n : Nat) (v2 : Int32), l_X11_hasRichPart_11 N sp_unlike sp_number a_prime a_times n_all a_all n_apart a_apart n v2 = some res → ∀ (H : Heap) (locs : List Loc), va_P (dC, dI) vwCl (wd41 cyI cyJ cyZ q_G q_Pr q_Sp q_Tb q_list q_prime q_times q_all q_apart q_Ch q_Sk q_Wh q_Mk q_Tr q_Ws q_Sc q_parts sp_unlike sp_number sp_partsKept sp_partsNumber n_list a_list a_prime a_times n_all a_all n_apart a_apart) H → va_D A (wd41 cyI cyJ cyZ q_G q_Pr q_Sp q_Tb q_list q_prime q_times q_all q_apart q_Ch q_Sk q_Wh q_Mk q_Tr q_Ws q_Sc q_parts sp_unlike sp_number sp_partsKept sp_partsNumber n_list a_list a_prime a_times n_all a_all n_apart a_apart) → va_S A s.heap H locs → ∀ (ls : Array Slot), lv_has ls 4 [(0, .ref q_G), (2, .int v2)] → W p l e (headSpec wsX11_hasRichPart rm_X11_hasRichPart).room s m args below meth c H locs 0 0 (MQ below (va_Qi (fun (r : Int32) (_ : Unit) => r = res.1) (bW dC dI (fun (u : Unit) => (wd41 cyI cyJ cyZ q_G q_Pr q_Sp q_Tb q_list q_prime q_times q_all q_apart q_Ch q_Sk q_Wh q_Mk q_Tr q_Ws q_Sc q_parts res.2.1 res.2.2.1 sp_partsKept sp_partsNumber n_list a_list res.2.2.2.1 res.2.2.2.2 n_all a_all n_apart a_apart)) A) A) args s 0 0 A) (F0 m 11 ls []) := by
  obtain ⟨hx, hb, hr, hml, hown, hts, hlocks, hG, hA⟩ := id C0
  have hK := hG.1
  intro n
  induction n with
  | zero =>
    intro v2 h
    cases h
  | succ n ih =>
    intro v2 h H locs hP hD hS ls hl
    have h : s_X11_hasRichPart_11 N sp_unlike sp_number a_prime a_times n_all a_all n_apart a_apart (l_X11_hasRichPart_11 N sp_unlike sp_number a_prime a_times n_all a_all n_apart a_apart n) v2 = some res := h
    unfold s_X11_hasRichPart_11 at h
    refine lv_iload_n hx hb dX11_hasRichPart_11 rfl (lv_at hl 1 rfl) ?_
    refine lv_aload_n hx hb dX11_hasRichPart_12 rfl (lv_at hl 0 rfl) ?_
    refine va_get (D := (dC, dI)) (ci := 11) (v := .ref q_Sp) (C := RX11) (T := TX11) (N := 9) hx hb hts iw_X11_hasRichPart_X11 hown hK hP 0 rfl rfl 1 (by decide) (hts (.fieldLink RX11 26 "GoesInto" "split" "LGoesInto$Split;") (List.mem_of_getElem? (i := 1) rfl)) (fun _ h9 => h9) rfl dX11_hasRichPart_13 ?_
    refine va_getN (D := (dC, dI)) (ci := 6) (v := .int sp_unlike) (C := RX6) (T := TX6) (N := 8) (host := "GoesInto") hx hb hts iw_X11_hasRichPart_X6 hown hK hP 2 rfl rfl 3 (by decide) (va_Nw.use rfl hG.2.2.2.2.2.2.1) (fun _ h9 => h9) rfl dX11_hasRichPart_16 ?_
    refine lv_icmp_ge (tgt := 53) hx hb dX11_hasRichPart_19 (by decide) (fun c4z => ?_) (fun c4z => ?_)
    · have h := xt h c4z
      refine lv_iconst (v := (0 : Int32)) hx hb dX11_hasRichPart_53 (by decide) ?_
      obtain rfl := Option.some.inj h
      exact W.zret (v := (0 : Int32)) hx hb hr rfl (fun t ht hW => ⟨⟨_, (), rfl, rfl, by rw [ht]; exact hP, hD⟩, hS.F ht⟩) hS.2.2 dX11_hasRichPart_54 hlocks
    · have h := xf h c4z
      refine lv_aload_n hx hb dX11_hasRichPart_22 rfl (lv_at hl 0 rfl) ?_
      refine va_get (D := (dC, dI)) (ci := 11) (v := .ref q_Sp) (C := RX11) (T := TX11) (N := 9) hx hb hts iw_X11_hasRichPart_X11 hown hK hP 0 rfl rfl 1 (by decide) (hts (.fieldLink RX11 26 "GoesInto" "split" "LGoesInto$Split;") (List.mem_of_getElem? (i := 1) rfl)) (fun _ h9 => h9) rfl dX11_hasRichPart_23 ?_
      refine lv_iload_n hx hb dX11_hasRichPart_26 rfl (lv_at hl 1 rfl) ?_
      obtain ⟨r5z, hr5z, h⟩ := xb_at h
      have hPc := hP.sub (ws' := (wd3 cyI cyJ cyZ q_Sp q_prime q_Pr q_times q_parts sp_unlike sp_number sp_partsKept sp_partsNumber a_prime)) [2, 5] rfl
      have hDc := hD.sub (ws' := (wd3 cyI cyJ cyZ q_Sp q_prime q_Pr q_times q_parts sp_unlike sp_number sp_partsKept sp_partsNumber a_prime)) [2, 5] (by decide) rfl
      refine cal_l [2, 5] [0, 1, 3, 4, 6, 7, 8] (va_runV (As := [.int v2]) (rest := []) ⟨hx, hb, hml, hown, hts⟩ (c_X6_without l dC dI cyI cyJ cyZ N r5z H.size q_Sp q_prime q_Pr q_times q_parts v2 sp_unlike sp_number sp_partsKept sp_partsNumber a_prime hr5z) (cwV 1 hts gX11_hasRichPart_X6_without rfl rfl rfl ⟨rfl, hd_X6_without⟩ ⟨Nat.le_of_ble_eq_true rfl, Nat.le_of_ble_eq_true rfl⟩) ⟨pC.blind, va_recv hK hPc (ci := 6) (q0 := 0) rfl rfl, pC.pre hPc hG hDc⟩ rfl rfl hl.1 rfl (lv_room (Nat.le_of_ble_eq_true rfl)) dX11_hasRichPart_27 ⟨Nat.zero_le _, Nat.zero_le _⟩) hP hD hS hA rfl rfl rfl (by decide) (fun x7z u6z H locs hw hP hD hS => ?_)
      obtain rfl := hw.symm
      have hP : va_P (dC, dI) vwCl (wd41 cyI cyJ cyZ q_G q_Pr q_Sp q_Tb q_list q_prime q_times q_all q_apart q_Ch q_Sk q_Wh q_Mk q_Tr q_Ws q_Sc q_parts sp_unlike sp_number sp_partsKept sp_partsNumber n_list a_list a_prime a_times n_all a_all n_apart a_apart) H := hP.sub [0, 1, 7, 2, 3, 8, 4, 5, 6] rfl
      have hD : va_D A (wd41 cyI cyJ cyZ q_G q_Pr q_Sp q_Tb q_list q_prime q_times q_all q_apart q_Ch q_Sk q_Wh q_Mk q_Tr q_Ws q_Sc q_parts sp_unlike sp_number sp_partsKept sp_partsNumber n_list a_list a_prime a_times n_all a_all n_apart a_apart) := hD.sub [0, 1, 7, 2, 3, 8, 4, 5, 6] (by decide) rfl
      refine lv_l2i (v := r5z.toInt32) hx hb dX11_hasRichPart_30 rfl ?_
      refine lv_topi (fun y8z ey8z => ?_)
      have h := xl_at h ey8z
      refine lv_istore_n (lv' := [(3, .int y8z), (0, .ref q_G), (2, .int v2)]) hx hb dX11_hasRichPart_31 rfl hl (by decide) rfl (fun ls hl => ?_)
      refine lv_aload_n hx hb dX11_hasRichPart_32 rfl (lv_at hl 1 rfl) ?_
      refine va_get (D := (dC, dI)) (ci := 11) (v := .ref q_Tb) (C := RX11) (T := TX11) (N := 9) hx hb hts iw_X11_hasRichPart_X11 hown hK hP 0 rfl rfl 3 (by decide) (hts (.fieldLink RX11 42 "GoesInto" "tables" "LGoesInto$Tables;") (List.mem_of_getElem? (i := 2) rfl)) (fun _ h9 => h9) rfl dX11_hasRichPart_33 ?_
      refine lv_iconst (v := (1 : Int32)) hx hb dX11_hasRichPart_36 (by decide) ?_
      refine lv_iload_n hx hb dX11_hasRichPart_37 rfl (lv_at hl 0 rfl) ?_
      obtain ⟨r9z, hr9z, h⟩ := xb_at h
      have hPc := hP.sub (ws' := (wd15 cyI cyJ cyZ q_Tb q_all q_apart q_Sc n_all a_all n_apart a_apart)) [3, 7, 8] rfl
      have hDc := hD.sub (ws' := (wd15 cyI cyJ cyZ q_Tb q_all q_apart q_Sc n_all a_all n_apart a_apart)) [3, 7, 8] (by decide) rfl
      refine cal_i [3, 7, 8] [0, 1, 2, 4, 5, 6] (va_runV (As := [.int (1 : Int32), .int y8z]) (rest := []) ⟨hx, hb, hml, hown, hts⟩ (c_X7_summed l dC dI cyI cyJ cyZ N r9z H.size q_Tb q_all q_apart q_Sc (1 : Int32) y8z n_all a_all n_apart a_apart hr9z) (cwV 2 hts gX11_hasRichPart_X7_summed rfl rfl rfl ⟨rfl, hd_X7_summed⟩ ⟨Nat.le_of_ble_eq_true rfl, Nat.le_of_ble_eq_true rfl⟩) ⟨pC.blind, va_recv hK hPc (ci := 7) (q0 := 0) rfl rfl, pC.pre hPc hG hDc⟩ rfl rfl hl.1 rfl (lv_room (Nat.le_of_ble_eq_true rfl)) dX11_hasRichPart_38 ⟨Nat.zero_le _, Nat.zero_le _⟩) hP hD hS hA rfl rfl rfl (by decide) (fun x11z u10z H locs hw hP hD hS => ?_)
      obtain rfl := hw.symm
      have hP : va_P (dC, dI) vwCl (wd41 cyI cyJ cyZ q_G q_Pr q_Sp q_Tb q_list q_prime q_times q_all q_apart q_Ch q_Sk q_Wh q_Mk q_Tr q_Ws q_Sc q_parts sp_unlike sp_number sp_partsKept sp_partsNumber n_list a_list a_prime a_times n_all a_all n_apart a_apart) H := hP.sub [0, 1, 2, 6, 3, 4, 5, 7, 8] rfl
      have hD : va_D A (wd41 cyI cyJ cyZ q_G q_Pr q_Sp q_Tb q_list q_prime q_times q_all q_apart q_Ch q_Sk q_Wh q_Mk q_Tr q_Ws q_Sc q_parts sp_unlike sp_number sp_partsKept sp_partsNumber n_list a_list a_prime a_times n_all a_all n_apart a_apart) := hD.sub [0, 1, 2, 6, 3, 4, 5, 7, 8] (by decide) rfl
      refine lv_iload_n hx hb dX11_hasRichPart_41 rfl (lv_at hl 0 rfl) ?_
      refine lv_icmp_le (tgt := 47) hx hb dX11_hasRichPart_42 (by decide) (fun c12z => ?_) (fun c12z => ?_)
      · have h := xt h c12z
        obtain ⟨y13z, ey13z⟩ : ∃ z : Int32, z = v2 + (1 : Int32) := ⟨_, rfl⟩
        have h := xl_at h ey13z
        refine lv_iinc (v := y13z) (lv' := [(2, .int y13z), (3, .int y8z), (0, .ref q_G)]) hx hb dX11_hasRichPart_47 hl (k := 2) rfl (by rw [ey13z]; rfl) (by decide) rfl (fun ls hl => ?_)
        refine lv_goto (tgt := 11) hx hb dX11_hasRichPart_50 (by decide) ?_
        exact ih y13z h _ _ hP hD hS _ (lv_sub hl [2, 0] rfl)
      · have h := xf h c12z
        refine lv_iconst (v := (1 : Int32)) hx hb dX11_hasRichPart_45 (by decide) ?_
        obtain rfl := Option.some.inj h
        exact W.zret (v := (1 : Int32)) hx hb hr rfl (fun t ht hW => ⟨⟨_, (), rfl, rfl, by rw [ht]; exact hP, hD⟩, hS.F ht⟩) hS.2.2 dX11_hasRichPart_46 hlocks
def f_X11_hasRichPart (N : Nat) (v1 : Int32) (sp_unlike : Int32) (sp_number : Int64) (n_list : Nat) (a_list : Nat → Int32) (a_prime : Nat → Int64) (a_times : Nat → Int32) (n_all : Nat) (a_all : Nat → Int32) (n_apart : Nat) (a_apart : Nat → Int32) : Option (Int32 × Int32 × Int64 × (Nat → Int64) × (Nat → Int32)) :=
  Option.bind (f_X6_splitUp N v1.toInt64 sp_unlike sp_number n_list a_list a_prime a_times) fun r1z =>
  l_X11_hasRichPart_11 N r1z.1 r1z.2.1 r1z.2.2.1 r1z.2.2.2 n_all a_all n_apart a_apart N (0 : Int32)
set_option maxRecDepth 100000 in
set_option maxHeartbeats 4000000 in
theorem k_X11_hasRichPart_0 {p : Program} {l : Launch} {e : Env} {s : State} {m : MethodId} {args : Array Value} {below : List Frame} {meth : Method} {c : Code} {dC : Nat → ClassId} {dI : Nat → Nat → Nat} {cyI cyJ cyZ : ClassId} {A : Nat → Prop} (C0 : mC p s m meth c args cX11_hasRichPart (some .boolean) 4 RX11 wsX11_hasRichPart (gK dC dI cyI cyJ cyZ) A) (N : Nat) (res : Int32 × Int32 × Int64 × (Nat → Int64) × (Nat → Int32)) (q_G : Nat) (q_Pr : Nat) (q_Sp : Nat) (q_Tb : Nat) (q_list : Nat) (q_prime : Nat) (q_times : Nat) (q_all : Nat) (q_apart : Nat) (q_Ch : Nat) (q_Sk : Nat) (q_Wh : Nat) (q_Mk : Nat) (q_Tr : Nat) (q_Ws : Nat) (q_Sc : Nat) (q_parts : Nat) (v1 : Int32) (sp_unlike : Int32) (sp_number : Int64) (sp_partsKept : Int32) (sp_partsNumber : Int64) (n_list : Nat) (a_list : Nat → Int32) (a_prime : Nat → Int64) (a_times : Nat → Int32) (n_all : Nat) (a_all : Nat → Int32) (n_apart : Nat) (a_apart : Nat → Int32) (h : f_X11_hasRichPart N v1 sp_unlike sp_number n_list a_list a_prime a_times n_all a_all n_apart a_apart = some res) : ∀ (H : Heap) (locs : List Loc), va_P (dC, dI) vwCl (wd41 cyI cyJ cyZ q_G q_Pr q_Sp q_Tb q_list q_prime q_times q_all q_apart q_Ch q_Sk q_Wh q_Mk q_Tr q_Ws q_Sc q_parts sp_unlike sp_number sp_partsKept sp_partsNumber n_list a_list a_prime a_times n_all a_all n_apart a_apart) H → va_D A (wd41 cyI cyJ cyZ q_G q_Pr q_Sp q_Tb q_list q_prime q_times q_all q_apart q_Ch q_Sk q_Wh q_Mk q_Tr q_Ws q_Sc q_parts sp_unlike sp_number sp_partsKept sp_partsNumber n_list a_list a_prime a_times n_all a_all n_apart a_apart) → va_S A s.heap H locs → ∀ (ls : Array Slot), lv_has ls 4 [(0, .ref q_G), (1, .int v1)] → W p l e (headSpec wsX11_hasRichPart rm_X11_hasRichPart).room s m args below meth c H locs 0 0 (MQ below (va_Qi (fun (r : Int32) (_ : Unit) => r = res.1) (bW dC dI (fun (u : Unit) => (wd41 cyI cyJ cyZ q_G q_Pr q_Sp q_Tb q_list q_prime q_times q_all q_apart q_Ch q_Sk q_Wh q_Mk q_Tr q_Ws q_Sc q_parts res.2.1 res.2.2.1 sp_partsKept sp_partsNumber n_list a_list res.2.2.2.1 res.2.2.2.2 n_all a_all n_apart a_apart)) A) A) args s 0 0 A) (F0 m 0 ls []) := by
  obtain ⟨hx, hb, hr, hml, hown, hts, hlocks, hG, hA⟩ := id C0
  have hK := hG.1
  intro H locs hP hD hS ls hl
  unfold f_X11_hasRichPart at h
  refine lv_aload_n hx hb dX11_hasRichPart_0 rfl (lv_at hl 0 rfl) ?_
  refine va_get (D := (dC, dI)) (ci := 11) (v := .ref q_Sp) (C := RX11) (T := TX11) (N := 9) hx hb hts iw_X11_hasRichPart_X11 hown hK hP 0 rfl rfl 1 (by decide) (hts (.fieldLink RX11 26 "GoesInto" "split" "LGoesInto$Split;") (List.mem_of_getElem? (i := 1) rfl)) (fun _ h9 => h9) rfl dX11_hasRichPart_1 ?_
  refine lv_iload_n hx hb dX11_hasRichPart_4 rfl (lv_at hl 1 rfl) ?_
  refine lv_i2l (v := v1.toInt64) hx hb dX11_hasRichPart_5 rfl ?_
  obtain ⟨r1z, hr1z, h⟩ := xb_at h
  have hPc := hP.sub (ws' := (wd1 cyI cyJ cyZ q_Pr q_Sp q_list q_prime q_times q_Sc q_parts sp_unlike sp_number sp_partsKept sp_partsNumber n_list a_list a_prime a_times)) [1, 2, 4, 5, 6] rfl
  have hDc := hD.sub (ws' := (wd1 cyI cyJ cyZ q_Pr q_Sp q_list q_prime q_times q_Sc q_parts sp_unlike sp_number sp_partsKept sp_partsNumber n_list a_list a_prime a_times)) [1, 2, 4, 5, 6] (by decide) rfl
  refine cal_v [1, 2, 4, 5, 6] [0, 3, 7, 8] (va_runV (As := [.long v1.toInt64]) (rest := []) ⟨hx, hb, hml, hown, hts⟩ (c_X6_splitUp l dC dI cyI cyJ cyZ N r1z H.size q_Pr q_Sp q_list q_prime q_times q_Sc q_parts v1.toInt64 sp_unlike sp_number sp_partsKept sp_partsNumber n_list a_list a_prime a_times hr1z) (cwV 1 hts gX11_hasRichPart_X6_splitUp rfl rfl rfl ⟨rfl, hd_X6_splitUp⟩ ⟨Nat.le_of_ble_eq_true rfl, Nat.le_of_ble_eq_true rfl⟩) ⟨pC.blind, va_recv hK hPc (ci := 6) (q0 := 1) rfl rfl, pC.pre hPc hG hDc⟩ rfl rfl hl.1 rfl (lv_room (Nat.le_of_ble_eq_true rfl)) dX11_hasRichPart_6 ⟨Nat.zero_le _, Nat.zero_le _⟩) hP hD hS hA rfl rfl rfl (by decide) (fun u2z H locs _ hP hD hS => ?_)
  have hP : va_P (dC, dI) vwCl (wd41 cyI cyJ cyZ q_G q_Pr q_Sp q_Tb q_list q_prime q_times q_all q_apart q_Ch q_Sk q_Wh q_Mk q_Tr q_Ws q_Sc q_parts r1z.1 r1z.2.1 sp_partsKept sp_partsNumber n_list a_list r1z.2.2.1 r1z.2.2.2 n_all a_all n_apart a_apart) H := hP.sub [0, 4, 5, 1, 6, 7, 8, 2, 3] rfl
  have hD : va_D A (wd41 cyI cyJ cyZ q_G q_Pr q_Sp q_Tb q_list q_prime q_times q_all q_apart q_Ch q_Sk q_Wh q_Mk q_Tr q_Ws q_Sc q_parts r1z.1 r1z.2.1 sp_partsKept sp_partsNumber n_list a_list r1z.2.2.1 r1z.2.2.2 n_all a_all n_apart a_apart) := hD.sub [0, 4, 5, 1, 6, 7, 8, 2, 3] (by decide) rfl
  refine lv_iconst (v := (0 : Int32)) hx hb dX11_hasRichPart_9 (by decide) ?_
  refine lv_istore_n (lv' := [(2, .int (0 : Int32)), (0, .ref q_G), (1, .int v1)]) hx hb dX11_hasRichPart_10 rfl hl (by decide) rfl (fun ls hl => ?_)
  exact k_X11_hasRichPart_11 C0 N res q_G q_Pr q_Sp q_Tb q_list q_prime q_times q_all q_apart q_Ch q_Sk q_Wh q_Mk q_Tr q_Ws q_Sc q_parts r1z.1 r1z.2.1 sp_partsKept sp_partsNumber n_list a_list r1z.2.2.1 r1z.2.2.2 n_all a_all n_apart a_apart N (0 : Int32) h _ _ hP hD hS _ (lv_sub hl [1, 0] rfl)
set_option maxRecDepth 100000 in
set_option maxHeartbeats 4000000 in
theorem c_X11_hasRichPart (l : Launch) (dC : Nat → ClassId) (dI : Nat → Nat → Nat) (cyI cyJ cyZ : ClassId) (N : Nat) (res : Int32 × Int32 × Int64 × (Nat → Int64) × (Nat → Int32)) (sz : Nat) (q_G : Nat) (q_Pr : Nat) (q_Sp : Nat) (q_Tb : Nat) (q_list : Nat) (q_prime : Nat) (q_times : Nat) (q_all : Nat) (q_apart : Nat) (q_Ch : Nat) (q_Sk : Nat) (q_Wh : Nat) (q_Mk : Nat) (q_Tr : Nat) (q_Ws : Nat) (q_Sc : Nat) (q_parts : Nat) (v1 : Int32) (sp_unlike : Int32) (sp_number : Int64) (sp_partsKept : Int32) (sp_partsNumber : Int64) (n_list : Nat) (a_list : Nat → Int32) (a_prime : Nat → Int64) (a_times : Nat → Int32) (n_all : Nat) (a_all : Nat → Int32) (n_apart : Nat) (a_apart : Nat → Int32) (h : f_X11_hasRichPart N v1 sp_unlike sp_number n_list a_list a_prime a_times n_all a_all n_apart a_apart = some res) : Met l yX11_hasRichPart wsX11_hasRichPart rm_X11_hasRichPart (pC dC dI cyI cyJ cyZ [.ref q_G, .int v1] sz (wd41 cyI cyJ cyZ q_G q_Pr q_Sp q_Tb q_list q_prime q_times q_all q_apart q_Ch q_Sk q_Wh q_Mk q_Tr q_Ws q_Sc q_parts sp_unlike sp_number sp_partsKept sp_partsNumber n_list a_list a_prime a_times n_all a_all n_apart a_apart)) (va_Qi (fun (r : Int32) (_ : Unit) => r = res.1) (bW dC dI (fun (u : Unit) => (wd41 cyI cyJ cyZ q_G q_Pr q_Sp q_Tb q_list q_prime q_times q_all q_apart q_Ch q_Sk q_Wh q_Mk q_Tr q_Ws q_Sc q_parts res.2.1 res.2.2.1 sp_partsKept sp_partsNumber n_list a_list res.2.2.2.1 res.2.2.2.2 n_all a_all n_apart a_apart)) (va_A (wd41 cyI cyJ cyZ q_G q_Pr q_Sp q_Tb q_list q_prime q_times q_all q_apart q_Ch q_Sk q_Wh q_Mk q_Tr q_Ws q_Sc q_parts sp_unlike sp_number sp_partsKept sp_partsNumber n_list a_list a_prime a_times n_all a_all n_apart a_apart) sz)) (va_A (wd41 cyI cyJ cyZ q_G q_Pr q_Sp q_Tb q_list q_prime q_times q_all q_apart q_Ch q_Sk q_Wh q_Mk q_Tr q_Ws q_Sc q_parts sp_unlike sp_number sp_partsKept sp_partsNumber n_list a_list a_prime a_times n_all a_all n_apart a_apart) sz)) 0 0 (va_A (wd41 cyI cyJ cyZ q_G q_Pr q_Sp q_Tb q_list q_prime q_times q_all q_apart q_Ch q_Sk q_Wh q_Mk q_Tr q_Ws q_Sc q_parts sp_unlike sp_number sp_partsKept sp_partsNumber n_list a_list a_prime a_times n_all a_all n_apart a_apart) sz) := by
  refine Met.ofW (cc := cX11_hasRichPart) (maxL := 4) (ret := (some .boolean)) (by decide) rfl ?_
  intro p e s m args below meth c s₁ B hml hv
  obtain ⟨rfl, hsz, hP, hG, hD0⟩ := hv
  have hx := B.exec
  have hb := B.bytes
  have hr := B.returns
  have hts := atoms_spec (ws := wsX11_hasRichPart) B.pre
  have hown : s.vm.findClass RX11 = some m.cls := findClass_of_methodNamed B.named
  have hlocks := B.notSynchronized
  subst hsz
  have hD := hD0.self (sz := s.heap.size)
  generalize hAe : va_A (wd41 cyI cyJ cyZ q_G q_Pr q_Sp q_Tb q_list q_prime q_times q_all q_apart q_Ch q_Sk q_Wh q_Mk q_Tr q_Ws q_Sc q_parts sp_unlike sp_number sp_partsKept sp_partsNumber n_list a_list a_prime a_times n_all a_all n_apart a_apart) s.heap.size = A at hD ⊢
  have hA : ∀ q : Nat, s.heap.size ≤ q → A q := fun q h => by rw [← hAe]; exact Or.inr h
  have hS : va_S A s.heap s.heap [] := va_S.rf
  have hl := lv_entry ([.ref q_G, .int v1]) (n := 4) (Nat.le_of_ble_eq_true rfl)
  rw [lg_entry_eq]
  generalize (lg_sl ([.ref q_G, .int v1]) ++ List.replicate (4 - (lg_sl ([.ref q_G, .int v1])).length) Slot.unset).toArray = ls at hl ⊢
  have hl : lv_has ls 4 [(0, .ref q_G), (1, .int v1)] := hl
  exact k_X11_hasRichPart_0 ⟨hx, hb, hr, hml, hown, hts, hlocks, hG, hA⟩ N res q_G q_Pr q_Sp q_Tb q_list q_prime q_times q_all q_apart q_Ch q_Sk q_Wh q_Mk q_Tr q_Ws q_Sc q_parts v1 sp_unlike sp_number sp_partsKept sp_partsNumber n_list a_list a_prime a_times n_all a_all n_apart a_apart  h _ _ hP hD hS _ hl
/-- the cells G, Sc, Pr, Sp, Tb, Mk, Tr, row, list, prime, times, parts, all, apart, traits -/
abbrev wd42 (cyI cyJ cyZ : ClassId) (q_G : Nat) (q_Sc : Nat) (q_Pr : Nat) (q_Sp : Nat) (q_Tb : Nat) (q_Mk : Nat) (q_Tr : Nat) (q_row : Nat) (q_list : Nat) (q_prime : Nat) (q_times : Nat) (q_parts : Nat) (q_all : Nat) (q_apart : Nat) (q_traits : Nat) (q_Ch : Nat) (q_Sk : Nat) (q_Wh : Nat) (q_Ws : Nat) (sp_unlike : Int32) (sp_number : Int64) (sp_partsKept : Int32) (sp_partsNumber : Int64) (n_row : Nat) (a_row : Nat → Int32) (n_list : Nat) (a_list : Nat → Int32) (a_prime : Nat → Int64) (a_times : Nat → Int32) (a_parts : Nat → Int64) (n_all : Nat) (a_all : Nat → Int32) (n_apart : Nat) (a_apart : Nat → Int32) (n_traits : Nat) (a_traits : Nat → Int32) : va_W := [(q_G, .inr (11, [.ref q_Pr, .ref q_Sp, .ref q_Ch, .ref q_Tb, .ref q_Sk, .ref q_Wh, .ref q_Mk, .ref q_Tr, .ref q_Ws])), (q_Sc, .inr (4, [.ref q_row])), (q_Pr, .inr (3, [.ref q_Sc, .ref q_list])), (q_Sp, .inr (6, [.ref q_Pr, .ref q_prime, .ref q_times, .int sp_unlike, .long sp_number, .ref q_parts, .int sp_partsKept, .long sp_partsNumber])), (q_Tb, .inr (7, [.ref q_Sc, .ref q_all, .ref q_apart])), (q_Mk, .inr (1, [.ref q_Sp, .ref q_Sc])), (q_Tr, .inr (8, [.ref q_Sp, .ref q_Tb, .ref q_Mk, .ref q_traits])), (q_row, .inl (cyI, n_row, .inl a_row)), (q_list, .inl (cyI, n_list, .inl a_list)), (q_prime, .inl (cyJ, 12, .inr (.inl a_prime))), (q_times, .inl (cyI, 12, .inl a_times)), (q_parts, .inl (cyJ, 2304, .inr (.inl a_parts))), (q_all, .inl (cyI, n_all, .inl a_all)), (q_apart, .inl (cyI, n_apart, .inl a_apart)), (q_traits, .inl (cyI, n_traits, .inl a_traits))]
abbrev rm_X11_prepareTraits (MC MS : Nat) : Room := { frames := 5, cells := MC, slots := MS, locals := 130 }
theorem hd_X11_prepareTraits : yX11_prepareTraits.cls ≠ "java/lang/invoke/MethodHandle" ∧ yX11_prepareTraits.cls ≠ "java/lang/invoke/VarHandle" ∧ (parseMethodDescriptor yX11_prepareTraits.desc).map (fun d => d.parameters.length) = some 0 := by decide +kernel
theorem iw_X11_prepareTraits_X11 : ∀ w ∈ wsX110, w ∈ wsX11_prepareTraits := List.forall_mem_cons.mpr ⟨List.mem_of_getElem? (i := 140) rfl, List.forall_mem_cons.mpr ⟨List.mem_of_getElem? (i := 141) rfl, List.forall_mem_cons.mpr ⟨List.mem_of_getElem? (i := 142) rfl, List.forall_mem_cons.mpr ⟨List.mem_of_getElem? (i := 143) rfl, List.forall_mem_cons.mpr ⟨List.mem_of_getElem? (i := 144) rfl, List.forall_mem_cons.mpr ⟨List.mem_of_getElem? (i := 145) rfl, List.forall_mem_cons.mpr ⟨List.mem_of_getElem? (i := 146) rfl, List.forall_mem_cons.mpr ⟨List.mem_of_getElem? (i := 147) rfl, List.forall_mem_cons.mpr ⟨List.mem_of_getElem? (i := 148) rfl, fun _ h => absurd h List.not_mem_nil⟩⟩⟩⟩⟩⟩⟩⟩⟩
theorem iw_X11_prepareTraits_X4 : ∀ w ∈ wsX40, w ∈ wsX11_prepareTraits := List.forall_mem_cons.mpr ⟨List.mem_of_getElem? (i := 151) rfl, fun _ h => absurd h List.not_mem_nil⟩
theorem iw_X11_prepareTraits_X3 : ∀ w ∈ wsX30, w ∈ wsX11_prepareTraits := List.forall_mem_cons.mpr ⟨List.mem_of_getElem? (i := 149) rfl, List.forall_mem_cons.mpr ⟨List.mem_of_getElem? (i := 150) rfl, fun _ h => absurd h List.not_mem_nil⟩⟩
theorem iw_X11_prepareTraits_X6 : ∀ w ∈ wsX60, w ∈ wsX11_prepareTraits := List.forall_mem_cons.mpr ⟨List.mem_of_getElem? (i := 159) rfl, List.forall_mem_cons.mpr ⟨List.mem_of_getElem? (i := 160) rfl, List.forall_mem_cons.mpr ⟨List.mem_of_getElem? (i := 161) rfl, List.forall_mem_cons.mpr ⟨List.mem_of_getElem? (i := 162) rfl, List.forall_mem_cons.mpr ⟨List.mem_of_getElem? (i := 163) rfl, List.forall_mem_cons.mpr ⟨List.mem_of_getElem? (i := 164) rfl, List.forall_mem_cons.mpr ⟨List.mem_of_getElem? (i := 165) rfl, List.forall_mem_cons.mpr ⟨List.mem_of_getElem? (i := 166) rfl, fun _ h => absurd h List.not_mem_nil⟩⟩⟩⟩⟩⟩⟩⟩
theorem iw_X11_prepareTraits_X7 : ∀ w ∈ wsX70, w ∈ wsX11_prepareTraits := List.forall_mem_cons.mpr ⟨List.mem_of_getElem? (i := 152) rfl, List.forall_mem_cons.mpr ⟨List.mem_of_getElem? (i := 153) rfl, List.forall_mem_cons.mpr ⟨List.mem_of_getElem? (i := 154) rfl, fun _ h => absurd h List.not_mem_nil⟩⟩⟩
theorem iw_X11_prepareTraits_X1 : ∀ w ∈ wsX10, w ∈ wsX11_prepareTraits := List.forall_mem_cons.mpr ⟨List.mem_of_getElem? (i := 167) rfl, List.forall_mem_cons.mpr ⟨List.mem_of_getElem? (i := 168) rfl, fun _ h => absurd h List.not_mem_nil⟩⟩
theorem iw_X11_prepareTraits_X8 : ∀ w ∈ wsX80, w ∈ wsX11_prepareTraits := List.forall_mem_cons.mpr ⟨List.mem_of_getElem? (i := 155) rfl, List.forall_mem_cons.mpr ⟨List.mem_of_getElem? (i := 156) rfl, List.forall_mem_cons.mpr ⟨List.mem_of_getElem? (i := 157) rfl, List.forall_mem_cons.mpr ⟨List.mem_of_getElem? (i := 158) rfl, fun _ h => absurd h List.not_mem_nil⟩⟩⟩⟩
def f_X11_prepareTraits (N : Nat) (MC : Nat) (MS : Nat) (sp_unlike : Int32) (sp_number : Int64) (sp_partsKept : Int32) (sp_partsNumber : Int64) (n_row : Nat) (a_row : Nat → Int32) (n_list : Nat) (a_list : Nat → Int32) (a_prime : Nat → Int64) (a_times : Nat → Int32) (a_parts : Nat → Int64) (n_all : Nat) (a_all : Nat → Int32) (n_apart : Nat) (a_apart : Nat → Int32) (n_traits : Nat) (a_traits : Nat → Int32) : Option (Int32 × Int64 × Int32 × Int64 × Nat × (Nat → Int32) × Nat × (Nat → Int32) × (Nat → Int64) × (Nat → Int32) × (Nat → Int64) × Nat × (Nat → Int32) × Nat × (Nat → Int32) × Nat × (Nat → Int32)) :=
  if 0 + (if 0 < nI n_list then 0 else 1 + (if nI n_row = 0 then 1 else 0)) ≤ MC ∧ 0 + (if 0 < nI n_list then 0 else 9592 + (if nI n_row = 0 then 50001 else 0)) ≤ MS then
    Option.bind (f_X3_prepare N (if 0 < nI n_list then 0 else 1 + (if nI n_row = 0 then 1 else 0)) (if 0 < nI n_list then 0 else 9592 + (if nI n_row = 0 then 50001 else 0))  n_row a_row n_list a_list) fun r1z =>
    if 0 + (if 0 < nI n_list then 0 else 1 + (if nI n_row = 0 then 1 else 0)) + (if 0 < nI n_all then 0 else 2 + (if nI r1z.1 = 0 then 1 else 0)) ≤ MC ∧ 0 + (if 0 < nI n_list then 0 else 9592 + (if nI n_row = 0 then 50001 else 0)) + (if 0 < nI n_all then 0 else 100002 + (if nI r1z.1 = 0 then 50001 else 0)) ≤ MS then
      Option.bind (f_X7_prepare N (if 0 < nI n_all then 0 else 2 + (if nI r1z.1 = 0 then 1 else 0)) (if 0 < nI n_all then 0 else 100002 + (if nI r1z.1 = 0 then 50001 else 0))  r1z.1 r1z.2.1 n_all a_all n_apart a_apart) fun r5z =>
      if 0 + (if 0 < nI n_list then 0 else 1 + (if nI n_row = 0 then 1 else 0)) + (if 0 < nI n_all then 0 else 2 + (if nI r1z.1 = 0 then 1 else 0)) + (if 0 < nI n_traits then 0 else 1 + (if nI r5z.1 = 0 then 1 else 0)) ≤ MC ∧ 0 + (if 0 < nI n_list then 0 else 9592 + (if nI n_row = 0 then 50001 else 0)) + (if 0 < nI n_all then 0 else 100002 + (if nI r1z.1 = 0 then 50001 else 0)) + (if 0 < nI n_traits then 0 else 5001 + (if nI r5z.1 = 0 then 50001 else 0)) ≤ MS then
        Option.bind (f_X8_prepare N (if 0 < nI n_traits then 0 else 1 + (if nI r5z.1 = 0 then 1 else 0)) (if 0 < nI n_traits then 0 else 5001 + (if nI r5z.1 = 0 then 50001 else 0))  sp_unlike sp_number sp_partsKept sp_partsNumber r5z.1 r5z.2.1 r1z.2.2.1 r1z.2.2.2 a_prime a_times a_parts r5z.2.2.1 r5z.2.2.2.1 r5z.2.2.2.2.1 r5z.2.2.2.2.2 n_traits a_traits) fun r9z =>
        if 0 + (if 0 < nI n_list then 0 else 1 + (if nI n_row = 0 then 1 else 0)) + (if 0 < nI n_all then 0 else 2 + (if nI r1z.1 = 0 then 1 else 0)) + (if 0 < nI n_traits then 0 else 1 + (if nI r5z.1 = 0 then 1 else 0)) ≤ MC ∧ 0 + (if 0 < nI n_list then 0 else 9592 + (if nI n_row = 0 then 50001 else 0)) + (if 0 < nI n_all then 0 else 100002 + (if nI r1z.1 = 0 then 50001 else 0)) + (if 0 < nI n_traits then 0 else 5001 + (if nI r5z.1 = 0 then 50001 else 0)) ≤ MS then
          some (r9z.1, r9z.2.1, r9z.2.2.1, r9z.2.2.2.1, r9z.2.2.2.2.1, r9z.2.2.2.2.2.1, r1z.2.2.1, r1z.2.2.2, r9z.2.2.2.2.2.2.1, r9z.2.2.2.2.2.2.2.1, r9z.2.2.2.2.2.2.2.2.1, r5z.2.2.1, r5z.2.2.2.1, r5z.2.2.2.2.1, r5z.2.2.2.2.2, r9z.2.2.2.2.2.2.2.2.2.1, r9z.2.2.2.2.2.2.2.2.2.2)
        else
          none
      else
        none
    else
      none
  else
    none
set_option maxRecDepth 100000 in
set_option maxHeartbeats 4000000 in
theorem k_X11_prepareTraits_0 {p : Program} {l : Launch} {e : Env} {s : State} {m : MethodId} {args : Array Value} {below : List Frame} {meth : Method} {c : Code} {dC : Nat → ClassId} {dI : Nat → Nat → Nat} {cyI cyJ cyZ : ClassId} {A : Nat → Prop} (C0 : mC p s m meth c args cX11_prepareTraits none 1 RX11 wsX11_prepareTraits (gK dC dI cyI cyJ cyZ) A) (N : Nat) (MC MS : Nat) (res : Int32 × Int64 × Int32 × Int64 × Nat × (Nat → Int32) × Nat × (Nat → Int32) × (Nat → Int64) × (Nat → Int32) × (Nat → Int64) × Nat × (Nat → Int32) × Nat × (Nat → Int32) × Nat × (Nat → Int32)) (q_G : Nat) (q_Sc : Nat) (q_Pr : Nat) (q_Sp : Nat) (q_Tb : Nat) (q_Mk : Nat) (q_Tr : Nat) (q_prime : Nat) (q_times : Nat) (q_parts : Nat) (q_Ch : Nat) (q_Sk : Nat) (q_Wh : Nat) (q_Ws : Nat) (sp_unlike : Int32) (sp_number : Int64) (sp_partsKept : Int32) (sp_partsNumber : Int64) (n_row : Nat) (a_row : Nat → Int32) (n_list : Nat) (a_list : Nat → Int32) (a_prime : Nat → Int64) (a_times : Nat → Int32) (a_parts : Nat → Int64) (n_all : Nat) (a_all : Nat → Int32) (n_apart : Nat) (a_apart : Nat → Int32) (n_traits : Nat) (a_traits : Nat → Int32) (q_row : Nat) (q_list : Nat) (q_all : Nat) (q_apart : Nat) (q_traits : Nat) (h : f_X11_prepareTraits N MC MS sp_unlike sp_number sp_partsKept sp_partsNumber n_row a_row n_list a_list a_prime a_times a_parts n_all a_all n_apart a_apart n_traits a_traits = some res) : ∀ (H : Heap) (locs : List Loc), va_P (dC, dI) vwCl (wd42 cyI cyJ cyZ q_G q_Sc q_Pr q_Sp q_Tb q_Mk q_Tr q_row q_list q_prime q_times q_parts q_all q_apart q_traits q_Ch q_Sk q_Wh q_Ws sp_unlike sp_number sp_partsKept sp_partsNumber n_row a_row n_list a_list a_prime a_times a_parts n_all a_all n_apart a_apart n_traits a_traits) H → va_D A (wd42 cyI cyJ cyZ q_G q_Sc q_Pr q_Sp q_Tb q_Mk q_Tr q_row q_list q_prime q_times q_parts q_all q_apart q_traits q_Ch q_Sk q_Wh q_Ws sp_unlike sp_number sp_partsKept sp_partsNumber n_row a_row n_list a_list a_prime a_times a_parts n_all a_all n_apart a_apart n_traits a_traits) → va_S A s.heap H locs → ∀ (ls : Array Slot), lv_has ls 1 [(0, .ref q_G)] → W p l e (headSpec wsX11_prepareTraits (rm_X11_prepareTraits MC MS)).room s m args below meth c H locs 0 0 (MQ below (va_Qv (fun (_ : Nat × Nat × Nat × Nat × Nat) => True) (bW dC dI (fun (u : Nat × Nat × Nat × Nat × Nat) => (wd42 cyI cyJ cyZ q_G q_Sc q_Pr q_Sp q_Tb q_Mk q_Tr u.1 u.2.1 q_prime q_times q_parts u.2.2.1 u.2.2.2.1 u.2.2.2.2 q_Ch q_Sk q_Wh q_Ws res.1 res.2.1 res.2.2.1 res.2.2.2.1 res.2.2.2.2.1 res.2.2.2.2.2.1 res.2.2.2.2.2.2.1 res.2.2.2.2.2.2.2.1 res.2.2.2.2.2.2.2.2.1 res.2.2.2.2.2.2.2.2.2.1 res.2.2.2.2.2.2.2.2.2.2.1 res.2.2.2.2.2.2.2.2.2.2.2.1 res.2.2.2.2.2.2.2.2.2.2.2.2.1 res.2.2.2.2.2.2.2.2.2.2.2.2.2.1 res.2.2.2.2.2.2.2.2.2.2.2.2.2.2.1 res.2.2.2.2.2.2.2.2.2.2.2.2.2.2.2.1 res.2.2.2.2.2.2.2.2.2.2.2.2.2.2.2.2)) A) A) args s MC MS A) (F0 m 0 ls []) := by
  obtain ⟨hx, hb, hr, hml, hown, hts, hlocks, hG, hA⟩ := id C0
  have hK := hG.1
  intro H locs hP hD hS ls hl
  unfold f_X11_prepareTraits at h
  refine lv_aload_n hx hb dX11_prepareTraits_0 rfl (lv_at hl 0 rfl) ?_
  refine va_get (D := (dC, dI)) (ci := 11) (v := .ref q_Pr) (C := RX11) (T := TX11) (N := 9) hx hb hts iw_X11_prepareTraits_X11 hown hK hP 0 rfl rfl 0 (by decide) (hts (.fieldLink RX11 15 "GoesInto" "primes" "LGoesInto$Primes;") (List.mem_of_getElem? (i := 1) rfl)) (fun _ h9 => h9) rfl dX11_prepareTraits_1 ?_
  obtain ⟨b2z, h⟩ := xa h
  obtain ⟨r1z, hr1z, h⟩ := xb_at h
  have hPc := hP.sub (ws' := (wd11 cyI cyJ cyZ q_Sc q_Pr q_row q_list n_row a_row n_list a_list)) [1, 2, 7, 8] rfl
  have hDc := hD.sub (ws' := (wd11 cyI cyJ cyZ q_Sc q_Pr q_row q_list n_row a_row n_list a_list)) [1, 2, 7, 8] (by decide) rfl
  refine cal_v [1, 2, 7, 8] [0, 3, 4, 5, 6, 9, 10, 11, 12, 13, 14] (va_runV (As := []) (rest := []) ⟨hx, hb, hml, hown, hts⟩ (c_X3_prepare l dC dI cyI cyJ cyZ N (if 0 < nI n_list then 0 else 1 + (if nI n_row = 0 then 1 else 0)) (if 0 < nI n_list then 0 else 9592 + (if nI n_row = 0 then 50001 else 0)) r1z H.size q_Sc q_Pr q_row q_list  n_row a_row n_list a_list hr1z) (cwV 0 hts gX11_prepareTraits_X3_prepare rfl rfl rfl ⟨rfl, hd_X3_prepare⟩ ⟨Nat.le_of_ble_eq_true rfl, Nat.le_of_ble_eq_true rfl⟩) ⟨pC.blind, va_recv hK hPc (ci := 3) (q0 := 1) rfl rfl, pC.pre hPc hG hDc⟩ rfl rfl hl.1 rfl (lv_room (Nat.le_of_ble_eq_true rfl)) dX11_prepareTraits_4 ⟨b2z.1, b2z.2⟩) hP hD hS hA rfl rfl rfl (by decide) (fun u3z H locs _ hP hD hS => ?_)
  have hP : va_P (dC, dI) vwCl (wd42 cyI cyJ cyZ q_G q_Sc q_Pr q_Sp q_Tb q_Mk q_Tr u3z.1 u3z.2 q_prime q_times q_parts q_all q_apart q_traits q_Ch q_Sk q_Wh q_Ws sp_unlike sp_number sp_partsKept sp_partsNumber r1z.1 r1z.2.1 r1z.2.2.1 r1z.2.2.2 a_prime a_times a_parts n_all a_all n_apart a_apart n_traits a_traits) H := hP.sub [0, 11, 12, 1, 2, 3, 4, 13, 14, 5, 6, 7, 8, 9, 10] rfl
  have hD : va_D A (wd42 cyI cyJ cyZ q_G q_Sc q_Pr q_Sp q_Tb q_Mk q_Tr u3z.1 u3z.2 q_prime q_times q_parts q_all q_apart q_traits q_Ch q_Sk q_Wh q_Ws sp_unlike sp_number sp_partsKept sp_partsNumber r1z.1 r1z.2.1 r1z.2.2.1 r1z.2.2.2 a_prime a_times a_parts n_all a_all n_apart a_apart n_traits a_traits) := hD.sub [0, 11, 12, 1, 2, 3, 4, 13, 14, 5, 6, 7, 8, 9, 10] (by decide) rfl
  refine lv_aload_n hx hb dX11_prepareTraits_7 rfl (lv_at hl 0 rfl) ?_
  refine va_get (D := (dC, dI)) (ci := 11) (v := .ref q_Tb) (C := RX11) (T := TX11) (N := 9) hx hb hts iw_X11_prepareTraits_X11 hown hK hP 0 rfl rfl 3 (by decide) (hts (.fieldLink RX11 42 "GoesInto" "tables" "LGoesInto$Tables;") (List.mem_of_getElem? (i := 2) rfl)) (fun _ h9 => h9) rfl dX11_prepareTraits_8 ?_
  obtain ⟨b6z, h⟩ := xa h
  obtain ⟨r5z, hr5z, h⟩ := xb_at h
  have hPc := hP.sub (ws' := (wd14 cyI cyJ cyZ q_Sc q_Tb u3z.1 q_all q_apart r1z.1 r1z.2.1 n_all a_all n_apart a_apart)) [1, 4, 7, 12, 13] rfl
  have hDc := hD.sub (ws' := (wd14 cyI cyJ cyZ q_Sc q_Tb u3z.1 q_all q_apart r1z.1 r1z.2.1 n_all a_all n_apart a_apart)) [1, 4, 7, 12, 13] (by decide) rfl
  refine cal_v [1, 4, 7, 12, 13] [0, 2, 3, 5, 6, 8, 9, 10, 11, 14] (va_runV (As := []) (rest := []) ⟨hx, hb, hml, hown, hts⟩ (c_X7_prepare l dC dI cyI cyJ cyZ N (if 0 < nI n_all then 0 else 2 + (if nI r1z.1 = 0 then 1 else 0)) (if 0 < nI n_all then 0 else 100002 + (if nI r1z.1 = 0 then 50001 else 0)) r5z H.size q_Sc q_Tb u3z.1 q_all q_apart  r1z.1 r1z.2.1 n_all a_all n_apart a_apart hr5z) (cwV 0 hts gX11_prepareTraits_X7_prepare rfl rfl rfl ⟨rfl, hd_X7_prepare⟩ ⟨Nat.le_of_ble_eq_true rfl, Nat.le_of_ble_eq_true rfl⟩) ⟨pC.blind, va_recv hK hPc (ci := 7) (q0 := 1) rfl rfl, pC.pre hPc hG hDc⟩ rfl rfl hl.1 rfl (lv_room (Nat.le_of_ble_eq_true rfl)) dX11_prepareTraits_11 ⟨b6z.1, b6z.2⟩) hP hD hS hA rfl rfl rfl (by decide) (fun u7z H locs _ hP hD hS => ?_)
  have hP : va_P (dC, dI) vwCl (wd42 cyI cyJ cyZ q_G q_Sc q_Pr q_Sp q_Tb q_Mk q_Tr u7z.1 u3z.2 q_prime q_times q_parts u7z.2.1 u7z.2.2 q_traits q_Ch q_Sk q_Wh q_Ws sp_unlike sp_number sp_partsKept sp_partsNumber r5z.1 r5z.2.1 r1z.2.2.1 r1z.2.2.2 a_prime a_times a_parts r5z.2.2.1 r5z.2.2.2.1 r5z.2.2.2.2.1 r5z.2.2.2.2.2 n_traits a_traits) H := hP.sub [0, 10, 1, 2, 11, 3, 4, 12, 5, 6, 7, 8, 13, 14, 9] rfl
  have hD : va_D A (wd42 cyI cyJ cyZ q_G q_Sc q_Pr q_Sp q_Tb q_Mk q_Tr u7z.1 u3z.2 q_prime q_times q_parts u7z.2.1 u7z.2.2 q_traits q_Ch q_Sk q_Wh q_Ws sp_unlike sp_number sp_partsKept sp_partsNumber r5z.1 r5z.2.1 r1z.2.2.1 r1z.2.2.2 a_prime a_times a_parts r5z.2.2.1 r5z.2.2.2.1 r5z.2.2.2.2.1 r5z.2.2.2.2.2 n_traits a_traits) := hD.sub [0, 10, 1, 2, 11, 3, 4, 12, 5, 6, 7, 8, 13, 14, 9] (by decide) rfl
  refine lv_aload_n hx hb dX11_prepareTraits_14 rfl (lv_at hl 0 rfl) ?_
  refine va_get (D := (dC, dI)) (ci := 11) (v := .ref q_Tr) (C := RX11) (T := TX11) (N := 9) hx hb hts iw_X11_prepareTraits_X11 hown hK hP 0 rfl rfl 7 (by decide) (hts (.fieldLink RX11 78 "GoesInto" "traits" "LGoesInto$Traits;") (List.mem_of_getElem? (i := 3) rfl)) (fun _ h9 => h9) rfl dX11_prepareTraits_15 ?_
  obtain ⟨b10z, h⟩ := xa h
  obtain ⟨r9z, hr9z, h⟩ := xb_at h
  have hPc := hP.sub (ws' := (wd33 cyI cyJ cyZ q_Sc q_Pr q_Sp q_Tb q_Mk q_Tr u7z.1 u3z.2 q_prime q_times q_parts u7z.2.1 u7z.2.2 q_traits sp_unlike sp_number sp_partsKept sp_partsNumber r5z.1 r5z.2.1 r1z.2.2.1 r1z.2.2.2 a_prime a_times a_parts r5z.2.2.1 r5z.2.2.2.1 r5z.2.2.2.2.1 r5z.2.2.2.2.2 n_traits a_traits)) [1, 2, 3, 4, 5, 6, 7, 8, 9, 10, 11, 12, 13, 14] rfl
  have hDc := hD.sub (ws' := (wd33 cyI cyJ cyZ q_Sc q_Pr q_Sp q_Tb q_Mk q_Tr u7z.1 u3z.2 q_prime q_times q_parts u7z.2.1 u7z.2.2 q_traits sp_unlike sp_number sp_partsKept sp_partsNumber r5z.1 r5z.2.1 r1z.2.2.1 r1z.2.2.2 a_prime a_times a_parts r5z.2.2.1 r5z.2.2.2.1 r5z.2.2.2.2.1 r5z.2.2.2.2.2 n_traits a_traits)) [1, 2, 3, 4, 5, 6, 7, 8, 9, 10, 11, 12, 13, 14] (by decide) rfl
  refine cal_v [1, 2, 3, 4, 5, 6, 7, 8, 9, 10, 11, 12, 13, 14] [0] (va_runV (As := []) (rest := []) ⟨hx, hb, hml, hown, hts⟩ (c_X8_prepare l dC dI cyI cyJ cyZ N (if 0 < nI n_traits then 0 else 1 + (if nI r5z.1 = 0 then 1 else 0)) (if 0 < nI n_traits then 0 else 5001 + (if nI r5z.1 = 0 then 50001 else 0)) r9z H.size q_Sc q_Pr q_Sp q_Tb q_Mk q_Tr u7z.1 u3z.2 q_prime q_times q_parts u7z.2.1 u7z.2.2 q_traits  sp_unlike sp_number sp_partsKept sp_partsNumber r5z.1 r5z.2.1 r1z.2.2.1 r1z.2.2.2 a_prime a_times a_parts r5z.2.2.1 r5z.2.2.2.1 r5z.2.2.2.2.1 r5z.2.2.2.2.2 n_traits a_traits hr9z) (cwV 0 hts gX11_prepareTraits_X8_prepare rfl rfl rfl ⟨rfl, hd_X8_prepare⟩ ⟨Nat.le_of_ble_eq_true rfl, Nat.le_of_ble_eq_true rfl⟩) ⟨pC.blind, va_recv hK hPc (ci := 8) (q0 := 5) rfl rfl, pC.pre hPc hG hDc⟩ rfl rfl hl.1 rfl (lv_room (Nat.le_of_ble_eq_true rfl)) dX11_prepareTraits_18 ⟨b10z.1, b10z.2⟩) hP hD hS hA rfl rfl rfl (by decide) (fun u11z H locs _ hP hD hS => ?_)
  have hP : va_P (dC, dI) vwCl (wd42 cyI cyJ cyZ q_G q_Sc q_Pr q_Sp q_Tb q_Mk q_Tr u11z.1 u3z.2 q_prime q_times q_parts u7z.2.1 u7z.2.2 u11z.2 q_Ch q_Sk q_Wh q_Ws r9z.1 r9z.2.1 r9z.2.2.1 r9z.2.2.2.1 r9z.2.2.2.2.1 r9z.2.2.2.2.2.1 r1z.2.2.1 r1z.2.2.2 r9z.2.2.2.2.2.2.1 r9z.2.2.2.2.2.2.2.1 r9z.2.2.2.2.2.2.2.2.1 r5z.2.2.1 r5z.2.2.2.1 r5z.2.2.2.2.1 r5z.2.2.2.2.2 r9z.2.2.2.2.2.2.2.2.2.1 r9z.2.2.2.2.2.2.2.2.2.2) H := hP.sub [0, 1, 2, 3, 4, 5, 6, 7, 8, 9, 10, 11, 12, 13, 14] rfl
  have hD : va_D A (wd42 cyI cyJ cyZ q_G q_Sc q_Pr q_Sp q_Tb q_Mk q_Tr u11z.1 u3z.2 q_prime q_times q_parts u7z.2.1 u7z.2.2 u11z.2 q_Ch q_Sk q_Wh q_Ws r9z.1 r9z.2.1 r9z.2.2.1 r9z.2.2.2.1 r9z.2.2.2.2.1 r9z.2.2.2.2.2.1 r1z.2.2.1 r1z.2.2.2 r9z.2.2.2.2.2.2.1 r9z.2.2.2.2.2.2.2.1 r9z.2.2.2.2.2.2.2.2.1 r5z.2.2.1 r5z.2.2.2.1 r5z.2.2.2.2.1 r5z.2.2.2.2.2 r9z.2.2.2.2.2.2.2.2.2.1 r9z.2.2.2.2.2.2.2.2.2.2) := hD.sub [0, 1, 2, 3, 4, 5, 6, 7, 8, 9, 10, 11, 12, 13, 14] (by decide) rfl
  obtain ⟨b13z, h⟩ := xa h
  refine W.widen (k := MC) (n := MS) b13z.1 b13z.2 ?_
  obtain rfl := Option.some.inj h
  exact W.vret hx hb hr (fun t ht hW => ⟨⟨(u11z.1, u3z.2, u7z.2.1, u7z.2.2, u11z.2), rfl, trivial, by rw [ht]; exact hP, hD⟩, hS.F ht⟩) hS.2.2 dX11_prepareTraits_21 hlocks
set_option maxRecDepth 100000 in
set_option maxHeartbeats 4000000 in
theorem c_X11_prepareTraits (l : Launch) (dC : Nat → ClassId) (dI : Nat → Nat → Nat) (cyI cyJ cyZ : ClassId) (N : Nat) (MC MS : Nat) (res : Int32 × Int64 × Int32 × Int64 × Nat × (Nat → Int32) × Nat × (Nat → Int32) × (Nat → Int64) × (Nat → Int32) × (Nat → Int64) × Nat × (Nat → Int32) × Nat × (Nat → Int32) × Nat × (Nat → Int32)) (sz : Nat) (q_G : Nat) (q_Sc : Nat) (q_Pr : Nat) (q_Sp : Nat) (q_Tb : Nat) (q_Mk : Nat) (q_Tr : Nat) (q_row : Nat) (q_list : Nat) (q_prime : Nat) (q_times : Nat) (q_parts : Nat) (q_all : Nat) (q_apart : Nat) (q_traits : Nat) (q_Ch : Nat) (q_Sk : Nat) (q_Wh : Nat) (q_Ws : Nat) (sp_unlike : Int32) (sp_number : Int64) (sp_partsKept : Int32) (sp_partsNumber : Int64) (n_row : Nat) (a_row : Nat → Int32) (n_list : Nat) (a_list : Nat → Int32) (a_prime : Nat → Int64) (a_times : Nat → Int32) (a_parts : Nat → Int64) (n_all : Nat) (a_all : Nat → Int32) (n_apart : Nat) (a_apart : Nat → Int32) (n_traits : Nat) (a_traits : Nat → Int32) (h : f_X11_prepareTraits N MC MS  sp_unlike sp_number sp_partsKept sp_partsNumber n_row a_row n_list a_list a_prime a_times a_parts n_all a_all n_apart a_apart n_traits a_traits = some res) : Met l yX11_prepareTraits wsX11_prepareTraits (rm_X11_prepareTraits MC MS) (pC dC dI cyI cyJ cyZ [.ref q_G] sz (wd42 cyI cyJ cyZ q_G q_Sc q_Pr q_Sp q_Tb q_Mk q_Tr q_row q_list q_prime q_times q_parts q_all q_apart q_traits q_Ch q_Sk q_Wh q_Ws sp_unlike sp_number sp_partsKept sp_partsNumber n_row a_row n_list a_list a_prime a_times a_parts n_all a_all n_apart a_apart n_traits a_traits)) (va_Qv (fun (_ : Nat × Nat × Nat × Nat × Nat) => True) (bW dC dI (fun (u : Nat × Nat × Nat × Nat × Nat) => (wd42 cyI cyJ cyZ q_G q_Sc q_Pr q_Sp q_Tb q_Mk q_Tr u.1 u.2.1 q_prime q_times q_parts u.2.2.1 u.2.2.2.1 u.2.2.2.2 q_Ch q_Sk q_Wh q_Ws res.1 res.2.1 res.2.2.1 res.2.2.2.1 res.2.2.2.2.1 res.2.2.2.2.2.1 res.2.2.2.2.2.2.1 res.2.2.2.2.2.2.2.1 res.2.2.2.2.2.2.2.2.1 res.2.2.2.2.2.2.2.2.2.1 res.2.2.2.2.2.2.2.2.2.2.1 res.2.2.2.2.2.2.2.2.2.2.2.1 res.2.2.2.2.2.2.2.2.2.2.2.2.1 res.2.2.2.2.2.2.2.2.2.2.2.2.2.1 res.2.2.2.2.2.2.2.2.2.2.2.2.2.2.1 res.2.2.2.2.2.2.2.2.2.2.2.2.2.2.2.1 res.2.2.2.2.2.2.2.2.2.2.2.2.2.2.2.2)) (va_A (wd42 cyI cyJ cyZ q_G q_Sc q_Pr q_Sp q_Tb q_Mk q_Tr q_row q_list q_prime q_times q_parts q_all q_apart q_traits q_Ch q_Sk q_Wh q_Ws sp_unlike sp_number sp_partsKept sp_partsNumber n_row a_row n_list a_list a_prime a_times a_parts n_all a_all n_apart a_apart n_traits a_traits) sz)) (va_A (wd42 cyI cyJ cyZ q_G q_Sc q_Pr q_Sp q_Tb q_Mk q_Tr q_row q_list q_prime q_times q_parts q_all q_apart q_traits q_Ch q_Sk q_Wh q_Ws sp_unlike sp_number sp_partsKept sp_partsNumber n_row a_row n_list a_list a_prime a_times a_parts n_all a_all n_apart a_apart n_traits a_traits) sz)) MC MS (va_A (wd42 cyI cyJ cyZ q_G q_Sc q_Pr q_Sp q_Tb q_Mk q_Tr q_row q_list q_prime q_times q_parts q_all q_apart q_traits q_Ch q_Sk q_Wh q_Ws sp_unlike sp_number sp_partsKept sp_partsNumber n_row a_row n_list a_list a_prime a_times a_parts n_all a_all n_apart a_apart n_traits a_traits) sz) := by
  refine Met.ofW (cc := cX11_prepareTraits) (maxL := 1) (ret := none) (by decide) rfl ?_
  intro p e s m args below meth c s₁ B hml hv
  obtain ⟨rfl, hsz, hP, hG, hD0⟩ := hv
  have hx := B.exec
  have hb := B.bytes
  have hr := B.returns
  have hts := atoms_spec (ws := wsX11_prepareTraits) B.pre
  have hown : s.vm.findClass RX11 = some m.cls := findClass_of_methodNamed B.named
  have hlocks := B.notSynchronized
  subst hsz
  have hD := hD0.self (sz := s.heap.size)
  generalize hAe : va_A (wd42 cyI cyJ cyZ q_G q_Sc q_Pr q_Sp q_Tb q_Mk q_Tr q_row q_list q_prime q_times q_parts q_all q_apart q_traits q_Ch q_Sk q_Wh q_Ws sp_unlike sp_number sp_partsKept sp_partsNumber n_row a_row n_list a_list a_prime a_times a_parts n_all a_all n_apart a_apart n_traits a_traits) s.heap.size = A at hD ⊢
  have hA : ∀ q : Nat, s.heap.size ≤ q → A q := fun q h => by rw [← hAe]; exact Or.inr h
  have hS : va_S A s.heap s.heap [] := va_S.rf
  have hl := lv_entry ([.ref q_G]) (n := 1) (Nat.le_of_ble_eq_true rfl)
  rw [lg_entry_eq]
  generalize (lg_sl ([.ref q_G]) ++ List.replicate (1 - (lg_sl ([.ref q_G])).length) Slot.unset).toArray = ls at hl ⊢
  have hl : lv_has ls 1 [(0, .ref q_G)] := hl
  exact k_X11_prepareTraits_0 ⟨hx, hb, hr, hml, hown, hts, hlocks, hG, hA⟩ N MC MS res q_G q_Sc q_Pr q_Sp q_Tb q_Mk q_Tr q_prime q_times q_parts q_Ch q_Sk q_Wh q_Ws sp_unlike sp_number sp_partsKept sp_partsNumber n_row a_row n_list a_list a_prime a_times a_parts n_all a_all n_apart a_apart n_traits a_traits q_row q_list q_all q_apart q_traits h _ _ hP hD hS _ hl
/-- the cells G, Sc, Pr, Sp, row, list, prime, times -/
abbrev wd43 (cyI cyJ cyZ : ClassId) (q_G : Nat) (q_Sc : Nat) (q_Pr : Nat) (q_Sp : Nat) (q_row : Nat) (q_list : Nat) (q_prime : Nat) (q_times : Nat) (q_Ch : Nat) (q_Tb : Nat) (q_Sk : Nat) (q_Wh : Nat) (q_Mk : Nat) (q_Tr : Nat) (q_Ws : Nat) (q_parts : Nat) (sp_unlike : Int32) (sp_number : Int64) (sp_partsKept : Int32) (sp_partsNumber : Int64) (n_row : Nat) (a_row : Nat → Int32) (n_list : Nat) (a_list : Nat → Int32) (a_prime : Nat → Int64) (a_times : Nat → Int32) : va_W := [(q_G, .inr (11, [.ref q_Pr, .ref q_Sp, .ref q_Ch, .ref q_Tb, .ref q_Sk, .ref q_Wh, .ref q_Mk, .ref q_Tr, .ref q_Ws])), (q_Sc, .inr (4, [.ref q_row])), (q_Pr, .inr (3, [.ref q_Sc, .ref q_list])), (q_Sp, .inr (6, [.ref q_Pr, .ref q_prime, .ref q_times, .int sp_unlike, .long sp_number, .ref q_parts, .int sp_partsKept, .long sp_partsNumber])), (q_row, .inl (cyI, n_row, .inl a_row)), (q_list, .inl (cyI, n_list, .inl a_list)), (q_prime, .inl (cyJ, 12, .inr (.inl a_prime))), (q_times, .inl (cyI, 12, .inl a_times))]
abbrev rm_X11_sum (MC MS : Nat) : Room := { frames := 3, cells := MC, slots := MS, locals := 79 }
theorem hd_X11_sum : yX11_sum.cls ≠ "java/lang/invoke/MethodHandle" ∧ yX11_sum.cls ≠ "java/lang/invoke/VarHandle" ∧ (parseMethodDescriptor yX11_sum.desc).map (fun d => d.parameters.length) = some 2 := by decide +kernel
theorem iw_X11_sum_X11 : ∀ w ∈ wsX110, w ∈ wsX11_sum := List.forall_mem_cons.mpr ⟨List.mem_of_getElem? (i := 66) rfl, List.forall_mem_cons.mpr ⟨List.mem_of_getElem? (i := 67) rfl, List.forall_mem_cons.mpr ⟨List.mem_of_getElem? (i := 68) rfl, List.forall_mem_cons.mpr ⟨List.mem_of_getElem? (i := 69) rfl, List.forall_mem_cons.mpr ⟨List.mem_of_getElem? (i := 70) rfl, List.forall_mem_cons.mpr ⟨List.mem_of_getElem? (i := 71) rfl, List.forall_mem_cons.mpr ⟨List.mem_of_getElem? (i := 72) rfl, List.forall_mem_cons.mpr ⟨List.mem_of_getElem? (i := 73) rfl, List.forall_mem_cons.mpr ⟨List.mem_of_getElem? (i := 74) rfl, fun _ h => absurd h List.not_mem_nil⟩⟩⟩⟩⟩⟩⟩⟩⟩
theorem iw_X11_sum_X4 : ∀ w ∈ wsX40, w ∈ wsX11_sum := List.forall_mem_cons.mpr ⟨List.mem_of_getElem? (i := 77) rfl, fun _ h => absurd h List.not_mem_nil⟩
theorem iw_X11_sum_X3 : ∀ w ∈ wsX30, w ∈ wsX11_sum := List.forall_mem_cons.mpr ⟨List.mem_of_getElem? (i := 75) rfl, List.forall_mem_cons.mpr ⟨List.mem_of_getElem? (i := 76) rfl, fun _ h => absurd h List.not_mem_nil⟩⟩
theorem iw_X11_sum_X6 : ∀ w ∈ wsX60, w ∈ wsX11_sum := List.forall_mem_cons.mpr ⟨List.mem_of_getElem? (i := 78) rfl, List.forall_mem_cons.mpr ⟨List.mem_of_getElem? (i := 79) rfl, List.forall_mem_cons.mpr ⟨List.mem_of_getElem? (i := 80) rfl, List.forall_mem_cons.mpr ⟨List.mem_of_getElem? (i := 81) rfl, List.forall_mem_cons.mpr ⟨List.mem_of_getElem? (i := 82) rfl, List.forall_mem_cons.mpr ⟨List.mem_of_getElem? (i := 83) rfl, List.forall_mem_cons.mpr ⟨List.mem_of_getElem? (i := 84) rfl, List.forall_mem_cons.mpr ⟨List.mem_of_getElem? (i := 85) rfl, fun _ h => absurd h List.not_mem_nil⟩⟩⟩⟩⟩⟩⟩⟩
def f_X11_sum (N : Nat) (MC : Nat) (MS : Nat) (v1 : Int32) (v2 : Int64) (sp_unlike : Int32) (sp_number : Int64) (n_row : Nat) (a_row : Nat → Int32) (n_list : Nat) (a_list : Nat → Int32) (a_prime : Nat → Int64) (a_times : Nat → Int32) : Option (Int64 × Int32 × Int64 × Nat × (Nat → Int32) × Nat × (Nat → Int32) × (Nat → Int64) × (Nat → Int32)) :=
  if 0 ≤ MC ∧ 0 ≤ MS then
    Option.bind (f_X11_within N v1 (0 : Int32) (3 : Int32)) fun r1z =>
    if r1z = 0 then
      if 0 ≤ MC ∧ 0 ≤ MS then
        some ((-1 : Int64), sp_unlike, sp_number, n_row, a_row, n_list, a_list, a_prime, a_times)
      else
        none
    else
      if 0 ≤ MC ∧ 0 ≤ MS then
        Option.bind (f_X11_isNumber N v2) fun r7z =>
        if r7z = 0 then
          if 0 ≤ MC ∧ 0 ≤ MS then
            some ((-1 : Int64), sp_unlike, sp_number, n_row, a_row, n_list, a_list, a_prime, a_times)
          else
            none
        else
          if 0 + (if 0 < nI n_list then 0 else 1 + (if nI n_row = 0 then 1 else 0)) ≤ MC ∧ 0 + (if 0 < nI n_list then 0 else 9592 + (if nI n_row = 0 then 50001 else 0)) ≤ MS then
            Option.bind (f_X3_prepare N (if 0 < nI n_list then 0 else 1 + (if nI n_row = 0 then 1 else 0)) (if 0 < nI n_list then 0 else 9592 + (if nI n_row = 0 then 50001 else 0))  n_row a_row n_list a_list) fun r12z =>
            if 0 + (if 0 < nI n_list then 0 else 1 + (if nI n_row = 0 then 1 else 0)) ≤ MC ∧ 0 + (if 0 < nI n_list then 0 else 9592 + (if nI n_row = 0 then 50001 else 0)) ≤ MS then
              Option.bind (f_X6_summed N v1 v2 sp_unlike sp_number r12z.2.2.1 r12z.2.2.2 a_prime a_times) fun r16z =>
              if 0 + (if 0 < nI n_list then 0 else 1 + (if nI n_row = 0 then 1 else 0)) ≤ MC ∧ 0 + (if 0 < nI n_list then 0 else 9592 + (if nI n_row = 0 then 50001 else 0)) ≤ MS then
                some (r16z.1, r16z.2.1, r16z.2.2.1, r12z.1, r12z.2.1, r12z.2.2.1, r12z.2.2.2, r16z.2.2.2.1, r16z.2.2.2.2)
              else
                none
            else
              none
          else
            none
      else
        none
  else
    none
set_option maxRecDepth 100000 in
set_option maxHeartbeats 4000000 in
theorem k_X11_sum_0 {p : Program} {l : Launch} {e : Env} {s : State} {m : MethodId} {args : Array Value} {below : List Frame} {meth : Method} {c : Code} {dC : Nat → ClassId} {dI : Nat → Nat → Nat} {cyI cyJ cyZ : ClassId} {A : Nat → Prop} (C0 : mC p s m meth c args cX11_sum (some .long) 4 RX11 wsX11_sum (gK dC dI cyI cyJ cyZ) A) (N : Nat) (MC MS : Nat) (res : Int64 × Int32 × Int64 × Nat × (Nat → Int32) × Nat × (Nat → Int32) × (Nat → Int64) × (Nat → Int32)) (q_G : Nat) (q_Sc : Nat) (q_Pr : Nat) (q_Sp : Nat) (q_prime : Nat) (q_times : Nat) (q_Ch : Nat) (q_Tb : Nat) (q_Sk : Nat) (q_Wh : Nat) (q_Mk : Nat) (q_Tr : Nat) (q_Ws : Nat) (q_parts : Nat) (v1 : Int32) (v2 : Int64) (sp_unlike : Int32) (sp_number : Int64) (sp_partsKept : Int32) (sp_partsNumber : Int64) (n_row : Nat) (a_row : Nat → Int32) (n_list : Nat) (a_list : Nat → Int32) (a_prime : Nat → Int64) (a_times : Nat → Int32) (q_row : Nat) (q_list : Nat) (h : f_X11_sum N MC MS v1 v2 sp_unlike sp_number n_row a_row n_list a_list a_prime a_times = some res) : ∀ (H : Heap) (locs : List Loc), va_P (dC, dI) vwCl (wd43 cyI cyJ cyZ q_G q_Sc q_Pr q_Sp q_row q_list q_prime q_times q_Ch q_Tb q_Sk q_Wh q_Mk q_Tr q_Ws q_parts sp_unlike sp_number sp_partsKept sp_partsNumber n_row a_row n_list a_list a_prime a_times) H → va_D A (wd43 cyI cyJ cyZ q_G q_Sc q_Pr q_Sp q_row q_list q_prime q_times q_Ch q_Tb q_Sk q_Wh q_Mk q_Tr q_Ws q_parts sp_unlike sp_number sp_partsKept sp_partsNumber n_row a_row n_list a_list a_prime a_times) → va_S A s.heap H locs → ∀ (ls : Array Slot), lv_has ls 4 [(0, .ref q_G), (1, .int v1), (2, .long v2)] → W p l e (headSpec wsX11_sum (rm_X11_sum MC MS)).room s m args below meth c H locs 0 0 (MQ below (va_Ql (fun (r : Int64) (_ : Nat × Nat) => r = res.1) (bW dC dI (fun (u : Nat × Nat) => (wd43 cyI cyJ cyZ q_G q_Sc q_Pr q_Sp u.1 u.2 q_prime q_times q_Ch q_Tb q_Sk q_Wh q_Mk q_Tr q_Ws q_parts res.2.1 res.2.2.1 sp_partsKept sp_partsNumber res.2.2.2.1 res.2.2.2.2.1 res.2.2.2.2.2.1 res.2.2.2.2.2.2.1 res.2.2.2.2.2.2.2.1 res.2.2.2.2.2.2.2.2)) A) A) args s MC MS A) (F0 m 0 ls []) := by
  obtain ⟨hx, hb, hr, hml, hown, hts, hlocks, hG, hA⟩ := id C0
  have hK := hG.1
  intro H locs hP hD hS ls hl
  unfold f_X11_sum at h
  refine lv_iload_n hx hb dX11_sum_0 rfl (lv_at hl 1 rfl) ?_
  refine lv_iconst (v := (0 : Int32)) hx hb dX11_sum_1 (by decide) ?_
  refine lv_iconst (v := (3 : Int32)) hx hb dX11_sum_2 (by decide) ?_
  obtain ⟨b2z, h⟩ := xa h
  obtain ⟨r1z, hr1z, h⟩ := xb_at h
  have hPc := hP.sub (ws' := (wd37 cyI cyJ cyZ)) [] rfl
  have hDc := hD.sub (ws' := (wd37 cyI cyJ cyZ)) [] (by decide) rfl
  refine cal_i [] [0, 1, 2, 3, 4, 5, 6, 7] (va_runS (As := [.int v1, .int (0 : Int32), .int (3 : Int32)]) (rest := []) ⟨hx, hb, hml, hown, hts⟩ (c_X11_within l dC dI cyI cyJ cyZ N r1z H.size  v1 (0 : Int32) (3 : Int32)  hr1z) (va_cwS 3 hts gX11_sum_X11_within rfl rfl rfl hd_X11_within ⟨Nat.le_of_ble_eq_true rfl, Nat.le_of_ble_eq_true rfl⟩) ⟨pC.blind, pC.pre hPc hG hDc⟩ rfl rfl hl.1 rfl (lv_room (Nat.le_of_ble_eq_true rfl)) dX11_sum_3 ⟨b2z.1, b2z.2⟩) hP hD hS hA rfl rfl rfl (by decide) (fun x4z u3z H locs hw hP hD hS => ?_)
  obtain rfl := hw.symm
  have hP : va_P (dC, dI) vwCl (wd43 cyI cyJ cyZ q_G q_Sc q_Pr q_Sp q_row q_list q_prime q_times q_Ch q_Tb q_Sk q_Wh q_Mk q_Tr q_Ws q_parts sp_unlike sp_number sp_partsKept sp_partsNumber n_row a_row n_list a_list a_prime a_times) H := hP.sub [0, 1, 2, 3, 4, 5, 6, 7] rfl
  have hD : va_D A (wd43 cyI cyJ cyZ q_G q_Sc q_Pr q_Sp q_row q_list q_prime q_times q_Ch q_Tb q_Sk q_Wh q_Mk q_Tr q_Ws q_parts sp_unlike sp_number sp_partsKept sp_partsNumber n_row a_row n_list a_list a_prime a_times) := hD.sub [0, 1, 2, 3, 4, 5, 6, 7] (by decide) rfl
  refine lv_if_eq (tgt := 16) hx hb dX11_sum_6 (by decide) (fun c5z => ?_) (fun c5z => ?_)
  · have h := xt h c5z
    refine lv_ldc2 (v := (-1 : Int64)) hx hb hown (hts (.constantLong RX11 99 (-1)) (List.mem_of_getElem? (i := 1) rfl)) dX11_sum_16 ?_
    obtain ⟨b6z, h⟩ := xa h
    refine W.widen (k := MC) (n := MS) b6z.1 b6z.2 ?_
    obtain rfl := Option.some.inj h
    exact W.lret (v := (-1 : Int64)) hx hb hr (fun t ht hW => ⟨⟨_, (q_row, q_list), rfl, rfl, by rw [ht]; exact hP, hD⟩, hS.F ht⟩) hS.2.2 dX11_sum_19 hlocks
  · have h := xf h c5z
    refine lv_lload_n hx hb dX11_sum_9 rfl (lv_at hl 2 rfl) ?_
    obtain ⟨b8z, h⟩ := xa h
    obtain ⟨r7z, hr7z, h⟩ := xb_at h
    have hPc := hP.sub (ws' := (wd37 cyI cyJ cyZ)) [] rfl
    have hDc := hD.sub (ws' := (wd37 cyI cyJ cyZ)) [] (by decide) rfl
    refine cal_i [] [0, 1, 2, 3, 4, 5, 6, 7] (va_runS (As := [.long v2]) (rest := []) ⟨hx, hb, hml, hown, hts⟩ (c_X11_isNumber l dC dI cyI cyJ cyZ N r7z H.size  v2  hr7z) (va_cwS 1 hts gX11_sum_X11_isNumber rfl rfl rfl hd_X11_isNumber ⟨Nat.le_of_ble_eq_true rfl, Nat.le_of_ble_eq_true rfl⟩) ⟨pC.blind, pC.pre hPc hG hDc⟩ rfl rfl hl.1 rfl (lv_room (Nat.le_of_ble_eq_true rfl)) dX11_sum_10 ⟨b8z.1, b8z.2⟩) hP hD hS hA rfl rfl rfl (by decide) (fun x10z u9z H locs hw hP hD hS => ?_)
    obtain rfl := hw.symm
    have hP : va_P (dC, dI) vwCl (wd43 cyI cyJ cyZ q_G q_Sc q_Pr q_Sp q_row q_list q_prime q_times q_Ch q_Tb q_Sk q_Wh q_Mk q_Tr q_Ws q_parts sp_unlike sp_number sp_partsKept sp_partsNumber n_row a_row n_list a_list a_prime a_times) H := hP.sub [0, 1, 2, 3, 4, 5, 6, 7] rfl
    have hD : va_D A (wd43 cyI cyJ cyZ q_G q_Sc q_Pr q_Sp q_row q_list q_prime q_times q_Ch q_Tb q_Sk q_Wh q_Mk q_Tr q_Ws q_parts sp_unlike sp_number sp_partsKept sp_partsNumber n_row a_row n_list a_list a_prime a_times) := hD.sub [0, 1, 2, 3, 4, 5, 6, 7] (by decide) rfl
    refine lv_if_ne (tgt := 20) hx hb dX11_sum_13 (by decide) (fun c11z => ?_) (fun c11z => ?_)
    · have h := xf h c11z
      refine lv_aload_n hx hb dX11_sum_20 rfl (lv_at hl 0 rfl) ?_
      refine va_get (D := (dC, dI)) (ci := 11) (v := .ref q_Pr) (C := RX11) (T := TX11) (N := 9) hx hb hts iw_X11_sum_X11 hown hK hP 0 rfl rfl 0 (by decide) (hts (.fieldLink RX11 15 "GoesInto" "primes" "LGoesInto$Primes;") (List.mem_of_getElem? (i := 2) rfl)) (fun _ h9 => h9) rfl dX11_sum_21 ?_
      obtain ⟨b13z, h⟩ := xa h
      obtain ⟨r12z, hr12z, h⟩ := xb_at h
      have hPc := hP.sub (ws' := (wd11 cyI cyJ cyZ q_Sc q_Pr q_row q_list n_row a_row n_list a_list)) [1, 2, 4, 5] rfl
      have hDc := hD.sub (ws' := (wd11 cyI cyJ cyZ q_Sc q_Pr q_row q_list n_row a_row n_list a_list)) [1, 2, 4, 5] (by decide) rfl
      refine cal_v [1, 2, 4, 5] [0, 3, 6, 7] (va_runV (As := []) (rest := []) ⟨hx, hb, hml, hown, hts⟩ (c_X3_prepare l dC dI cyI cyJ cyZ N (if 0 < nI n_list then 0 else 1 + (if nI n_row = 0 then 1 else 0)) (if 0 < nI n_list then 0 else 9592 + (if nI n_row = 0 then 50001 else 0)) r12z H.size q_Sc q_Pr q_row q_list  n_row a_row n_list a_list hr12z) (cwV 0 hts gX11_sum_X3_prepare rfl rfl rfl ⟨rfl, hd_X3_prepare⟩ ⟨Nat.le_of_ble_eq_true rfl, Nat.le_of_ble_eq_true rfl⟩) ⟨pC.blind, va_recv hK hPc (ci := 3) (q0 := 1) rfl rfl, pC.pre hPc hG hDc⟩ rfl rfl hl.1 rfl (lv_room (Nat.le_of_ble_eq_true rfl)) dX11_sum_24 ⟨b13z.1, b13z.2⟩) hP hD hS hA rfl rfl rfl (by decide) (fun u14z H locs _ hP hD hS => ?_)
      have hP : va_P (dC, dI) vwCl (wd43 cyI cyJ cyZ q_G q_Sc q_Pr q_Sp u14z.1 u14z.2 q_prime q_times q_Ch q_Tb q_Sk q_Wh q_Mk q_Tr q_Ws q_parts sp_unlike sp_number sp_partsKept sp_partsNumber r12z.1 r12z.2.1 r12z.2.2.1 r12z.2.2.2 a_prime a_times) H := hP.sub [0, 4, 5, 1, 6, 7, 2, 3] rfl
      have hD : va_D A (wd43 cyI cyJ cyZ q_G q_Sc q_Pr q_Sp u14z.1 u14z.2 q_prime q_times q_Ch q_Tb q_Sk q_Wh q_Mk q_Tr q_Ws q_parts sp_unlike sp_number sp_partsKept sp_partsNumber r12z.1 r12z.2.1 r12z.2.2.1 r12z.2.2.2 a_prime a_times) := hD.sub [0, 4, 5, 1, 6, 7, 2, 3] (by decide) rfl
      refine lv_aload_n hx hb dX11_sum_27 rfl (lv_at hl 0 rfl) ?_
      refine va_get (D := (dC, dI)) (ci := 11) (v := .ref q_Sp) (C := RX11) (T := TX11) (N := 9) hx hb hts iw_X11_sum_X11 hown hK hP 0 rfl rfl 1 (by decide) (hts (.fieldLink RX11 26 "GoesInto" "split" "LGoesInto$Split;") (List.mem_of_getElem? (i := 3) rfl)) (fun _ h9 => h9) rfl dX11_sum_28 ?_
      refine lv_iload_n hx hb dX11_sum_31 rfl (lv_at hl 1 rfl) ?_
      refine lv_lload_n hx hb dX11_sum_32 rfl (lv_at hl 2 rfl) ?_
      obtain ⟨b17z, h⟩ := xa h
      obtain ⟨r16z, hr16z, h⟩ := xb_at h
      have hPc := hP.sub (ws' := (wd1 cyI cyJ cyZ q_Pr q_Sp u14z.2 q_prime q_times q_Sc q_parts sp_unlike sp_number sp_partsKept sp_partsNumber r12z.2.2.1 r12z.2.2.2 a_prime a_times)) [2, 3, 5, 6, 7] rfl
      have hDc := hD.sub (ws' := (wd1 cyI cyJ cyZ q_Pr q_Sp u14z.2 q_prime q_times q_Sc q_parts sp_unlike sp_number sp_partsKept sp_partsNumber r12z.2.2.1 r12z.2.2.2 a_prime a_times)) [2, 3, 5, 6, 7] (by decide) rfl
      refine cal_l [2, 3, 5, 6, 7] [0, 1, 4] (va_runV (As := [.int v1, .long v2]) (rest := []) ⟨hx, hb, hml, hown, hts⟩ (c_X6_summed l dC dI cyI cyJ cyZ N r16z H.size q_Pr q_Sp u14z.2 q_prime q_times q_Sc q_parts v1 v2 sp_unlike sp_number sp_partsKept sp_partsNumber r12z.2.2.1 r12z.2.2.2 a_prime a_times hr16z) (cwV 2 hts gX11_sum_X6_summed rfl rfl rfl ⟨rfl, hd_X6_summed⟩ ⟨Nat.le_of_ble_eq_true rfl, Nat.le_of_ble_eq_true rfl⟩) ⟨pC.blind, va_recv hK hPc (ci := 6) (q0 := 1) rfl rfl, pC.pre hPc hG hDc⟩ rfl rfl hl.1 rfl (lv_room (Nat.le_of_ble_eq_true rfl)) dX11_sum_33 ⟨b17z.1, b17z.2⟩) hP hD hS hA rfl rfl rfl (by decide) (fun x19z u18z H locs hw hP hD hS => ?_)
      obtain rfl := hw.symm
      have hP : va_P (dC, dI) vwCl (wd43 cyI cyJ cyZ q_G q_Sc q_Pr q_Sp u14z.1 u14z.2 q_prime q_times q_Ch q_Tb q_Sk q_Wh q_Mk q_Tr q_Ws q_parts r16z.2.1 r16z.2.2.1 sp_partsKept sp_partsNumber r12z.1 r12z.2.1 r12z.2.2.1 r12z.2.2.2 r16z.2.2.2.1 r16z.2.2.2.2) H := hP.sub [0, 1, 3, 4, 2, 5, 6, 7] rfl
      have hD : va_D A (wd43 cyI cyJ cyZ q_G q_Sc q_Pr q_Sp u14z.1 u14z.2 q_prime q_times q_Ch q_Tb q_Sk q_Wh q_Mk q_Tr q_Ws q_parts r16z.2.1 r16z.2.2.1 sp_partsKept sp_partsNumber r12z.1 r12z.2.1 r12z.2.2.1 r12z.2.2.2 r16z.2.2.2.1 r16z.2.2.2.2) := hD.sub [0, 1, 3, 4, 2, 5, 6, 7] (by decide) rfl
      obtain ⟨b20z, h⟩ := xa h
      refine W.widen (k := MC) (n := MS) b20z.1 b20z.2 ?_
      obtain rfl := Option.some.inj h
      exact W.lret (v := r16z.1) hx hb hr (fun t ht hW => ⟨⟨_, (u14z.1, u14z.2), rfl, rfl, by rw [ht]; exact hP, hD⟩, hS.F ht⟩) hS.2.2 dX11_sum_36 hlocks
    · have h := xt h c11z
      refine lv_ldc2 (v := (-1 : Int64)) hx hb hown (hts (.constantLong RX11 99 (-1)) (List.mem_of_getElem? (i := 1) rfl)) dX11_sum_16 ?_
      obtain ⟨b21z, h⟩ := xa h
      refine W.widen (k := MC) (n := MS) b21z.1 b21z.2 ?_
      obtain rfl := Option.some.inj h
      exact W.lret (v := (-1 : Int64)) hx hb hr (fun t ht hW => ⟨⟨_, (q_row, q_list), rfl, rfl, by rw [ht]; exact hP, hD⟩, hS.F ht⟩) hS.2.2 dX11_sum_19 hlocks
set_option maxRecDepth 100000 in
set_option maxHeartbeats 4000000 in
theorem c_X11_sum (l : Launch) (dC : Nat → ClassId) (dI : Nat → Nat → Nat) (cyI cyJ cyZ : ClassId) (N : Nat) (MC MS : Nat) (res : Int64 × Int32 × Int64 × Nat × (Nat → Int32) × Nat × (Nat → Int32) × (Nat → Int64) × (Nat → Int32)) (sz : Nat) (q_G : Nat) (q_Sc : Nat) (q_Pr : Nat) (q_Sp : Nat) (q_row : Nat) (q_list : Nat) (q_prime : Nat) (q_times : Nat) (q_Ch : Nat) (q_Tb : Nat) (q_Sk : Nat) (q_Wh : Nat) (q_Mk : Nat) (q_Tr : Nat) (q_Ws : Nat) (q_parts : Nat) (v1 : Int32) (v2 : Int64) (sp_unlike : Int32) (sp_number : Int64) (sp_partsKept : Int32) (sp_partsNumber : Int64) (n_row : Nat) (a_row : Nat → Int32) (n_list : Nat) (a_list : Nat → Int32) (a_prime : Nat → Int64) (a_times : Nat → Int32) (h : f_X11_sum N MC MS v1 v2 sp_unlike sp_number n_row a_row n_list a_list a_prime a_times = some res) : Met l yX11_sum wsX11_sum (rm_X11_sum MC MS) (pC dC dI cyI cyJ cyZ [.ref q_G, .int v1, .long v2] sz (wd43 cyI cyJ cyZ q_G q_Sc q_Pr q_Sp q_row q_list q_prime q_times q_Ch q_Tb q_Sk q_Wh q_Mk q_Tr q_Ws q_parts sp_unlike sp_number sp_partsKept sp_partsNumber n_row a_row n_list a_list a_prime a_times)) (va_Ql (fun (r : Int64) (_ : Nat × Nat) => r = res.1) (bW dC dI (fun (u : Nat × Nat) => (wd43 cyI cyJ cyZ q_G q_Sc q_Pr q_Sp u.1 u.2 q_prime q_times q_Ch q_Tb q_Sk q_Wh q_Mk q_Tr q_Ws q_parts res.2.1 res.2.2.1 sp_partsKept sp_partsNumber res.2.2.2.1 res.2.2.2.2.1 res.2.2.2.2.2.1 res.2.2.2.2.2.2.1 res.2.2.2.2.2.2.2.1 res.2.2.2.2.2.2.2.2)) (va_A (wd43 cyI cyJ cyZ q_G q_Sc q_Pr q_Sp q_row q_list q_prime q_times q_Ch q_Tb q_Sk q_Wh q_Mk q_Tr q_Ws q_parts sp_unlike sp_number sp_partsKept sp_partsNumber n_row a_row n_list a_list a_prime a_times) sz)) (va_A (wd43 cyI cyJ cyZ q_G q_Sc q_Pr q_Sp q_row q_list q_prime q_times q_Ch q_Tb q_Sk q_Wh q_Mk q_Tr q_Ws q_parts sp_unlike sp_number sp_partsKept sp_partsNumber n_row a_row n_list a_list a_prime a_times) sz)) MC MS (va_A (wd43 cyI cyJ cyZ q_G q_Sc q_Pr q_Sp q_row q_list q_prime q_times q_Ch q_Tb q_Sk q_Wh q_Mk q_Tr q_Ws q_parts sp_unlike sp_number sp_partsKept sp_partsNumber n_row a_row n_list a_list a_prime a_times) sz) := by
  refine Met.ofW (cc := cX11_sum) (maxL := 4) (ret := (some .long)) (by decide) rfl ?_
  intro p e s m args below meth c s₁ B hml hv
  obtain ⟨rfl, hsz, hP, hG, hD0⟩ := hv
  have hx := B.exec
  have hb := B.bytes
  have hr := B.returns
  have hts := atoms_spec (ws := wsX11_sum) B.pre
  have hown : s.vm.findClass RX11 = some m.cls := findClass_of_methodNamed B.named
  have hlocks := B.notSynchronized
  subst hsz
  have hD := hD0.self (sz := s.heap.size)
  generalize hAe : va_A (wd43 cyI cyJ cyZ q_G q_Sc q_Pr q_Sp q_row q_list q_prime q_times q_Ch q_Tb q_Sk q_Wh q_Mk q_Tr q_Ws q_parts sp_unlike sp_number sp_partsKept sp_partsNumber n_row a_row n_list a_list a_prime a_times) s.heap.size = A at hD ⊢
  have hA : ∀ q : Nat, s.heap.size ≤ q → A q := fun q h => by rw [← hAe]; exact Or.inr h
  have hS : va_S A s.heap s.heap [] := va_S.rf
  have hl := lv_entry ([.ref q_G, .int v1, .long v2]) (n := 4) (Nat.le_of_ble_eq_true rfl)
  rw [lg_entry_eq]
  generalize (lg_sl ([.ref q_G, .int v1, .long v2]) ++ List.replicate (4 - (lg_sl ([.ref q_G, .int v1, .long v2])).length) Slot.unset).toArray = ls at hl ⊢
  have hl : lv_has ls 4 [(0, .ref q_G), (1, .int v1), (2, .long v2)] := hl
  exact k_X11_sum_0 ⟨hx, hb, hr, hml, hown, hts, hlocks, hG, hA⟩ N MC MS res q_G q_Sc q_Pr q_Sp q_prime q_times q_Ch q_Tb q_Sk q_Wh q_Mk q_Tr q_Ws q_parts v1 v2 sp_unlike sp_number sp_partsKept sp_partsNumber n_row a_row n_list a_list a_prime a_times q_row q_list h _ _ hP hD hS _ hl
/-- the cells G, Sc, Pr, Sp, row, list, prime, times, parts -/
abbrev wd44 (cyI cyJ cyZ : ClassId) (q_G : Nat) (q_Sc : Nat) (q_Pr : Nat) (q_Sp : Nat) (q_row : Nat) (q_list : Nat) (q_prime : Nat) (q_times : Nat) (q_parts : Nat) (q_Ch : Nat) (q_Tb : Nat) (q_Sk : Nat) (q_Wh : Nat) (q_Mk : Nat) (q_Tr : Nat) (q_Ws : Nat) (sp_unlike : Int32) (sp_number : Int64) (sp_partsKept : Int32) (sp_partsNumber : Int64) (n_row : Nat) (a_row : Nat → Int32) (n_list : Nat) (a_list : Nat → Int32) (a_prime : Nat → Int64) (a_times : Nat → Int32) (a_parts : Nat → Int64) : va_W := [(q_G, .inr (11, [.ref q_Pr, .ref q_Sp, .ref q_Ch, .ref q_Tb, .ref q_Sk, .ref q_Wh, .ref q_Mk, .ref q_Tr, .ref q_Ws])), (q_Sc, .inr (4, [.ref q_row])), (q_Pr, .inr (3, [.ref q_Sc, .ref q_list])), (q_Sp, .inr (6, [.ref q_Pr, .ref q_prime, .ref q_times, .int sp_unlike, .long sp_number, .ref q_parts, .int sp_partsKept, .long sp_partsNumber])), (q_row, .inl (cyI, n_row, .inl a_row)), (q_list, .inl (cyI, n_list, .inl a_list)), (q_prime, .inl (cyJ, 12, .inr (.inl a_prime))), (q_times, .inl (cyI, 12, .inl a_times)), (q_parts, .inl (cyJ, 2304, .inr (.inl a_parts)))]
abbrev rm_X11_part (MC MS : Nat) : Room := { frames := 3, cells := MC, slots := MS, locals := 72 }
theorem hd_X11_part : yX11_part.cls ≠ "java/lang/invoke/MethodHandle" ∧ yX11_part.cls ≠ "java/lang/invoke/VarHandle" ∧ (parseMethodDescriptor yX11_part.desc).map (fun d => d.parameters.length) = some 2 := by decide +kernel
theorem iw_X11_part_X11 : ∀ w ∈ wsX110, w ∈ wsX11_part := List.forall_mem_cons.mpr ⟨List.mem_of_getElem? (i := 73) rfl, List.forall_mem_cons.mpr ⟨List.mem_of_getElem? (i := 74) rfl, List.forall_mem_cons.mpr ⟨List.mem_of_getElem? (i := 75) rfl, List.forall_mem_cons.mpr ⟨List.mem_of_getElem? (i := 76) rfl, List.forall_mem_cons.mpr ⟨List.mem_of_getElem? (i := 77) rfl, List.forall_mem_cons.mpr ⟨List.mem_of_getElem? (i := 78) rfl, List.forall_mem_cons.mpr ⟨List.mem_of_getElem? (i := 79) rfl, List.forall_mem_cons.mpr ⟨List.mem_of_getElem? (i := 80) rfl, List.forall_mem_cons.mpr ⟨List.mem_of_getElem? (i := 81) rfl, fun _ h => absurd h List.not_mem_nil⟩⟩⟩⟩⟩⟩⟩⟩⟩
theorem iw_X11_part_X4 : ∀ w ∈ wsX40, w ∈ wsX11_part := List.forall_mem_cons.mpr ⟨List.mem_of_getElem? (i := 84) rfl, fun _ h => absurd h List.not_mem_nil⟩
theorem iw_X11_part_X3 : ∀ w ∈ wsX30, w ∈ wsX11_part := List.forall_mem_cons.mpr ⟨List.mem_of_getElem? (i := 82) rfl, List.forall_mem_cons.mpr ⟨List.mem_of_getElem? (i := 83) rfl, fun _ h => absurd h List.not_mem_nil⟩⟩
theorem iw_X11_part_X6 : ∀ w ∈ wsX60, w ∈ wsX11_part := List.forall_mem_cons.mpr ⟨List.mem_of_getElem? (i := 85) rfl, List.forall_mem_cons.mpr ⟨List.mem_of_getElem? (i := 86) rfl, List.forall_mem_cons.mpr ⟨List.mem_of_getElem? (i := 87) rfl, List.forall_mem_cons.mpr ⟨List.mem_of_getElem? (i := 88) rfl, List.forall_mem_cons.mpr ⟨List.mem_of_getElem? (i := 89) rfl, List.forall_mem_cons.mpr ⟨List.mem_of_getElem? (i := 90) rfl, List.forall_mem_cons.mpr ⟨List.mem_of_getElem? (i := 91) rfl, List.forall_mem_cons.mpr ⟨List.mem_of_getElem? (i := 92) rfl, fun _ h => absurd h List.not_mem_nil⟩⟩⟩⟩⟩⟩⟩⟩
def f_X11_part (N : Nat) (MC : Nat) (MS : Nat) (v1 : Int64) (v3 : Int32) (sp_unlike : Int32) (sp_number : Int64) (sp_partsKept : Int32) (sp_partsNumber : Int64) (n_row : Nat) (a_row : Nat → Int32) (n_list : Nat) (a_list : Nat → Int32) (a_prime : Nat → Int64) (a_times : Nat → Int32) (a_parts : Nat → Int64) : Option (Int64 × Int32 × Int64 × Int32 × Int64 × Nat × (Nat → Int32) × Nat × (Nat → Int32) × (Nat → Int64) × (Nat → Int32) × (Nat → Int64)) :=
  if 0 ≤ MC ∧ 0 ≤ MS then
    Option.bind (f_X11_isNumber N v1) fun r1z =>
    if r1z = 0 then
      if 0 ≤ MC ∧ 0 ≤ MS then
        some ((-1 : Int64), sp_unlike, sp_number, sp_partsKept, sp_partsNumber, n_row, a_row, n_list, a_list, a_prime, a_times, a_parts)
      else
        none
    else
      if (-1 : Int32) ≤ v3 then
        if 0 + (if 0 < nI n_list then 0 else 1 + (if nI n_row = 0 then 1 else 0)) ≤ MC ∧ 0 + (if 0 < nI n_list then 0 else 9592 + (if nI n_row = 0 then 50001 else 0)) ≤ MS then
          Option.bind (f_X3_prepare N (if 0 < nI n_list then 0 else 1 + (if nI n_row = 0 then 1 else 0)) (if 0 < nI n_list then 0 else 9592 + (if nI n_row = 0 then 50001 else 0))  n_row a_row n_list a_list) fun r8z =>
          if 0 + (if 0 < nI n_list then 0 else 1 + (if nI n_row = 0 then 1 else 0)) ≤ MC ∧ 0 + (if 0 < nI n_list then 0 else 9592 + (if nI n_row = 0 then 50001 else 0)) ≤ MS then
            Option.bind (f_X6_splitUp N v1 sp_unlike sp_number r8z.2.2.1 r8z.2.2.2 a_prime a_times) fun r12z =>
            if v3 = (-1 : Int32) then
              if 0 + (if 0 < nI n_list then 0 else 1 + (if nI n_row = 0 then 1 else 0)) ≤ MC ∧ 0 + (if 0 < nI n_list then 0 else 9592 + (if nI n_row = 0 then 50001 else 0)) ≤ MS then
                Option.bind (f_X6_howManyParts N  r12z.1 r12z.2.2.2) fun r22z =>
                if 0 + (if 0 < nI n_list then 0 else 1 + (if nI n_row = 0 then 1 else 0)) ≤ MC ∧ 0 + (if 0 < nI n_list then 0 else 9592 + (if nI n_row = 0 then 50001 else 0)) ≤ MS then
                  some (r22z.toInt64, r12z.1, r12z.2.1, sp_partsKept, sp_partsNumber, r8z.1, r8z.2.1, r8z.2.2.1, r8z.2.2.2, r12z.2.2.1, r12z.2.2.2, a_parts)
                else
                  none
              else
                none
            else
              if 0 + (if 0 < nI n_list then 0 else 1 + (if nI n_row = 0 then 1 else 0)) ≤ MC ∧ 0 + (if 0 < nI n_list then 0 else 9592 + (if nI n_row = 0 then 50001 else 0)) ≤ MS then
                Option.bind (f_X6_partAt N v3 r12z.1 r12z.2.1 sp_partsKept sp_partsNumber r12z.2.2.1 r12z.2.2.2 a_parts) fun r17z =>
                if 0 + (if 0 < nI n_list then 0 else 1 + (if nI n_row = 0 then 1 else 0)) ≤ MC ∧ 0 + (if 0 < nI n_list then 0 else 9592 + (if nI n_row = 0 then 50001 else 0)) ≤ MS then
                  some (r17z.1, r12z.1, r12z.2.1, r17z.2.1, r17z.2.2.1, r8z.1, r8z.2.1, r8z.2.2.1, r8z.2.2.2, r12z.2.2.1, r12z.2.2.2, r17z.2.2.2)
                else
                  none
              else
                none
          else
            none
        else
          none
      else
        if 0 ≤ MC ∧ 0 ≤ MS then
          some ((-1 : Int64), sp_unlike, sp_number, sp_partsKept, sp_partsNumber, n_row, a_row, n_list, a_list, a_prime, a_times, a_parts)
        else
          none
  else
    none
set_option maxRecDepth 100000 in
set_option maxHeartbeats 4000000 in
theorem k_X11_part_0 {p : Program} {l : Launch} {e : Env} {s : State} {m : MethodId} {args : Array Value} {below : List Frame} {meth : Method} {c : Code} {dC : Nat → ClassId} {dI : Nat → Nat → Nat} {cyI cyJ cyZ : ClassId} {A : Nat → Prop} (C0 : mC p s m meth c args cX11_part (some .long) 4 RX11 wsX11_part (gK dC dI cyI cyJ cyZ) A) (N : Nat) (MC MS : Nat) (res : Int64 × Int32 × Int64 × Int32 × Int64 × Nat × (Nat → Int32) × Nat × (Nat → Int32) × (Nat → Int64) × (Nat → Int32) × (Nat → Int64)) (q_G : Nat) (q_Sc : Nat) (q_Pr : Nat) (q_Sp : Nat) (q_prime : Nat) (q_times : Nat) (q_parts : Nat) (q_Ch : Nat) (q_Tb : Nat) (q_Sk : Nat) (q_Wh : Nat) (q_Mk : Nat) (q_Tr : Nat) (q_Ws : Nat) (v1 : Int64) (v3 : Int32) (sp_unlike : Int32) (sp_number : Int64) (sp_partsKept : Int32) (sp_partsNumber : Int64) (n_row : Nat) (a_row : Nat → Int32) (n_list : Nat) (a_list : Nat → Int32) (a_prime : Nat → Int64) (a_times : Nat → Int32) (a_parts : Nat → Int64) (q_row : Nat) (q_list : Nat) (h : f_X11_part N MC MS v1 v3 sp_unlike sp_number sp_partsKept sp_partsNumber n_row a_row n_list a_list a_prime a_times a_parts = some res) : ∀ (H : Heap) (locs : List Loc), va_P (dC, dI) vwCl (wd44 cyI cyJ cyZ q_G q_Sc q_Pr q_Sp q_row q_list q_prime q_times q_parts q_Ch q_Tb q_Sk q_Wh q_Mk q_Tr q_Ws sp_unlike sp_number sp_partsKept sp_partsNumber n_row a_row n_list a_list a_prime a_times a_parts) H → va_D A (wd44 cyI cyJ cyZ q_G q_Sc q_Pr q_Sp q_row q_list q_prime q_times q_parts q_Ch q_Tb q_Sk q_Wh q_Mk q_Tr q_Ws sp_unlike sp_number sp_partsKept sp_partsNumber n_row a_row n_list a_list a_prime a_times a_parts) → va_S A s.heap H locs → ∀ (ls : Array Slot), lv_has ls 4 [(0, .ref q_G), (1, .long v1), (3, .int v3)] → W p l e (headSpec wsX11_part (rm_X11_part MC MS)).room s m args below meth c H locs 0 0 (MQ below (va_Ql (fun (r : Int64) (_ : Nat × Nat) => r = res.1) (bW dC dI (fun (u : Nat × Nat) => (wd44 cyI cyJ cyZ q_G q_Sc q_Pr q_Sp u.1 u.2 q_prime q_times q_parts q_Ch q_Tb q_Sk q_Wh q_Mk q_Tr q_Ws res.2.1 res.2.2.1 res.2.2.2.1 res.2.2.2.2.1 res.2.2.2.2.2.1 res.2.2.2.2.2.2.1 res.2.2.2.2.2.2.2.1 res.2.2.2.2.2.2.2.2.1 res.2.2.2.2.2.2.2.2.2.1 res.2.2.2.2.2.2.2.2.2.2.1 res.2.2.2.2.2.2.2.2.2.2.2)) A) A) args s MC MS A) (F0 m 0 ls []) := by
  obtain ⟨hx, hb, hr, hml, hown, hts, hlocks, hG, hA⟩ := id C0
  have hK := hG.1
  intro H locs hP hD hS ls hl
  unfold f_X11_part at h
  refine lv_lload_n hx hb dX11_part_0 rfl (lv_at hl 1 rfl) ?_
  obtain ⟨b2z, h⟩ := xa h
  obtain ⟨r1z, hr1z, h⟩ := xb_at h
  have hPc := hP.sub (ws' := (wd37 cyI cyJ cyZ)) [] rfl
  have hDc := hD.sub (ws' := (wd37 cyI cyJ cyZ)) [] (by decide) rfl
  refine cal_i [] [0, 1, 2, 3, 4, 5, 6, 7, 8] (va_runS (As := [.long v1]) (rest := []) ⟨hx, hb, hml, hown, hts⟩ (c_X11_isNumber l dC dI cyI cyJ cyZ N r1z H.size  v1  hr1z) (va_cwS 1 hts gX11_part_X11_isNumber rfl rfl rfl hd_X11_isNumber ⟨Nat.le_of_ble_eq_true rfl, Nat.le_of_ble_eq_true rfl⟩) ⟨pC.blind, pC.pre hPc hG hDc⟩ rfl rfl hl.1 rfl (lv_room (Nat.le_of_ble_eq_true rfl)) dX11_part_1 ⟨b2z.1, b2z.2⟩) hP hD hS hA rfl rfl rfl (by decide) (fun x4z u3z H locs hw hP hD hS => ?_)
  obtain rfl := hw.symm
  have hP : va_P (dC, dI) vwCl (wd44 cyI cyJ cyZ q_G q_Sc q_Pr q_Sp q_row q_list q_prime q_times q_parts q_Ch q_Tb q_Sk q_Wh q_Mk q_Tr q_Ws sp_unlike sp_number sp_partsKept sp_partsNumber n_row a_row n_list a_list a_prime a_times a_parts) H := hP.sub [0, 1, 2, 3, 4, 5, 6, 7, 8] rfl
  have hD : va_D A (wd44 cyI cyJ cyZ q_G q_Sc q_Pr q_Sp q_row q_list q_prime q_times q_parts q_Ch q_Tb q_Sk q_Wh q_Mk q_Tr q_Ws sp_unlike sp_number sp_partsKept sp_partsNumber n_row a_row n_list a_list a_prime a_times a_parts) := hD.sub [0, 1, 2, 3, 4, 5, 6, 7, 8] (by decide) rfl
  refine lv_if_eq (tgt := 12) hx hb dX11_part_4 (by decide) (fun c5z => ?_) (fun c5z => ?_)
  · have h := xt h c5z
    refine lv_ldc2 (v := (-1 : Int64)) hx hb hown (hts (.constantLong RX11 99 (-1)) (List.mem_of_getElem? (i := 1) rfl)) dX11_part_12 ?_
    obtain ⟨b6z, h⟩ := xa h
    refine W.widen (k := MC) (n := MS) b6z.1 b6z.2 ?_
    obtain rfl := Option.some.inj h
    exact W.lret (v := (-1 : Int64)) hx hb hr (fun t ht hW => ⟨⟨_, (q_row, q_list), rfl, rfl, by rw [ht]; exact hP, hD⟩, hS.F ht⟩) hS.2.2 dX11_part_15 hlocks
  · have h := xf h c5z
    refine lv_iload_n hx hb dX11_part_7 rfl (lv_at hl 2 rfl) ?_
    refine lv_iconst (v := (-1 : Int32)) hx hb dX11_part_8 (by decide) ?_
    refine lv_icmp_ge (tgt := 16) hx hb dX11_part_9 (by decide) (fun c7z => ?_) (fun c7z => ?_)
    · have h := xt h c7z
      refine lv_aload_n hx hb dX11_part_16 rfl (lv_at hl 0 rfl) ?_
      refine va_get (D := (dC, dI)) (ci := 11) (v := .ref q_Pr) (C := RX11) (T := TX11) (N := 9) hx hb hts iw_X11_part_X11 hown hK hP 0 rfl rfl 0 (by decide) (hts (.fieldLink RX11 15 "GoesInto" "primes" "LGoesInto$Primes;") (List.mem_of_getElem? (i := 2) rfl)) (fun _ h9 => h9) rfl dX11_part_17 ?_
      obtain ⟨b9z, h⟩ := xa h
      obtain ⟨r8z, hr8z, h⟩ := xb_at h
      have hPc := hP.sub (ws' := (wd11 cyI cyJ cyZ q_Sc q_Pr q_row q_list n_row a_row n_list a_list)) [1, 2, 4, 5] rfl
      have hDc := hD.sub (ws' := (wd11 cyI cyJ cyZ q_Sc q_Pr q_row q_list n_row a_row n_list a_list)) [1, 2, 4, 5] (by decide) rfl
      refine cal_v [1, 2, 4, 5] [0, 3, 6, 7, 8] (va_runV (As := []) (rest := []) ⟨hx, hb, hml, hown, hts⟩ (c_X3_prepare l dC dI cyI cyJ cyZ N (if 0 < nI n_list then 0 else 1 + (if nI n_row = 0 then 1 else 0)) (if 0 < nI n_list then 0 else 9592 + (if nI n_row = 0 then 50001 else 0)) r8z H.size q_Sc q_Pr q_row q_list  n_row a_row n_list a_list hr8z) (cwV 0 hts gX11_part_X3_prepare rfl rfl rfl ⟨rfl, hd_X3_prepare⟩ ⟨Nat.le_of_ble_eq_true rfl, Nat.le_of_ble_eq_true rfl⟩) ⟨pC.blind, va_recv hK hPc (ci := 3) (q0 := 1) rfl rfl, pC.pre hPc hG hDc⟩ rfl rfl hl.1 rfl (lv_room (Nat.le_of_ble_eq_true rfl)) dX11_part_20 ⟨b9z.1, b9z.2⟩) hP hD hS hA rfl rfl rfl (by decide) (fun u10z H locs _ hP hD hS => ?_)
      have hP : va_P (dC, dI) vwCl (wd44 cyI cyJ cyZ q_G q_Sc q_Pr q_Sp u10z.1 u10z.2 q_prime q_times q_parts q_Ch q_Tb q_Sk q_Wh q_Mk q_Tr q_Ws sp_unlike sp_number sp_partsKept sp_partsNumber r8z.1 r8z.2.1 r8z.2.2.1 r8z.2.2.2 a_prime a_times a_parts) H := hP.sub [0, 5, 6, 1, 7, 8, 2, 3, 4] rfl
      have hD : va_D A (wd44 cyI cyJ cyZ q_G q_Sc q_Pr q_Sp u10z.1 u10z.2 q_prime q_times q_parts q_Ch q_Tb q_Sk q_Wh q_Mk q_Tr q_Ws sp_unlike sp_number sp_partsKept sp_partsNumber r8z.1 r8z.2.1 r8z.2.2.1 r8z.2.2.2 a_prime a_times a_parts) := hD.sub [0, 5, 6, 1, 7, 8, 2, 3, 4] (by decide) rfl
      refine lv_aload_n hx hb dX11_part_23 rfl (lv_at hl 0 rfl) ?_
      refine va_get (D := (dC, dI)) (ci := 11) (v := .ref q_Sp) (C := RX11) (T := TX11) (N := 9) hx hb hts iw_X11_part_X11 hown hK hP 0 rfl rfl 1 (by decide) (hts (.fieldLink RX11 26 "GoesInto" "split" "LGoesInto$Split;") (List.mem_of_getElem? (i := 3) rfl)) (fun _ h9 => h9) rfl dX11_part_24 ?_
      refine lv_lload_n hx hb dX11_part_27 rfl (lv_at hl 1 rfl) ?_
      obtain ⟨b13z, h⟩ := xa h
      obtain ⟨r12z, hr12z, h⟩ := xb_at h
      have hPc := hP.sub (ws' := (wd1 cyI cyJ cyZ q_Pr q_Sp u10z.2 q_prime q_times q_Sc q_parts sp_unlike sp_number sp_partsKept sp_partsNumber r8z.2.2.1 r8z.2.2.2 a_prime a_times)) [2, 3, 5, 6, 7] rfl
      have hDc := hD.sub (ws' := (wd1 cyI cyJ cyZ q_Pr q_Sp u10z.2 q_prime q_times q_Sc q_parts sp_unlike sp_number sp_partsKept sp_partsNumber r8z.2.2.1 r8z.2.2.2 a_prime a_times)) [2, 3, 5, 6, 7] (by decide) rfl
      refine cal_v [2, 3, 5, 6, 7] [0, 1, 4, 8] (va_runV (As := [.long v1]) (rest := []) ⟨hx, hb, hml, hown, hts⟩ (c_X6_splitUp l dC dI cyI cyJ cyZ N r12z H.size q_Pr q_Sp u10z.2 q_prime q_times q_Sc q_parts v1 sp_unlike sp_number sp_partsKept sp_partsNumber r8z.2.2.1 r8z.2.2.2 a_prime a_times hr12z) (cwV 1 hts gX11_part_X6_splitUp rfl rfl rfl ⟨rfl, hd_X6_splitUp⟩ ⟨Nat.le_of_ble_eq_true rfl, Nat.le_of_ble_eq_true rfl⟩) ⟨pC.blind, va_recv hK hPc (ci := 6) (q0 := 1) rfl rfl, pC.pre hPc hG hDc⟩ rfl rfl hl.1 rfl (lv_room (Nat.le_of_ble_eq_true rfl)) dX11_part_28 ⟨b13z.1, b13z.2⟩) hP hD hS hA rfl rfl rfl (by decide) (fun u14z H locs _ hP hD hS => ?_)
      have hP : va_P (dC, dI) vwCl (wd44 cyI cyJ cyZ q_G q_Sc q_Pr q_Sp u10z.1 u10z.2 q_prime q_times q_parts q_Ch q_Tb q_Sk q_Wh q_Mk q_Tr q_Ws r12z.1 r12z.2.1 sp_partsKept sp_partsNumber r8z.1 r8z.2.1 r8z.2.2.1 r8z.2.2.2 r12z.2.2.1 r12z.2.2.2 a_parts) H := hP.sub [0, 1, 4, 5, 2, 6, 7, 8, 3] rfl
      have hD : va_D A (wd44 cyI cyJ cyZ q_G q_Sc q_Pr q_Sp u10z.1 u10z.2 q_prime q_times q_parts q_Ch q_Tb q_Sk q_Wh q_Mk q_Tr q_Ws r12z.1 r12z.2.1 sp_partsKept sp_partsNumber r8z.1 r8z.2.1 r8z.2.2.1 r8z.2.2.2 r12z.2.2.1 r12z.2.2.2 a_parts) := hD.sub [0, 1, 4, 5, 2, 6, 7, 8, 3] (by decide) rfl
      refine lv_iload_n hx hb dX11_part_31 rfl (lv_at hl 2 rfl) ?_
      refine lv_iconst (v := (-1 : Int32)) hx hb dX11_part_32 (by decide) ?_
      refine lv_icmp_ne (tgt := 47) hx hb dX11_part_33 (by decide) (fun c16z => ?_) (fun c16z => ?_)
      · have h := xf h c16z
        refine lv_aload_n hx hb dX11_part_47 rfl (lv_at hl 0 rfl) ?_
        refine va_get (D := (dC, dI)) (ci := 11) (v := .ref q_Sp) (C := RX11) (T := TX11) (N := 9) hx hb hts iw_X11_part_X11 hown hK hP 0 rfl rfl 1 (by decide) (hts (.fieldLink RX11 26 "GoesInto" "split" "LGoesInto$Split;") (List.mem_of_getElem? (i := 3) rfl)) (fun _ h9 => h9) rfl dX11_part_48 ?_
        refine lv_iload_n hx hb dX11_part_51 rfl (lv_at hl 2 rfl) ?_
        obtain ⟨b18z, h⟩ := xa h
        obtain ⟨r17z, hr17z, h⟩ := xb_at h
        have hPc := hP.sub (ws' := (wd6 cyI cyJ cyZ q_Sp q_prime q_times q_parts q_Pr r12z.1 r12z.2.1 sp_partsKept sp_partsNumber r12z.2.2.1 r12z.2.2.2 a_parts)) [3, 6, 7, 8] rfl
        have hDc := hD.sub (ws' := (wd6 cyI cyJ cyZ q_Sp q_prime q_times q_parts q_Pr r12z.1 r12z.2.1 sp_partsKept sp_partsNumber r12z.2.2.1 r12z.2.2.2 a_parts)) [3, 6, 7, 8] (by decide) rfl
        refine cal_l [3, 6, 7, 8] [0, 1, 2, 4, 5] (va_runV (As := [.int v3]) (rest := []) ⟨hx, hb, hml, hown, hts⟩ (c_X6_partAt l dC dI cyI cyJ cyZ N r17z H.size q_Sp q_prime q_times q_parts q_Pr v3 r12z.1 r12z.2.1 sp_partsKept sp_partsNumber r12z.2.2.1 r12z.2.2.2 a_parts hr17z) (cwV 1 hts gX11_part_X6_partAt rfl rfl rfl ⟨rfl, hd_X6_partAt⟩ ⟨Nat.le_of_ble_eq_true rfl, Nat.le_of_ble_eq_true rfl⟩) ⟨pC.blind, va_recv hK hPc (ci := 6) (q0 := 0) rfl rfl, pC.pre hPc hG hDc⟩ rfl rfl hl.1 rfl (lv_room (Nat.le_of_ble_eq_true rfl)) dX11_part_52 ⟨b18z.1, b18z.2⟩) hP hD hS hA rfl rfl rfl (by decide) (fun x20z u19z H locs hw hP hD hS => ?_)
        obtain rfl := hw.symm
        have hP : va_P (dC, dI) vwCl (wd44 cyI cyJ cyZ q_G q_Sc q_Pr q_Sp u10z.1 u10z.2 q_prime q_times q_parts q_Ch q_Tb q_Sk q_Wh q_Mk q_Tr q_Ws r12z.1 r12z.2.1 r17z.2.1 r17z.2.2.1 r8z.1 r8z.2.1 r8z.2.2.1 r8z.2.2.2 r12z.2.2.1 r12z.2.2.2 r17z.2.2.2) H := hP.sub [0, 1, 2, 5, 3, 4, 6, 7, 8] rfl
        have hD : va_D A (wd44 cyI cyJ cyZ q_G q_Sc q_Pr q_Sp u10z.1 u10z.2 q_prime q_times q_parts q_Ch q_Tb q_Sk q_Wh q_Mk q_Tr q_Ws r12z.1 r12z.2.1 r17z.2.1 r17z.2.2.1 r8z.1 r8z.2.1 r8z.2.2.1 r8z.2.2.2 r12z.2.2.1 r12z.2.2.2 r17z.2.2.2) := hD.sub [0, 1, 2, 5, 3, 4, 6, 7, 8] (by decide) rfl
        obtain ⟨b21z, h⟩ := xa h
        refine W.widen (k := MC) (n := MS) b21z.1 b21z.2 ?_
        obtain rfl := Option.some.inj h
        exact W.lret (v := r17z.1) hx hb hr (fun t ht hW => ⟨⟨_, (u10z.1, u10z.2), rfl, rfl, by rw [ht]; exact hP, hD⟩, hS.F ht⟩) hS.2.2 dX11_part_55 hlocks
      · have h := xt h c16z
        refine lv_aload_n hx hb dX11_part_36 rfl (lv_at hl 0 rfl) ?_
        refine va_get (D := (dC, dI)) (ci := 11) (v := .ref q_Sp) (C := RX11) (T := TX11) (N := 9) hx hb hts iw_X11_part_X11 hown hK hP 0 rfl rfl 1 (by decide) (hts (.fieldLink RX11 26 "GoesInto" "split" "LGoesInto$Split;") (List.mem_of_getElem? (i := 3) rfl)) (fun _ h9 => h9) rfl dX11_part_37 ?_
        obtain ⟨b23z, h⟩ := xa h
        obtain ⟨r22z, hr22z, h⟩ := xb_at h
        have hPc := hP.sub (ws' := (wd2 cyI cyJ cyZ q_Sp q_times q_Pr q_prime q_parts r12z.1 r12z.2.1 sp_partsKept sp_partsNumber r12z.2.2.2)) [3, 7] rfl
        have hDc := hD.sub (ws' := (wd2 cyI cyJ cyZ q_Sp q_times q_Pr q_prime q_parts r12z.1 r12z.2.1 sp_partsKept sp_partsNumber r12z.2.2.2)) [3, 7] (by decide) rfl
        refine cal_i [3, 7] [0, 1, 2, 4, 5, 6, 8] (va_runV (As := []) (rest := []) ⟨hx, hb, hml, hown, hts⟩ (c_X6_howManyParts l dC dI cyI cyJ cyZ N r22z H.size q_Sp q_times q_Pr q_prime q_parts  r12z.1 r12z.2.1 sp_partsKept sp_partsNumber r12z.2.2.2 hr22z) (cwV 0 hts gX11_part_X6_howManyParts rfl rfl rfl ⟨rfl, hd_X6_howManyParts⟩ ⟨Nat.le_of_ble_eq_true rfl, Nat.le_of_ble_eq_true rfl⟩) ⟨pC.blind, va_recv hK hPc (ci := 6) (q0 := 0) rfl rfl, pC.pre hPc hG hDc⟩ rfl rfl hl.1 rfl (lv_room (Nat.le_of_ble_eq_true rfl)) dX11_part_40 ⟨b23z.1, b23z.2⟩) hP hD hS hA rfl rfl rfl (by decide) (fun x25z u24z H locs hw hP hD hS => ?_)
        obtain rfl := hw.symm
        have hP : va_P (dC, dI) vwCl (wd44 cyI cyJ cyZ q_G q_Sc q_Pr q_Sp u10z.1 u10z.2 q_prime q_times q_parts q_Ch q_Tb q_Sk q_Wh q_Mk q_Tr q_Ws r12z.1 r12z.2.1 sp_partsKept sp_partsNumber r8z.1 r8z.2.1 r8z.2.2.1 r8z.2.2.2 r12z.2.2.1 r12z.2.2.2 a_parts) H := hP.sub [0, 1, 2, 7, 3, 4, 5, 8, 6] rfl
        have hD : va_D A (wd44 cyI cyJ cyZ q_G q_Sc q_Pr q_Sp u10z.1 u10z.2 q_prime q_times q_parts q_Ch q_Tb q_Sk q_Wh q_Mk q_Tr q_Ws r12z.1 r12z.2.1 sp_partsKept sp_partsNumber r8z.1 r8z.2.1 r8z.2.2.1 r8z.2.2.2 r12z.2.2.1 r12z.2.2.2 a_parts) := hD.sub [0, 1, 2, 7, 3, 4, 5, 8, 6] (by decide) rfl
        refine lv_i2l (v := r22z.toInt64) hx hb dX11_part_43 rfl ?_
        refine lv_goto (tgt := 55) hx hb dX11_part_44 (by decide) ?_
        obtain ⟨b26z, h⟩ := xa h
        refine W.widen (k := MC) (n := MS) b26z.1 b26z.2 ?_
        obtain rfl := Option.some.inj h
        exact W.lret (v := r22z.toInt64) hx hb hr (fun t ht hW => ⟨⟨_, (u10z.1, u10z.2), rfl, rfl, by rw [ht]; exact hP, hD⟩, hS.F ht⟩) hS.2.2 dX11_part_55 hlocks
    · have h := xf h c7z
      refine lv_ldc2 (v := (-1 : Int64)) hx hb hown (hts (.constantLong RX11 99 (-1)) (List.mem_of_getElem? (i := 1) rfl)) dX11_part_12 ?_
      obtain ⟨b27z, h⟩ := xa h
      refine W.widen (k := MC) (n := MS) b27z.1 b27z.2 ?_
      obtain rfl := Option.some.inj h
      exact W.lret (v := (-1 : Int64)) hx hb hr (fun t ht hW => ⟨⟨_, (q_row, q_list), rfl, rfl, by rw [ht]; exact hP, hD⟩, hS.F ht⟩) hS.2.2 dX11_part_15 hlocks
set_option maxRecDepth 100000 in
set_option maxHeartbeats 4000000 in
theorem c_X11_part (l : Launch) (dC : Nat → ClassId) (dI : Nat → Nat → Nat) (cyI cyJ cyZ : ClassId) (N : Nat) (MC MS : Nat) (res : Int64 × Int32 × Int64 × Int32 × Int64 × Nat × (Nat → Int32) × Nat × (Nat → Int32) × (Nat → Int64) × (Nat → Int32) × (Nat → Int64)) (sz : Nat) (q_G : Nat) (q_Sc : Nat) (q_Pr : Nat) (q_Sp : Nat) (q_row : Nat) (q_list : Nat) (q_prime : Nat) (q_times : Nat) (q_parts : Nat) (q_Ch : Nat) (q_Tb : Nat) (q_Sk : Nat) (q_Wh : Nat) (q_Mk : Nat) (q_Tr : Nat) (q_Ws : Nat) (v1 : Int64) (v3 : Int32) (sp_unlike : Int32) (sp_number : Int64) (sp_partsKept : Int32) (sp_partsNumber : Int64) (n_row : Nat) (a_row : Nat → Int32) (n_list : Nat) (a_list : Nat → Int32) (a_prime : Nat → Int64) (a_times : Nat → Int32) (a_parts : Nat → Int64) (h : f_X11_part N MC MS v1 v3 sp_unlike sp_number sp_partsKept sp_partsNumber n_row a_row n_list a_list a_prime a_times a_parts = some res) : Met l yX11_part wsX11_part (rm_X11_part MC MS) (pC dC dI cyI cyJ cyZ [.ref q_G, .long v1, .int v3] sz (wd44 cyI cyJ cyZ q_G q_Sc q_Pr q_Sp q_row q_list q_prime q_times q_parts q_Ch q_Tb q_Sk q_Wh q_Mk q_Tr q_Ws sp_unlike sp_number sp_partsKept sp_partsNumber n_row a_row n_list a_list a_prime a_times a_parts)) (va_Ql (fun (r : Int64) (_ : Nat × Nat) => r = res.1) (bW dC dI (fun (u : Nat × Nat) => (wd44 cyI cyJ cyZ q_G q_Sc q_Pr q_Sp u.1 u.2 q_prime q_times q_parts q_Ch q_Tb q_Sk q_Wh q_Mk q_Tr q_Ws res.2.1 res.2.2.1 res.2.2.2.1 res.2.2.2.2.1 res.2.2.2.2.2.1 res.2.2.2.2.2.2.1 res.2.2.2.2.2.2.2.1 res.2.2.2.2.2.2.2.2.1 res.2.2.2.2.2.2.2.2.2.1 res.2.2.2.2.2.2.2.2.2.2.1 res.2.2.2.2.2.2.2.2.2.2.2)) (va_A (wd44 cyI cyJ cyZ q_G q_Sc q_Pr q_Sp q_row q_list q_prime q_times q_parts q_Ch q_Tb q_Sk q_Wh q_Mk q_Tr q_Ws sp_unlike sp_number sp_partsKept sp_partsNumber n_row a_row n_list a_list a_prime a_times a_parts) sz)) (va_A (wd44 cyI cyJ cyZ q_G q_Sc q_Pr q_Sp q_row q_list q_prime q_times q_parts q_Ch q_Tb q_Sk q_Wh q_Mk q_Tr q_Ws sp_unlike sp_number sp_partsKept sp_partsNumber n_row a_row n_list a_list a_prime a_times a_parts) sz)) MC MS (va_A (wd44 cyI cyJ cyZ q_G q_Sc q_Pr q_Sp q_row q_list q_prime q_times q_parts q_Ch q_Tb q_Sk q_Wh q_Mk q_Tr q_Ws sp_unlike sp_number sp_partsKept sp_partsNumber n_row a_row n_list a_list a_prime a_times a_parts) sz) := by
  refine Met.ofW (cc := cX11_part) (maxL := 4) (ret := (some .long)) (by decide) rfl ?_
  intro p e s m args below meth c s₁ B hml hv
  obtain ⟨rfl, hsz, hP, hG, hD0⟩ := hv
  have hx := B.exec
  have hb := B.bytes
  have hr := B.returns
  have hts := atoms_spec (ws := wsX11_part) B.pre
  have hown : s.vm.findClass RX11 = some m.cls := findClass_of_methodNamed B.named
  have hlocks := B.notSynchronized
  subst hsz
  have hD := hD0.self (sz := s.heap.size)
  generalize hAe : va_A (wd44 cyI cyJ cyZ q_G q_Sc q_Pr q_Sp q_row q_list q_prime q_times q_parts q_Ch q_Tb q_Sk q_Wh q_Mk q_Tr q_Ws sp_unlike sp_number sp_partsKept sp_partsNumber n_row a_row n_list a_list a_prime a_times a_parts) s.heap.size = A at hD ⊢
  have hA : ∀ q : Nat, s.heap.size ≤ q → A q := fun q h => by rw [← hAe]; exact Or.inr h
  have hS : va_S A s.heap s.heap [] := va_S.rf
  have hl := lv_entry ([.ref q_G, .long v1, .int v3]) (n := 4) (Nat.le_of_ble_eq_true rfl)
  rw [lg_entry_eq]
  generalize (lg_sl ([.ref q_G, .long v1, .int v3]) ++ List.replicate (4 - (lg_sl ([.ref q_G, .long v1, .int v3])).length) Slot.unset).toArray = ls at hl ⊢
  have hl : lv_has ls 4 [(0, .ref q_G), (1, .long v1), (3, .int v3)] := hl
  exact k_X11_part_0 ⟨hx, hb, hr, hml, hown, hts, hlocks, hG, hA⟩ N MC MS res q_G q_Sc q_Pr q_Sp q_prime q_times q_parts q_Ch q_Tb q_Sk q_Wh q_Mk q_Tr q_Ws v1 v3 sp_unlike sp_number sp_partsKept sp_partsNumber n_row a_row n_list a_list a_prime a_times a_parts q_row q_list h _ _ hP hD hS _ hl
abbrev rm_X11_prime (MC MS : Nat) : Room := { frames := 3, cells := MC, slots := MS, locals := 68 }
theorem hd_X11_prime : yX11_prime.cls ≠ "java/lang/invoke/MethodHandle" ∧ yX11_prime.cls ≠ "java/lang/invoke/VarHandle" ∧ (parseMethodDescriptor yX11_prime.desc).map (fun d => d.parameters.length) = some 2 := by decide +kernel
theorem iw_X11_prime_X11 : ∀ w ∈ wsX110, w ∈ wsX11_prime := List.forall_mem_cons.mpr ⟨List.mem_of_getElem? (i := 60) rfl, List.forall_mem_cons.mpr ⟨List.mem_of_getElem? (i := 61) rfl, List.forall_mem_cons.mpr ⟨List.mem_of_getElem? (i := 62) rfl, List.forall_mem_cons.mpr ⟨List.mem_of_getElem? (i := 63) rfl, List.forall_mem_cons.mpr ⟨List.mem_of_getElem? (i := 64) rfl, List.forall_mem_cons.mpr ⟨List.mem_of_getElem? (i := 65) rfl, List.forall_mem_cons.mpr ⟨List.mem_of_getElem? (i := 66) rfl, List.forall_mem_cons.mpr ⟨List.mem_of_getElem? (i := 67) rfl, List.forall_mem_cons.mpr ⟨List.mem_of_getElem? (i := 68) rfl, fun _ h => absurd h List.not_mem_nil⟩⟩⟩⟩⟩⟩⟩⟩⟩
theorem iw_X11_prime_X4 : ∀ w ∈ wsX40, w ∈ wsX11_prime := List.forall_mem_cons.mpr ⟨List.mem_of_getElem? (i := 71) rfl, fun _ h => absurd h List.not_mem_nil⟩
theorem iw_X11_prime_X3 : ∀ w ∈ wsX30, w ∈ wsX11_prime := List.forall_mem_cons.mpr ⟨List.mem_of_getElem? (i := 69) rfl, List.forall_mem_cons.mpr ⟨List.mem_of_getElem? (i := 70) rfl, fun _ h => absurd h List.not_mem_nil⟩⟩
theorem iw_X11_prime_X6 : ∀ w ∈ wsX60, w ∈ wsX11_prime := List.forall_mem_cons.mpr ⟨List.mem_of_getElem? (i := 72) rfl, List.forall_mem_cons.mpr ⟨List.mem_of_getElem? (i := 73) rfl, List.forall_mem_cons.mpr ⟨List.mem_of_getElem? (i := 74) rfl, List.forall_mem_cons.mpr ⟨List.mem_of_getElem? (i := 75) rfl, List.forall_mem_cons.mpr ⟨List.mem_of_getElem? (i := 76) rfl, List.forall_mem_cons.mpr ⟨List.mem_of_getElem? (i := 77) rfl, List.forall_mem_cons.mpr ⟨List.mem_of_getElem? (i := 78) rfl, List.forall_mem_cons.mpr ⟨List.mem_of_getElem? (i := 79) rfl, fun _ h => absurd h List.not_mem_nil⟩⟩⟩⟩⟩⟩⟩⟩
def f_X11_prime (N : Nat) (MC : Nat) (MS : Nat) (v1 : Int64) (v3 : Int32) (sp_unlike : Int32) (sp_number : Int64) (n_row : Nat) (a_row : Nat → Int32) (n_list : Nat) (a_list : Nat → Int32) (a_prime : Nat → Int64) (a_times : Nat → Int32) : Option (Int64 × Int32 × Int64 × Nat × (Nat → Int32) × Nat × (Nat → Int32) × (Nat → Int64) × (Nat → Int32)) :=
  if 0 ≤ MC ∧ 0 ≤ MS then
    Option.bind (f_X11_isNumber N v1) fun r1z =>
    if r1z = 0 then
      if 0 ≤ MC ∧ 0 ≤ MS then
        some ((-1 : Int64), sp_unlike, sp_number, n_row, a_row, n_list, a_list, a_prime, a_times)
      else
        none
    else
      if (-1 : Int32) ≤ v3 then
        if 0 + (if 0 < nI n_list then 0 else 1 + (if nI n_row = 0 then 1 else 0)) ≤ MC ∧ 0 + (if 0 < nI n_list then 0 else 9592 + (if nI n_row = 0 then 50001 else 0)) ≤ MS then
          Option.bind (f_X3_prepare N (if 0 < nI n_list then 0 else 1 + (if nI n_row = 0 then 1 else 0)) (if 0 < nI n_list then 0 else 9592 + (if nI n_row = 0 then 50001 else 0))  n_row a_row n_list a_list) fun r8z =>
          if 0 + (if 0 < nI n_list then 0 else 1 + (if nI n_row = 0 then 1 else 0)) ≤ MC ∧ 0 + (if 0 < nI n_list then 0 else 9592 + (if nI n_row = 0 then 50001 else 0)) ≤ MS then
            Option.bind (f_X6_splitUp N v1 sp_unlike sp_number r8z.2.2.1 r8z.2.2.2 a_prime a_times) fun r12z =>
            if v3 = (-1 : Int32) then
              if 0 + (if 0 < nI n_list then 0 else 1 + (if nI n_row = 0 then 1 else 0)) ≤ MC ∧ 0 + (if 0 < nI n_list then 0 else 9592 + (if nI n_row = 0 then 50001 else 0)) ≤ MS then
                Option.bind (f_X6_howManyPrimes N  r12z.1 r12z.2.2.2) fun r22z =>
                if 0 + (if 0 < nI n_list then 0 else 1 + (if nI n_row = 0 then 1 else 0)) ≤ MC ∧ 0 + (if 0 < nI n_list then 0 else 9592 + (if nI n_row = 0 then 50001 else 0)) ≤ MS then
                  some (r22z.toInt64, r12z.1, r12z.2.1, r8z.1, r8z.2.1, r8z.2.2.1, r8z.2.2.2, r12z.2.2.1, r12z.2.2.2)
                else
                  none
              else
                none
            else
              if 0 + (if 0 < nI n_list then 0 else 1 + (if nI n_row = 0 then 1 else 0)) ≤ MC ∧ 0 + (if 0 < nI n_list then 0 else 9592 + (if nI n_row = 0 then 50001 else 0)) ≤ MS then
                Option.bind (f_X6_primeAt N v3 r12z.1 r12z.2.2.1 r12z.2.2.2) fun r17z =>
                if 0 + (if 0 < nI n_list then 0 else 1 + (if nI n_row = 0 then 1 else 0)) ≤ MC ∧ 0 + (if 0 < nI n_list then 0 else 9592 + (if nI n_row = 0 then 50001 else 0)) ≤ MS then
                  some (r17z, r12z.1, r12z.2.1, r8z.1, r8z.2.1, r8z.2.2.1, r8z.2.2.2, r12z.2.2.1, r12z.2.2.2)
                else
                  none
              else
                none
          else
            none
        else
          none
      else
        if 0 ≤ MC ∧ 0 ≤ MS then
          some ((-1 : Int64), sp_unlike, sp_number, n_row, a_row, n_list, a_list, a_prime, a_times)
        else
          none
  else
    none
set_option maxRecDepth 100000 in
set_option maxHeartbeats 4000000 in
theorem k_X11_prime_0 {p : Program} {l : Launch} {e : Env} {s : State} {m : MethodId} {args : Array Value} {below : List Frame} {meth : Method} {c : Code} {dC : Nat → ClassId} {dI : Nat → Nat → Nat} {cyI cyJ cyZ : ClassId} {A : Nat → Prop} (C0 : mC p s m meth c args cX11_prime (some .long) 4 RX11 wsX11_prime (gK dC dI cyI cyJ cyZ) A) (N : Nat) (MC MS : Nat) (res : Int64 × Int32 × Int64 × Nat × (Nat → Int32) × Nat × (Nat → Int32) × (Nat → Int64) × (Nat → Int32)) (q_G : Nat) (q_Sc : Nat) (q_Pr : Nat) (q_Sp : Nat) (q_prime : Nat) (q_times : Nat) (q_Ch : Nat) (q_Tb : Nat) (q_Sk : Nat) (q_Wh : Nat) (q_Mk : Nat) (q_Tr : Nat) (q_Ws : Nat) (q_parts : Nat) (v1 : Int64) (v3 : Int32) (sp_unlike : Int32) (sp_number : Int64) (sp_partsKept : Int32) (sp_partsNumber : Int64) (n_row : Nat) (a_row : Nat → Int32) (n_list : Nat) (a_list : Nat → Int32) (a_prime : Nat → Int64) (a_times : Nat → Int32) (q_row : Nat) (q_list : Nat) (h : f_X11_prime N MC MS v1 v3 sp_unlike sp_number n_row a_row n_list a_list a_prime a_times = some res) : ∀ (H : Heap) (locs : List Loc), va_P (dC, dI) vwCl (wd43 cyI cyJ cyZ q_G q_Sc q_Pr q_Sp q_row q_list q_prime q_times q_Ch q_Tb q_Sk q_Wh q_Mk q_Tr q_Ws q_parts sp_unlike sp_number sp_partsKept sp_partsNumber n_row a_row n_list a_list a_prime a_times) H → va_D A (wd43 cyI cyJ cyZ q_G q_Sc q_Pr q_Sp q_row q_list q_prime q_times q_Ch q_Tb q_Sk q_Wh q_Mk q_Tr q_Ws q_parts sp_unlike sp_number sp_partsKept sp_partsNumber n_row a_row n_list a_list a_prime a_times) → va_S A s.heap H locs → ∀ (ls : Array Slot), lv_has ls 4 [(0, .ref q_G), (1, .long v1), (3, .int v3)] → W p l e (headSpec wsX11_prime (rm_X11_prime MC MS)).room s m args below meth c H locs 0 0 (MQ below (va_Ql (fun (r : Int64) (_ : Nat × Nat) => r = res.1) (bW dC dI (fun (u : Nat × Nat) => (wd43 cyI cyJ cyZ q_G q_Sc q_Pr q_Sp u.1 u.2 q_prime q_times q_Ch q_Tb q_Sk q_Wh q_Mk q_Tr q_Ws q_parts res.2.1 res.2.2.1 sp_partsKept sp_partsNumber res.2.2.2.1 res.2.2.2.2.1 res.2.2.2.2.2.1 res.2.2.2.2.2.2.1 res.2.2.2.2.2.2.2.1 res.2.2.2.2.2.2.2.2)) A) A) args s MC MS A) (F0 m 0 ls []) := by
  obtain ⟨hx, hb, hr, hml, hown, hts, hlocks, hG, hA⟩ := id C0
  have hK := hG.1
  intro H locs hP hD hS ls hl
  unfold f_X11_prime at h
  refine lv_lload_n hx hb dX11_prime_0 rfl (lv_at hl 1 rfl) ?_
  obtain ⟨b2z, h⟩ := xa h
  obtain ⟨r1z, hr1z, h⟩ := xb_at h
  have hPc := hP.sub (ws' := (wd37 cyI cyJ cyZ)) [] rfl
  have hDc := hD.sub (ws' := (wd37 cyI cyJ cyZ)) [] (by decide) rfl
  refine cal_i [] [0, 1, 2, 3, 4, 5, 6, 7] (va_runS (As := [.long v1]) (rest := []) ⟨hx, hb, hml, hown, hts⟩ (c_X11_isNumber l dC dI cyI cyJ cyZ N r1z H.size  v1  hr1z) (va_cwS 1 hts gX11_prime_X11_isNumber rfl rfl rfl hd_X11_isNumber ⟨Nat.le_of_ble_eq_true rfl, Nat.le_of_ble_eq_true rfl⟩) ⟨pC.blind, pC.pre hPc hG hDc⟩ rfl rfl hl.1 rfl (lv_room (Nat.le_of_ble_eq_true rfl)) dX11_prime_1 ⟨b2z.1, b2z.2⟩) hP hD hS hA rfl rfl rfl (by decide) (fun x4z u3z H locs hw hP hD hS => ?_)
  obtain rfl := hw.symm
  have hP : va_P (dC, dI) vwCl (wd43 cyI cyJ cyZ q_G q_Sc q_Pr q_Sp q_row q_list q_prime q_times q_Ch q_Tb q_Sk q_Wh q_Mk q_Tr q_Ws q_parts sp_unlike sp_number sp_partsKept sp_partsNumber n_row a_row n_list a_list a_prime a_times) H := hP.sub [0, 1, 2, 3, 4, 5, 6, 7] rfl
  have hD : va_D A (wd43 cyI cyJ cyZ q_G q_Sc q_Pr q_Sp q_row q_list q_prime q_times q_Ch q_Tb q_Sk q_Wh q_Mk q_Tr q_Ws q_parts sp_unlike sp_number sp_partsKept sp_partsNumber n_row a_row n_list a_list a_prime a_times) := hD.sub [0, 1, 2, 3, 4, 5, 6, 7] (by decide) rfl
  refine lv_if_eq (tgt := 12) hx hb dX11_prime_4 (by decide) (fun c5z => ?_) (fun c5z => ?_)
  · have h := xt h c5z
    refine lv_ldc2 (v := (-1 : Int64)) hx hb hown (hts (.constantLong RX11 99 (-1)) (List.mem_of_getElem? (i := 1) rfl)) dX11_prime_12 ?_
    obtain ⟨b6z, h⟩ := xa h
    refine W.widen (k := MC) (n := MS) b6z.1 b6z.2 ?_
    obtain rfl := Option.some.inj h
    exact W.lret (v := (-1 : Int64)) hx hb hr (fun t ht hW => ⟨⟨_, (q_row, q_list), rfl, rfl, by rw [ht]; exact hP, hD⟩, hS.F ht⟩) hS.2.2 dX11_prime_15 hlocks
  · have h := xf h c5z
    refine lv_iload_n hx hb dX11_prime_7 rfl (lv_at hl 2 rfl) ?_
    refine lv_iconst (v := (-1 : Int32)) hx hb dX11_prime_8 (by decide) ?_
    refine lv_icmp_ge (tgt := 16) hx hb dX11_prime_9 (by decide) (fun c7z => ?_) (fun c7z => ?_)
    · have h := xt h c7z
      refine lv_aload_n hx hb dX11_prime_16 rfl (lv_at hl 0 rfl) ?_
      refine va_get (D := (dC, dI)) (ci := 11) (v := .ref q_Pr) (C := RX11) (T := TX11) (N := 9) hx hb hts iw_X11_prime_X11 hown hK hP 0 rfl rfl 0 (by decide) (hts (.fieldLink RX11 15 "GoesInto" "primes" "LGoesInto$Primes;") (List.mem_of_getElem? (i := 2) rfl)) (fun _ h9 => h9) rfl dX11_prime_17 ?_
      obtain ⟨b9z, h⟩ := xa h
      obtain ⟨r8z, hr8z, h⟩ := xb_at h
      have hPc := hP.sub (ws' := (wd11 cyI cyJ cyZ q_Sc q_Pr q_row q_list n_row a_row n_list a_list)) [1, 2, 4, 5] rfl
      have hDc := hD.sub (ws' := (wd11 cyI cyJ cyZ q_Sc q_Pr q_row q_list n_row a_row n_list a_list)) [1, 2, 4, 5] (by decide) rfl
      refine cal_v [1, 2, 4, 5] [0, 3, 6, 7] (va_runV (As := []) (rest := []) ⟨hx, hb, hml, hown, hts⟩ (c_X3_prepare l dC dI cyI cyJ cyZ N (if 0 < nI n_list then 0 else 1 + (if nI n_row = 0 then 1 else 0)) (if 0 < nI n_list then 0 else 9592 + (if nI n_row = 0 then 50001 else 0)) r8z H.size q_Sc q_Pr q_row q_list  n_row a_row n_list a_list hr8z) (cwV 0 hts gX11_prime_X3_prepare rfl rfl rfl ⟨rfl, hd_X3_prepare⟩ ⟨Nat.le_of_ble_eq_true rfl, Nat.le_of_ble_eq_true rfl⟩) ⟨pC.blind, va_recv hK hPc (ci := 3) (q0 := 1) rfl rfl, pC.pre hPc hG hDc⟩ rfl rfl hl.1 rfl (lv_room (Nat.le_of_ble_eq_true rfl)) dX11_prime_20 ⟨b9z.1, b9z.2⟩) hP hD hS hA rfl rfl rfl (by decide) (fun u10z H locs _ hP hD hS => ?_)
      have hP : va_P (dC, dI) vwCl (wd43 cyI cyJ cyZ q_G q_Sc q_Pr q_Sp u10z.1 u10z.2 q_prime q_times q_Ch q_Tb q_Sk q_Wh q_Mk q_Tr q_Ws q_parts sp_unlike sp_number sp_partsKept sp_partsNumber r8z.1 r8z.2.1 r8z.2.2.1 r8z.2.2.2 a_prime a_times) H := hP.sub [0, 4, 5, 1, 6, 7, 2, 3] rfl
      have hD : va_D A (wd43 cyI cyJ cyZ q_G q_Sc q_Pr q_Sp u10z.1 u10z.2 q_prime q_times q_Ch q_Tb q_Sk q_Wh q_Mk q_Tr q_Ws q_parts sp_unlike sp_number sp_partsKept sp_partsNumber r8z.1 r8z.2.1 r8z.2.2.1 r8z.2.2.2 a_prime a_times) := hD.sub [0, 4, 5, 1, 6, 7, 2, 3] (by decide) rfl
      refine lv_aload_n hx hb dX11_prime_23 rfl (lv_at hl 0 rfl) ?_
      refine va_get (D := (dC, dI)) (ci := 11) (v := .ref q_Sp) (C := RX11) (T := TX11) (N := 9) hx hb hts iw_X11_prime_X11 hown hK hP 0 rfl rfl 1 (by decide) (hts (.fieldLink RX11 26 "GoesInto" "split" "LGoesInto$Split;") (List.mem_of_getElem? (i := 3) rfl)) (fun _ h9 => h9) rfl dX11_prime_24 ?_
      refine lv_lload_n hx hb dX11_prime_27 rfl (lv_at hl 1 rfl) ?_
      obtain ⟨b13z, h⟩ := xa h
      obtain ⟨r12z, hr12z, h⟩ := xb_at h
      have hPc := hP.sub (ws' := (wd1 cyI cyJ cyZ q_Pr q_Sp u10z.2 q_prime q_times q_Sc q_parts sp_unlike sp_number sp_partsKept sp_partsNumber r8z.2.2.1 r8z.2.2.2 a_prime a_times)) [2, 3, 5, 6, 7] rfl
      have hDc := hD.sub (ws' := (wd1 cyI cyJ cyZ q_Pr q_Sp u10z.2 q_prime q_times q_Sc q_parts sp_unlike sp_number sp_partsKept sp_partsNumber r8z.2.2.1 r8z.2.2.2 a_prime a_times)) [2, 3, 5, 6, 7] (by decide) rfl
      refine cal_v [2, 3, 5, 6, 7] [0, 1, 4] (va_runV (As := [.long v1]) (rest := []) ⟨hx, hb, hml, hown, hts⟩ (c_X6_splitUp l dC dI cyI cyJ cyZ N r12z H.size q_Pr q_Sp u10z.2 q_prime q_times q_Sc q_parts v1 sp_unlike sp_number sp_partsKept sp_partsNumber r8z.2.2.1 r8z.2.2.2 a_prime a_times hr12z) (cwV 1 hts gX11_prime_X6_splitUp rfl rfl rfl ⟨rfl, hd_X6_splitUp⟩ ⟨Nat.le_of_ble_eq_true rfl, Nat.le_of_ble_eq_true rfl⟩) ⟨pC.blind, va_recv hK hPc (ci := 6) (q0 := 1) rfl rfl, pC.pre hPc hG hDc⟩ rfl rfl hl.1 rfl (lv_room (Nat.le_of_ble_eq_true rfl)) dX11_prime_28 ⟨b13z.1, b13z.2⟩) hP hD hS hA rfl rfl rfl (by decide) (fun u14z H locs _ hP hD hS => ?_)
      have hP : va_P (dC, dI) vwCl (wd43 cyI cyJ cyZ q_G q_Sc q_Pr q_Sp u10z.1 u10z.2 q_prime q_times q_Ch q_Tb q_Sk q_Wh q_Mk q_Tr q_Ws q_parts r12z.1 r12z.2.1 sp_partsKept sp_partsNumber r8z.1 r8z.2.1 r8z.2.2.1 r8z.2.2.2 r12z.2.2.1 r12z.2.2.2) H := hP.sub [0, 1, 3, 4, 2, 5, 6, 7] rfl
      have hD : va_D A (wd43 cyI cyJ cyZ q_G q_Sc q_Pr q_Sp u10z.1 u10z.2 q_prime q_times q_Ch q_Tb q_Sk q_Wh q_Mk q_Tr q_Ws q_parts r12z.1 r12z.2.1 sp_partsKept sp_partsNumber r8z.1 r8z.2.1 r8z.2.2.1 r8z.2.2.2 r12z.2.2.1 r12z.2.2.2) := hD.sub [0, 1, 3, 4, 2, 5, 6, 7] (by decide) rfl
      refine lv_iload_n hx hb dX11_prime_31 rfl (lv_at hl 2 rfl) ?_
      refine lv_iconst (v := (-1 : Int32)) hx hb dX11_prime_32 (by decide) ?_
      refine lv_icmp_ne (tgt := 47) hx hb dX11_prime_33 (by decide) (fun c16z => ?_) (fun c16z => ?_)
      · have h := xf h c16z
        refine lv_aload_n hx hb dX11_prime_47 rfl (lv_at hl 0 rfl) ?_
        refine va_get (D := (dC, dI)) (ci := 11) (v := .ref q_Sp) (C := RX11) (T := TX11) (N := 9) hx hb hts iw_X11_prime_X11 hown hK hP 0 rfl rfl 1 (by decide) (hts (.fieldLink RX11 26 "GoesInto" "split" "LGoesInto$Split;") (List.mem_of_getElem? (i := 3) rfl)) (fun _ h9 => h9) rfl dX11_prime_48 ?_
        refine lv_iload_n hx hb dX11_prime_51 rfl (lv_at hl 2 rfl) ?_
        obtain ⟨b18z, h⟩ := xa h
        obtain ⟨r17z, hr17z, h⟩ := xb_at h
        have hPc := hP.sub (ws' := (wd0 cyI cyJ cyZ q_Sp q_prime q_times q_Pr q_parts r12z.1 r12z.2.1 sp_partsKept sp_partsNumber r12z.2.2.1 r12z.2.2.2)) [3, 6, 7] rfl
        have hDc := hD.sub (ws' := (wd0 cyI cyJ cyZ q_Sp q_prime q_times q_Pr q_parts r12z.1 r12z.2.1 sp_partsKept sp_partsNumber r12z.2.2.1 r12z.2.2.2)) [3, 6, 7] (by decide) rfl
        refine cal_l [3, 6, 7] [0, 1, 2, 4, 5] (va_runV (As := [.int v3]) (rest := []) ⟨hx, hb, hml, hown, hts⟩ (c_X6_primeAt l dC dI cyI cyJ cyZ N r17z H.size q_Sp q_prime q_times q_Pr q_parts v3 r12z.1 r12z.2.1 sp_partsKept sp_partsNumber r12z.2.2.1 r12z.2.2.2 hr17z) (cwV 1 hts gX11_prime_X6_primeAt rfl rfl rfl ⟨rfl, hd_X6_primeAt⟩ ⟨Nat.le_of_ble_eq_true rfl, Nat.le_of_ble_eq_true rfl⟩) ⟨pC.blind, va_recv hK hPc (ci := 6) (q0 := 0) rfl rfl, pC.pre hPc hG hDc⟩ rfl rfl hl.1 rfl (lv_room (Nat.le_of_ble_eq_true rfl)) dX11_prime_52 ⟨b18z.1, b18z.2⟩) hP hD hS hA rfl rfl rfl (by decide) (fun x20z u19z H locs hw hP hD hS => ?_)
        obtain rfl := hw.symm
        have hP : va_P (dC, dI) vwCl (wd43 cyI cyJ cyZ q_G q_Sc q_Pr q_Sp u10z.1 u10z.2 q_prime q_times q_Ch q_Tb q_Sk q_Wh q_Mk q_Tr q_Ws q_parts r12z.1 r12z.2.1 sp_partsKept sp_partsNumber r8z.1 r8z.2.1 r8z.2.2.1 r8z.2.2.2 r12z.2.2.1 r12z.2.2.2) H := hP.sub [0, 1, 2, 5, 3, 4, 6, 7] rfl
        have hD : va_D A (wd43 cyI cyJ cyZ q_G q_Sc q_Pr q_Sp u10z.1 u10z.2 q_prime q_times q_Ch q_Tb q_Sk q_Wh q_Mk q_Tr q_Ws q_parts r12z.1 r12z.2.1 sp_partsKept sp_partsNumber r8z.1 r8z.2.1 r8z.2.2.1 r8z.2.2.2 r12z.2.2.1 r12z.2.2.2) := hD.sub [0, 1, 2, 5, 3, 4, 6, 7] (by decide) rfl
        obtain ⟨b21z, h⟩ := xa h
        refine W.widen (k := MC) (n := MS) b21z.1 b21z.2 ?_
        obtain rfl := Option.some.inj h
        exact W.lret (v := r17z) hx hb hr (fun t ht hW => ⟨⟨_, (u10z.1, u10z.2), rfl, rfl, by rw [ht]; exact hP, hD⟩, hS.F ht⟩) hS.2.2 dX11_prime_55 hlocks
      · have h := xt h c16z
        refine lv_aload_n hx hb dX11_prime_36 rfl (lv_at hl 0 rfl) ?_
        refine va_get (D := (dC, dI)) (ci := 11) (v := .ref q_Sp) (C := RX11) (T := TX11) (N := 9) hx hb hts iw_X11_prime_X11 hown hK hP 0 rfl rfl 1 (by decide) (hts (.fieldLink RX11 26 "GoesInto" "split" "LGoesInto$Split;") (List.mem_of_getElem? (i := 3) rfl)) (fun _ h9 => h9) rfl dX11_prime_37 ?_
        obtain ⟨b23z, h⟩ := xa h
        obtain ⟨r22z, hr22z, h⟩ := xb_at h
        have hPc := hP.sub (ws' := (wd2 cyI cyJ cyZ q_Sp q_times q_Pr q_prime q_parts r12z.1 r12z.2.1 sp_partsKept sp_partsNumber r12z.2.2.2)) [3, 7] rfl
        have hDc := hD.sub (ws' := (wd2 cyI cyJ cyZ q_Sp q_times q_Pr q_prime q_parts r12z.1 r12z.2.1 sp_partsKept sp_partsNumber r12z.2.2.2)) [3, 7] (by decide) rfl
        refine cal_i [3, 7] [0, 1, 2, 4, 5, 6] (va_runV (As := []) (rest := []) ⟨hx, hb, hml, hown, hts⟩ (c_X6_howManyPrimes l dC dI cyI cyJ cyZ N r22z H.size q_Sp q_times q_Pr q_prime q_parts  r12z.1 r12z.2.1 sp_partsKept sp_partsNumber r12z.2.2.2 hr22z) (cwV 0 hts gX11_prime_X6_howManyPrimes rfl rfl rfl ⟨rfl, hd_X6_howManyPrimes⟩ ⟨Nat.le_of_ble_eq_true rfl, Nat.le_of_ble_eq_true rfl⟩) ⟨pC.blind, va_recv hK hPc (ci := 6) (q0 := 0) rfl rfl, pC.pre hPc hG hDc⟩ rfl rfl hl.1 rfl (lv_room (Nat.le_of_ble_eq_true rfl)) dX11_prime_40 ⟨b23z.1, b23z.2⟩) hP hD hS hA rfl rfl rfl (by decide) (fun x25z u24z H locs hw hP hD hS => ?_)
        obtain rfl := hw.symm
        have hP : va_P (dC, dI) vwCl (wd43 cyI cyJ cyZ q_G q_Sc q_Pr q_Sp u10z.1 u10z.2 q_prime q_times q_Ch q_Tb q_Sk q_Wh q_Mk q_Tr q_Ws q_parts r12z.1 r12z.2.1 sp_partsKept sp_partsNumber r8z.1 r8z.2.1 r8z.2.2.1 r8z.2.2.2 r12z.2.2.1 r12z.2.2.2) H := hP.sub [0, 1, 2, 6, 3, 4, 5, 7] rfl
        have hD : va_D A (wd43 cyI cyJ cyZ q_G q_Sc q_Pr q_Sp u10z.1 u10z.2 q_prime q_times q_Ch q_Tb q_Sk q_Wh q_Mk q_Tr q_Ws q_parts r12z.1 r12z.2.1 sp_partsKept sp_partsNumber r8z.1 r8z.2.1 r8z.2.2.1 r8z.2.2.2 r12z.2.2.1 r12z.2.2.2) := hD.sub [0, 1, 2, 6, 3, 4, 5, 7] (by decide) rfl
        refine lv_i2l (v := r22z.toInt64) hx hb dX11_prime_43 rfl ?_
        refine lv_goto (tgt := 55) hx hb dX11_prime_44 (by decide) ?_
        obtain ⟨b26z, h⟩ := xa h
        refine W.widen (k := MC) (n := MS) b26z.1 b26z.2 ?_
        obtain rfl := Option.some.inj h
        exact W.lret (v := r22z.toInt64) hx hb hr (fun t ht hW => ⟨⟨_, (u10z.1, u10z.2), rfl, rfl, by rw [ht]; exact hP, hD⟩, hS.F ht⟩) hS.2.2 dX11_prime_55 hlocks
    · have h := xf h c7z
      refine lv_ldc2 (v := (-1 : Int64)) hx hb hown (hts (.constantLong RX11 99 (-1)) (List.mem_of_getElem? (i := 1) rfl)) dX11_prime_12 ?_
      obtain ⟨b27z, h⟩ := xa h
      refine W.widen (k := MC) (n := MS) b27z.1 b27z.2 ?_
      obtain rfl := Option.some.inj h
      exact W.lret (v := (-1 : Int64)) hx hb hr (fun t ht hW => ⟨⟨_, (q_row, q_list), rfl, rfl, by rw [ht]; exact hP, hD⟩, hS.F ht⟩) hS.2.2 dX11_prime_15 hlocks
set_option maxRecDepth 100000 in
set_option maxHeartbeats 4000000 in
theorem c_X11_prime (l : Launch) (dC : Nat → ClassId) (dI : Nat → Nat → Nat) (cyI cyJ cyZ : ClassId) (N : Nat) (MC MS : Nat) (res : Int64 × Int32 × Int64 × Nat × (Nat → Int32) × Nat × (Nat → Int32) × (Nat → Int64) × (Nat → Int32)) (sz : Nat) (q_G : Nat) (q_Sc : Nat) (q_Pr : Nat) (q_Sp : Nat) (q_row : Nat) (q_list : Nat) (q_prime : Nat) (q_times : Nat) (q_Ch : Nat) (q_Tb : Nat) (q_Sk : Nat) (q_Wh : Nat) (q_Mk : Nat) (q_Tr : Nat) (q_Ws : Nat) (q_parts : Nat) (v1 : Int64) (v3 : Int32) (sp_unlike : Int32) (sp_number : Int64) (sp_partsKept : Int32) (sp_partsNumber : Int64) (n_row : Nat) (a_row : Nat → Int32) (n_list : Nat) (a_list : Nat → Int32) (a_prime : Nat → Int64) (a_times : Nat → Int32) (h : f_X11_prime N MC MS v1 v3 sp_unlike sp_number n_row a_row n_list a_list a_prime a_times = some res) : Met l yX11_prime wsX11_prime (rm_X11_prime MC MS) (pC dC dI cyI cyJ cyZ [.ref q_G, .long v1, .int v3] sz (wd43 cyI cyJ cyZ q_G q_Sc q_Pr q_Sp q_row q_list q_prime q_times q_Ch q_Tb q_Sk q_Wh q_Mk q_Tr q_Ws q_parts sp_unlike sp_number sp_partsKept sp_partsNumber n_row a_row n_list a_list a_prime a_times)) (va_Ql (fun (r : Int64) (_ : Nat × Nat) => r = res.1) (bW dC dI (fun (u : Nat × Nat) => (wd43 cyI cyJ cyZ q_G q_Sc q_Pr q_Sp u.1 u.2 q_prime q_times q_Ch q_Tb q_Sk q_Wh q_Mk q_Tr q_Ws q_parts res.2.1 res.2.2.1 sp_partsKept sp_partsNumber res.2.2.2.1 res.2.2.2.2.1 res.2.2.2.2.2.1 res.2.2.2.2.2.2.1 res.2.2.2.2.2.2.2.1 res.2.2.2.2.2.2.2.2)) (va_A (wd43 cyI cyJ cyZ q_G q_Sc q_Pr q_Sp q_row q_list q_prime q_times q_Ch q_Tb q_Sk q_Wh q_Mk q_Tr q_Ws q_parts sp_unlike sp_number sp_partsKept sp_partsNumber n_row a_row n_list a_list a_prime a_times) sz)) (va_A (wd43 cyI cyJ cyZ q_G q_Sc q_Pr q_Sp q_row q_list q_prime q_times q_Ch q_Tb q_Sk q_Wh q_Mk q_Tr q_Ws q_parts sp_unlike sp_number sp_partsKept sp_partsNumber n_row a_row n_list a_list a_prime a_times) sz)) MC MS (va_A (wd43 cyI cyJ cyZ q_G q_Sc q_Pr q_Sp q_row q_list q_prime q_times q_Ch q_Tb q_Sk q_Wh q_Mk q_Tr q_Ws q_parts sp_unlike sp_number sp_partsKept sp_partsNumber n_row a_row n_list a_list a_prime a_times) sz) := by
  refine Met.ofW (cc := cX11_prime) (maxL := 4) (ret := (some .long)) (by decide) rfl ?_
  intro p e s m args below meth c s₁ B hml hv
  obtain ⟨rfl, hsz, hP, hG, hD0⟩ := hv
  have hx := B.exec
  have hb := B.bytes
  have hr := B.returns
  have hts := atoms_spec (ws := wsX11_prime) B.pre
  have hown : s.vm.findClass RX11 = some m.cls := findClass_of_methodNamed B.named
  have hlocks := B.notSynchronized
  subst hsz
  have hD := hD0.self (sz := s.heap.size)
  generalize hAe : va_A (wd43 cyI cyJ cyZ q_G q_Sc q_Pr q_Sp q_row q_list q_prime q_times q_Ch q_Tb q_Sk q_Wh q_Mk q_Tr q_Ws q_parts sp_unlike sp_number sp_partsKept sp_partsNumber n_row a_row n_list a_list a_prime a_times) s.heap.size = A at hD ⊢
  have hA : ∀ q : Nat, s.heap.size ≤ q → A q := fun q h => by rw [← hAe]; exact Or.inr h
  have hS : va_S A s.heap s.heap [] := va_S.rf
  have hl := lv_entry ([.ref q_G, .long v1, .int v3]) (n := 4) (Nat.le_of_ble_eq_true rfl)
  rw [lg_entry_eq]
  generalize (lg_sl ([.ref q_G, .long v1, .int v3]) ++ List.replicate (4 - (lg_sl ([.ref q_G, .long v1, .int v3])).length) Slot.unset).toArray = ls at hl ⊢
  have hl : lv_has ls 4 [(0, .ref q_G), (1, .long v1), (3, .int v3)] := hl
  exact k_X11_prime_0 ⟨hx, hb, hr, hml, hown, hts, hlocks, hG, hA⟩ N MC MS res q_G q_Sc q_Pr q_Sp q_prime q_times q_Ch q_Tb q_Sk q_Wh q_Mk q_Tr q_Ws q_parts v1 v3 sp_unlike sp_number sp_partsKept sp_partsNumber n_row a_row n_list a_list a_prime a_times q_row q_list h _ _ hP hD hS _ hl
/-- the cells G, Sc, Pr, Sp, Ch, row, list, prime, times, told -/
abbrev wd45 (cyI cyJ cyZ : ClassId) (q_G : Nat) (q_Sc : Nat) (q_Pr : Nat) (q_Sp : Nat) (q_Ch : Nat) (q_row : Nat) (q_list : Nat) (q_prime : Nat) (q_times : Nat) (q_told : Nat) (q_Tb : Nat) (q_Sk : Nat) (q_Wh : Nat) (q_Mk : Nat) (q_Tr : Nat) (q_Ws : Nat) (q_parts : Nat) (sp_unlike : Int32) (sp_number : Int64) (sp_partsKept : Int32) (sp_partsNumber : Int64) (ch_many : Int32) (ch_kind : Int32) (ch_ending : Int32) (ch_tail : Int32) (ch_round : Int32) (ch_greatest : Int64) (n_row : Nat) (a_row : Nat → Int32) (n_list : Nat) (a_list : Nat → Int32) (a_prime : Nat → Int64) (a_times : Nat → Int32) (a_told : Nat → Int64) : va_W := [(q_G, .inr (11, [.ref q_Pr, .ref q_Sp, .ref q_Ch, .ref q_Tb, .ref q_Sk, .ref q_Wh, .ref q_Mk, .ref q_Tr, .ref q_Ws])), (q_Sc, .inr (4, [.ref q_row])), (q_Pr, .inr (3, [.ref q_Sc, .ref q_list])), (q_Sp, .inr (6, [.ref q_Pr, .ref q_prime, .ref q_times, .int sp_unlike, .long sp_number, .ref q_parts, .int sp_partsKept, .long sp_partsNumber])), (q_Ch, .inr (0, [.ref q_Sp, .ref q_told, .int ch_many, .int ch_kind, .int ch_ending, .int ch_tail, .int ch_round, .long ch_greatest])), (q_row, .inl (cyI, n_row, .inl a_row)), (q_list, .inl (cyI, n_list, .inl a_list)), (q_prime, .inl (cyJ, 12, .inr (.inl a_prime))), (q_times, .inl (cyI, 12, .inl a_times)), (q_told, .inl (cyJ, 201, .inr (.inl a_told)))]
abbrev rm_X11_chain (MC MS : Nat) : Room := { frames := 4, cells := MC, slots := MS, locals := 104 }
theorem hd_X11_chain : yX11_chain.cls ≠ "java/lang/invoke/MethodHandle" ∧ yX11_chain.cls ≠ "java/lang/invoke/VarHandle" ∧ (parseMethodDescriptor yX11_chain.desc).map (fun d => d.parameters.length) = some 3 := by decide +kernel
theorem iw_X11_chain_X11 : ∀ w ∈ wsX110, w ∈ wsX11_chain := List.forall_mem_cons.mpr ⟨List.mem_of_getElem? (i := 92) rfl, List.forall_mem_cons.mpr ⟨List.mem_of_getElem? (i := 93) rfl, List.forall_mem_cons.mpr ⟨List.mem_of_getElem? (i := 94) rfl, List.forall_mem_cons.mpr ⟨List.mem_of_getElem? (i := 95) rfl, List.forall_mem_cons.mpr ⟨List.mem_of_getElem? (i := 96) rfl, List.forall_mem_cons.mpr ⟨List.mem_of_getElem? (i := 97) rfl, List.forall_mem_cons.mpr ⟨List.mem_of_getElem? (i := 98) rfl, List.forall_mem_cons.mpr ⟨List.mem_of_getElem? (i := 99) rfl, List.forall_mem_cons.mpr ⟨List.mem_of_getElem? (i := 100) rfl, fun _ h => absurd h List.not_mem_nil⟩⟩⟩⟩⟩⟩⟩⟩⟩
theorem iw_X11_chain_X4 : ∀ w ∈ wsX40, w ∈ wsX11_chain := List.forall_mem_cons.mpr ⟨List.mem_of_getElem? (i := 111) rfl, fun _ h => absurd h List.not_mem_nil⟩
theorem iw_X11_chain_X3 : ∀ w ∈ wsX30, w ∈ wsX11_chain := List.forall_mem_cons.mpr ⟨List.mem_of_getElem? (i := 109) rfl, List.forall_mem_cons.mpr ⟨List.mem_of_getElem? (i := 110) rfl, fun _ h => absurd h List.not_mem_nil⟩⟩
theorem iw_X11_chain_X6 : ∀ w ∈ wsX60, w ∈ wsX11_chain := List.forall_mem_cons.mpr ⟨List.mem_of_getElem? (i := 112) rfl, List.forall_mem_cons.mpr ⟨List.mem_of_getElem? (i := 113) rfl, List.forall_mem_cons.mpr ⟨List.mem_of_getElem? (i := 114) rfl, List.forall_mem_cons.mpr ⟨List.mem_of_getElem? (i := 115) rfl, List.forall_mem_cons.mpr ⟨List.mem_of_getElem? (i := 116) rfl, List.forall_mem_cons.mpr ⟨List.mem_of_getElem? (i := 117) rfl, List.forall_mem_cons.mpr ⟨List.mem_of_getElem? (i := 118) rfl, List.forall_mem_cons.mpr ⟨List.mem_of_getElem? (i := 119) rfl, fun _ h => absurd h List.not_mem_nil⟩⟩⟩⟩⟩⟩⟩⟩
theorem iw_X11_chain_X0 : ∀ w ∈ wsX00, w ∈ wsX11_chain := List.forall_mem_cons.mpr ⟨List.mem_of_getElem? (i := 101) rfl, List.forall_mem_cons.mpr ⟨List.mem_of_getElem? (i := 102) rfl, List.forall_mem_cons.mpr ⟨List.mem_of_getElem? (i := 103) rfl, List.forall_mem_cons.mpr ⟨List.mem_of_getElem? (i := 104) rfl, List.forall_mem_cons.mpr ⟨List.mem_of_getElem? (i := 105) rfl, List.forall_mem_cons.mpr ⟨List.mem_of_getElem? (i := 106) rfl, List.forall_mem_cons.mpr ⟨List.mem_of_getElem? (i := 107) rfl, List.forall_mem_cons.mpr ⟨List.mem_of_getElem? (i := 108) rfl, fun _ h => absurd h List.not_mem_nil⟩⟩⟩⟩⟩⟩⟩⟩
def f_X11_chain (N : Nat) (MC : Nat) (MS : Nat) (v1 : Int32) (v2 : Int64) (v4 : Int32) (sp_unlike : Int32) (sp_number : Int64) (ch_many : Int32) (ch_kind : Int32) (ch_ending : Int32) (ch_tail : Int32) (ch_round : Int32) (ch_greatest : Int64) (n_row : Nat) (a_row : Nat → Int32) (n_list : Nat) (a_list : Nat → Int32) (a_prime : Nat → Int64) (a_times : Nat → Int32) (a_told : Nat → Int64) : Option (Int64 × Int32 × Int64 × Int32 × Int32 × Int32 × Int32 × Int32 × Int64 × Nat × (Nat → Int32) × Nat × (Nat → Int32) × (Nat → Int64) × (Nat → Int32) × (Nat → Int64)) :=
  if 0 ≤ MC ∧ 0 ≤ MS then
    Option.bind (f_X11_within N v1 (1 : Int32) (3 : Int32)) fun r1z =>
    if r1z = 0 then
      if 0 ≤ MC ∧ 0 ≤ MS then
        some ((-1 : Int64), sp_unlike, sp_number, ch_many, ch_kind, ch_ending, ch_tail, ch_round, ch_greatest, n_row, a_row, n_list, a_list, a_prime, a_times, a_told)
      else
        none
    else
      if 0 ≤ MC ∧ 0 ≤ MS then
        Option.bind (f_X11_isNumber N v2) fun r7z =>
        if r7z = 0 then
          if 0 ≤ MC ∧ 0 ≤ MS then
            some ((-1 : Int64), sp_unlike, sp_number, ch_many, ch_kind, ch_ending, ch_tail, ch_round, ch_greatest, n_row, a_row, n_list, a_list, a_prime, a_times, a_told)
          else
            none
        else
          if 0 ≤ MC ∧ 0 ≤ MS then
            Option.bind (f_X11_within N v4 (0 : Int32) (3 : Int32)) fun r13z =>
            if r13z = 0 then
              if 0 ≤ MC ∧ 0 ≤ MS then
                some ((-1 : Int64), sp_unlike, sp_number, ch_many, ch_kind, ch_ending, ch_tail, ch_round, ch_greatest, n_row, a_row, n_list, a_list, a_prime, a_times, a_told)
              else
                none
            else
              if 0 + (if 0 < nI n_list then 0 else 1 + (if nI n_row = 0 then 1 else 0)) ≤ MC ∧ 0 + (if 0 < nI n_list then 0 else 9592 + (if nI n_row = 0 then 50001 else 0)) ≤ MS then
                Option.bind (f_X3_prepare N (if 0 < nI n_list then 0 else 1 + (if nI n_row = 0 then 1 else 0)) (if 0 < nI n_list then 0 else 9592 + (if nI n_row = 0 then 50001 else 0))  n_row a_row n_list a_list) fun r18z =>
                if 0 + (if 0 < nI n_list then 0 else 1 + (if nI n_row = 0 then 1 else 0)) ≤ MC ∧ 0 + (if 0 < nI n_list then 0 else 9592 + (if nI n_row = 0 then 50001 else 0)) ≤ MS then
                  Option.bind (f_X0_follow N v1 v2 sp_unlike sp_number ch_many ch_kind ch_ending ch_tail ch_round ch_greatest r18z.2.2.1 r18z.2.2.2 a_prime a_times a_told) fun r22z =>
                  if v4 = (0 : Int32) then
                    if 0 + (if 0 < nI n_list then 0 else 1 + (if nI n_row = 0 then 1 else 0)) ≤ MC ∧ 0 + (if 0 < nI n_list then 0 else 9592 + (if nI n_row = 0 then 50001 else 0)) ≤ MS then
                      some (r22z.2.2.2.2.1.toInt64, r22z.1, r22z.2.1, r22z.2.2.1, r22z.2.2.2.1, r22z.2.2.2.2.1, r22z.2.2.2.2.2.1, r22z.2.2.2.2.2.2.1, r22z.2.2.2.2.2.2.2.1, r18z.1, r18z.2.1, r18z.2.2.1, r18z.2.2.2, r22z.2.2.2.2.2.2.2.2.1, r22z.2.2.2.2.2.2.2.2.2.1, r22z.2.2.2.2.2.2.2.2.2.2)
                    else
                      none
                  else
                    if v4 = (1 : Int32) then
                      if 0 + (if 0 < nI n_list then 0 else 1 + (if nI n_row = 0 then 1 else 0)) ≤ MC ∧ 0 + (if 0 < nI n_list then 0 else 9592 + (if nI n_row = 0 then 50001 else 0)) ≤ MS then
                        some (r22z.2.2.2.2.2.1.toInt64, r22z.1, r22z.2.1, r22z.2.2.1, r22z.2.2.2.1, r22z.2.2.2.2.1, r22z.2.2.2.2.2.1, r22z.2.2.2.2.2.2.1, r22z.2.2.2.2.2.2.2.1, r18z.1, r18z.2.1, r18z.2.2.1, r18z.2.2.2, r22z.2.2.2.2.2.2.2.2.1, r22z.2.2.2.2.2.2.2.2.2.1, r22z.2.2.2.2.2.2.2.2.2.2)
                      else
                        none
                    else
                      if v4 = (2 : Int32) then
                        if 0 + (if 0 < nI n_list then 0 else 1 + (if nI n_row = 0 then 1 else 0)) ≤ MC ∧ 0 + (if 0 < nI n_list then 0 else 9592 + (if nI n_row = 0 then 50001 else 0)) ≤ MS then
                          some (r22z.2.2.2.2.2.2.1.toInt64, r22z.1, r22z.2.1, r22z.2.2.1, r22z.2.2.2.1, r22z.2.2.2.2.1, r22z.2.2.2.2.2.1, r22z.2.2.2.2.2.2.1, r22z.2.2.2.2.2.2.2.1, r18z.1, r18z.2.1, r18z.2.2.1, r18z.2.2.2, r22z.2.2.2.2.2.2.2.2.1, r22z.2.2.2.2.2.2.2.2.2.1, r22z.2.2.2.2.2.2.2.2.2.2)
                        else
                          none
                      else
                        if 0 + (if 0 < nI n_list then 0 else 1 + (if nI n_row = 0 then 1 else 0)) ≤ MC ∧ 0 + (if 0 < nI n_list then 0 else 9592 + (if nI n_row = 0 then 50001 else 0)) ≤ MS then
                          some (r22z.2.2.2.2.2.2.2.1, r22z.1, r22z.2.1, r22z.2.2.1, r22z.2.2.2.1, r22z.2.2.2.2.1, r22z.2.2.2.2.2.1, r22z.2.2.2.2.2.2.1, r22z.2.2.2.2.2.2.2.1, r18z.1, r18z.2.1, r18z.2.2.1, r18z.2.2.2, r22z.2.2.2.2.2.2.2.2.1, r22z.2.2.2.2.2.2.2.2.2.1, r22z.2.2.2.2.2.2.2.2.2.2)
                        else
                          none
                else
                  none
              else
                none
          else
            none
      else
        none
  else
    none
set_option maxRecDepth 100000 in
set_option maxHeartbeats 4000000 in
theorem k_X11_chain_0 {p : Program} {l : Launch} {e : Env} {s : State} {m : MethodId} {args : Array Value} {below : List Frame} {meth : Method} {c : Code} {dC : Nat → ClassId} {dI : Nat → Nat → Nat} {cyI cyJ cyZ : ClassId} {A : Nat → Prop} (C0 : mC p s m meth c args cX11_chain (some .long) 5 RX11 wsX11_chain (gK dC dI cyI cyJ cyZ) A) (N : Nat) (MC MS : Nat) (res : Int64 × Int32 × Int64 × Int32 × Int32 × Int32 × Int32 × Int32 × Int64 × Nat × (Nat → Int32) × Nat × (Nat → Int32) × (Nat → Int64) × (Nat → Int32) × (Nat → Int64)) (q_G : Nat) (q_Sc : Nat) (q_Pr : Nat) (q_Sp : Nat) (q_Ch : Nat) (q_prime : Nat) (q_times : Nat) (q_told : Nat) (q_Tb : Nat) (q_Sk : Nat) (q_Wh : Nat) (q_Mk : Nat) (q_Tr : Nat) (q_Ws : Nat) (q_parts : Nat) (v1 : Int32) (v2 : Int64) (v4 : Int32) (sp_unlike : Int32) (sp_number : Int64) (sp_partsKept : Int32) (sp_partsNumber : Int64) (ch_many : Int32) (ch_kind : Int32) (ch_ending : Int32) (ch_tail : Int32) (ch_round : Int32) (ch_greatest : Int64) (n_row : Nat) (a_row : Nat → Int32) (n_list : Nat) (a_list : Nat → Int32) (a_prime : Nat → Int64) (a_times : Nat → Int32) (a_told : Nat → Int64) (q_row : Nat) (q_list : Nat) (h : f_X11_chain N MC MS v1 v2 v4 sp_unlike sp_number ch_many ch_kind ch_ending ch_tail ch_round ch_greatest n_row a_row n_list a_list a_prime a_times a_told = some res) : ∀ (H : Heap) (locs : List Loc), va_P (dC, dI) vwCl (wd45 cyI cyJ cyZ q_G q_Sc q_Pr q_Sp q_Ch q_row q_list q_prime q_times q_told q_Tb q_Sk q_Wh q_Mk q_Tr q_Ws q_parts sp_unlike sp_number sp_partsKept sp_partsNumber ch_many ch_kind ch_ending ch_tail ch_round ch_greatest n_row a_row n_list a_list a_prime a_times a_told) H → va_D A (wd45 cyI cyJ cyZ q_G q_Sc q_Pr q_Sp q_Ch q_row q_list q_prime q_times q_told q_Tb q_Sk q_Wh q_Mk q_Tr q_Ws q_parts sp_unlike sp_number sp_partsKept sp_partsNumber ch_many ch_kind ch_ending ch_tail ch_round ch_greatest n_row a_row n_list a_list a_prime a_times a_told) → va_S A s.heap H locs → ∀ (ls : Array Slot), lv_has ls 5 [(0, .ref q_G), (1, .int v1), (2, .long v2), (4, .int v4)] → W p l e (headSpec wsX11_chain (rm_X11_chain MC MS)).room s m args below meth c H locs 0 0 (MQ below (va_Ql (fun (r : Int64) (_ : Nat × Nat) => r = res.1) (bW dC dI (fun (u : Nat × Nat) => (wd45 cyI cyJ cyZ q_G q_Sc q_Pr q_Sp q_Ch u.1 u.2 q_prime q_times q_told q_Tb q_Sk q_Wh q_Mk q_Tr q_Ws q_parts res.2.1 res.2.2.1 sp_partsKept sp_partsNumber res.2.2.2.1 res.2.2.2.2.1 res.2.2.2.2.2.1 res.2.2.2.2.2.2.1 res.2.2.2.2.2.2.2.1 res.2.2.2.2.2.2.2.2.1 res.2.2.2.2.2.2.2.2.2.1 res.2.2.2.2.2.2.2.2.2.2.1 res.2.2.2.2.2.2.2.2.2.2.2.1 res.2.2.2.2.2.2.2.2.2.2.2.2.1 res.2.2.2.2.2.2.2.2.2.2.2.2.2.1 res.2.2.2.2.2.2.2.2.2.2.2.2.2.2.1 res.2.2.2.2.2.2.2.2.2.2.2.2.2.2.2)) A) A) args s MC MS A) (F0 m 0 ls []) := by
  obtain ⟨hx, hb, hr, hml, hown, hts, hlocks, hG, hA⟩ := id C0
  have hK := hG.1
  intro H locs hP hD hS ls hl
  unfold f_X11_chain at h
  refine lv_iload_n hx hb dX11_chain_0 rfl (lv_at hl 1 rfl) ?_
  refine lv_iconst (v := (1 : Int32)) hx hb dX11_chain_1 (by decide) ?_
  refine lv_iconst (v := (3 : Int32)) hx hb dX11_chain_2 (by decide) ?_
  obtain ⟨b2z, h⟩ := xa h
  obtain ⟨r1z, hr1z, h⟩ := xb_at h
  have hPc := hP.sub (ws' := (wd37 cyI cyJ cyZ)) [] rfl
  have hDc := hD.sub (ws' := (wd37 cyI cyJ cyZ)) [] (by decide) rfl
  refine cal_i [] [0, 1, 2, 3, 4, 5, 6, 7, 8, 9] (va_runS (As := [.int v1, .int (1 : Int32), .int (3 : Int32)]) (rest := []) ⟨hx, hb, hml, hown, hts⟩ (c_X11_within l dC dI cyI cyJ cyZ N r1z H.size  v1 (1 : Int32) (3 : Int32)  hr1z) (va_cwS 3 hts gX11_chain_X11_within rfl rfl rfl hd_X11_within ⟨Nat.le_of_ble_eq_true rfl, Nat.le_of_ble_eq_true rfl⟩) ⟨pC.blind, pC.pre hPc hG hDc⟩ rfl rfl hl.1 rfl (lv_room (Nat.le_of_ble_eq_true rfl)) dX11_chain_3 ⟨b2z.1, b2z.2⟩) hP hD hS hA rfl rfl rfl (by decide) (fun x4z u3z H locs hw hP hD hS => ?_)
  obtain rfl := hw.symm
  have hP : va_P (dC, dI) vwCl (wd45 cyI cyJ cyZ q_G q_Sc q_Pr q_Sp q_Ch q_row q_list q_prime q_times q_told q_Tb q_Sk q_Wh q_Mk q_Tr q_Ws q_parts sp_unlike sp_number sp_partsKept sp_partsNumber ch_many ch_kind ch_ending ch_tail ch_round ch_greatest n_row a_row n_list a_list a_prime a_times a_told) H := hP.sub [0, 1, 2, 3, 4, 5, 6, 7, 8, 9] rfl
  have hD : va_D A (wd45 cyI cyJ cyZ q_G q_Sc q_Pr q_Sp q_Ch q_row q_list q_prime q_times q_told q_Tb q_Sk q_Wh q_Mk q_Tr q_Ws q_parts sp_unlike sp_number sp_partsKept sp_partsNumber ch_many ch_kind ch_ending ch_tail ch_round ch_greatest n_row a_row n_list a_list a_prime a_times a_told) := hD.sub [0, 1, 2, 3, 4, 5, 6, 7, 8, 9] (by decide) rfl
  refine lv_if_eq (tgt := 26) hx hb dX11_chain_6 (by decide) (fun c5z => ?_) (fun c5z => ?_)
  · have h := xt h c5z
    refine lv_ldc2 (v := (-1 : Int64)) hx hb hown (hts (.constantLong RX11 99 (-1)) (List.mem_of_getElem? (i := 1) rfl)) dX11_chain_26 ?_
    obtain ⟨b6z, h⟩ := xa h
    refine W.widen (k := MC) (n := MS) b6z.1 b6z.2 ?_
    obtain rfl := Option.some.inj h
    exact W.lret (v := (-1 : Int64)) hx hb hr (fun t ht hW => ⟨⟨_, (q_row, q_list), rfl, rfl, by rw [ht]; exact hP, hD⟩, hS.F ht⟩) hS.2.2 dX11_chain_29 hlocks
  · have h := xf h c5z
    refine lv_lload_n hx hb dX11_chain_9 rfl (lv_at hl 2 rfl) ?_
    obtain ⟨b8z, h⟩ := xa h
    obtain ⟨r7z, hr7z, h⟩ := xb_at h
    have hPc := hP.sub (ws' := (wd37 cyI cyJ cyZ)) [] rfl
    have hDc := hD.sub (ws' := (wd37 cyI cyJ cyZ)) [] (by decide) rfl
    refine cal_i [] [0, 1, 2, 3, 4, 5, 6, 7, 8, 9] (va_runS (As := [.long v2]) (rest := []) ⟨hx, hb, hml, hown, hts⟩ (c_X11_isNumber l dC dI cyI cyJ cyZ N r7z H.size  v2  hr7z) (va_cwS 1 hts gX11_chain_X11_isNumber rfl rfl rfl hd_X11_isNumber ⟨Nat.le_of_ble_eq_true rfl, Nat.le_of_ble_eq_true rfl⟩) ⟨pC.blind, pC.pre hPc hG hDc⟩ rfl rfl hl.1 rfl (lv_room (Nat.le_of_ble_eq_true rfl)) dX11_chain_10 ⟨b8z.1, b8z.2⟩) hP hD hS hA rfl rfl rfl (by decide) (fun x10z u9z H locs hw hP hD hS => ?_)
    obtain rfl := hw.symm
    have hP : va_P (dC, dI) vwCl (wd45 cyI cyJ cyZ q_G q_Sc q_Pr q_Sp q_Ch q_row q_list q_prime q_times q_told q_Tb q_Sk q_Wh q_Mk q_Tr q_Ws q_parts sp_unlike sp_number sp_partsKept sp_partsNumber ch_many ch_kind ch_ending ch_tail ch_round ch_greatest n_row a_row n_list a_list a_prime a_times a_told) H := hP.sub [0, 1, 2, 3, 4, 5, 6, 7, 8, 9] rfl
    have hD : va_D A (wd45 cyI cyJ cyZ q_G q_Sc q_Pr q_Sp q_Ch q_row q_list q_prime q_times q_told q_Tb q_Sk q_Wh q_Mk q_Tr q_Ws q_parts sp_unlike sp_number sp_partsKept sp_partsNumber ch_many ch_kind ch_ending ch_tail ch_round ch_greatest n_row a_row n_list a_list a_prime a_times a_told) := hD.sub [0, 1, 2, 3, 4, 5, 6, 7, 8, 9] (by decide) rfl
    refine lv_if_eq (tgt := 26) hx hb dX11_chain_13 (by decide) (fun c11z => ?_) (fun c11z => ?_)
    · have h := xt h c11z
      refine lv_ldc2 (v := (-1 : Int64)) hx hb hown (hts (.constantLong RX11 99 (-1)) (List.mem_of_getElem? (i := 1) rfl)) dX11_chain_26 ?_
      obtain ⟨b12z, h⟩ := xa h
      refine W.widen (k := MC) (n := MS) b12z.1 b12z.2 ?_
      obtain rfl := Option.some.inj h
      exact W.lret (v := (-1 : Int64)) hx hb hr (fun t ht hW => ⟨⟨_, (q_row, q_list), rfl, rfl, by rw [ht]; exact hP, hD⟩, hS.F ht⟩) hS.2.2 dX11_chain_29 hlocks
    · have h := xf h c11z
      refine lv_iload hx hb dX11_chain_16 (lv_at hl 3 rfl) ?_
      refine lv_iconst (v := (0 : Int32)) hx hb dX11_chain_18 (by decide) ?_
      refine lv_iconst (v := (3 : Int32)) hx hb dX11_chain_19 (by decide) ?_
      obtain ⟨b14z, h⟩ := xa h
      obtain ⟨r13z, hr13z, h⟩ := xb_at h
      have hPc := hP.sub (ws' := (wd37 cyI cyJ cyZ)) [] rfl
      have hDc := hD.sub (ws' := (wd37 cyI cyJ cyZ)) [] (by decide) rfl
      refine cal_i [] [0, 1, 2, 3, 4, 5, 6, 7, 8, 9] (va_runS (As := [.int v4, .int (0 : Int32), .int (3 : Int32)]) (rest := []) ⟨hx, hb, hml, hown, hts⟩ (c_X11_within l dC dI cyI cyJ cyZ N r13z H.size  v4 (0 : Int32) (3 : Int32)  hr13z) (va_cwS 3 hts gX11_chain_X11_within rfl rfl rfl hd_X11_within ⟨Nat.le_of_ble_eq_true rfl, Nat.le_of_ble_eq_true rfl⟩) ⟨pC.blind, pC.pre hPc hG hDc⟩ rfl rfl hl.1 rfl (lv_room (Nat.le_of_ble_eq_true rfl)) dX11_chain_20 ⟨b14z.1, b14z.2⟩) hP hD hS hA rfl rfl rfl (by decide) (fun x16z u15z H locs hw hP hD hS => ?_)
      obtain rfl := hw.symm
      have hP : va_P (dC, dI) vwCl (wd45 cyI cyJ cyZ q_G q_Sc q_Pr q_Sp q_Ch q_row q_list q_prime q_times q_told q_Tb q_Sk q_Wh q_Mk q_Tr q_Ws q_parts sp_unlike sp_number sp_partsKept sp_partsNumber ch_many ch_kind ch_ending ch_tail ch_round ch_greatest n_row a_row n_list a_list a_prime a_times a_told) H := hP.sub [0, 1, 2, 3, 4, 5, 6, 7, 8, 9] rfl
      have hD : va_D A (wd45 cyI cyJ cyZ q_G q_Sc q_Pr q_Sp q_Ch q_row q_list q_prime q_times q_told q_Tb q_Sk q_Wh q_Mk q_Tr q_Ws q_parts sp_unlike sp_number sp_partsKept sp_partsNumber ch_many ch_kind ch_ending ch_tail ch_round ch_greatest n_row a_row n_list a_list a_prime a_times a_told) := hD.sub [0, 1, 2, 3, 4, 5, 6, 7, 8, 9] (by decide) rfl
      refine lv_if_ne (tgt := 30) hx hb dX11_chain_23 (by decide) (fun c17z => ?_) (fun c17z => ?_)
      · have h := xf h c17z
        refine lv_aload_n hx hb dX11_chain_30 rfl (lv_at hl 0 rfl) ?_
        refine va_get (D := (dC, dI)) (ci := 11) (v := .ref q_Pr) (C := RX11) (T := TX11) (N := 9) hx hb hts iw_X11_chain_X11 hown hK hP 0 rfl rfl 0 (by decide) (hts (.fieldLink RX11 15 "GoesInto" "primes" "LGoesInto$Primes;") (List.mem_of_getElem? (i := 2) rfl)) (fun _ h9 => h9) rfl dX11_chain_31 ?_
        obtain ⟨b19z, h⟩ := xa h
        obtain ⟨r18z, hr18z, h⟩ := xb_at h
        have hPc := hP.sub (ws' := (wd11 cyI cyJ cyZ q_Sc q_Pr q_row q_list n_row a_row n_list a_list)) [1, 2, 5, 6] rfl
        have hDc := hD.sub (ws' := (wd11 cyI cyJ cyZ q_Sc q_Pr q_row q_list n_row a_row n_list a_list)) [1, 2, 5, 6] (by decide) rfl
        refine cal_v [1, 2, 5, 6] [0, 3, 4, 7, 8, 9] (va_runV (As := []) (rest := []) ⟨hx, hb, hml, hown, hts⟩ (c_X3_prepare l dC dI cyI cyJ cyZ N (if 0 < nI n_list then 0 else 1 + (if nI n_row = 0 then 1 else 0)) (if 0 < nI n_list then 0 else 9592 + (if nI n_row = 0 then 50001 else 0)) r18z H.size q_Sc q_Pr q_row q_list  n_row a_row n_list a_list hr18z) (cwV 0 hts gX11_chain_X3_prepare rfl rfl rfl ⟨rfl, hd_X3_prepare⟩ ⟨Nat.le_of_ble_eq_true rfl, Nat.le_of_ble_eq_true rfl⟩) ⟨pC.blind, va_recv hK hPc (ci := 3) (q0 := 1) rfl rfl, pC.pre hPc hG hDc⟩ rfl rfl hl.1 rfl (lv_room (Nat.le_of_ble_eq_true rfl)) dX11_chain_34 ⟨b19z.1, b19z.2⟩) hP hD hS hA rfl rfl rfl (by decide) (fun u20z H locs _ hP hD hS => ?_)
        have hP : va_P (dC, dI) vwCl (wd45 cyI cyJ cyZ q_G q_Sc q_Pr q_Sp q_Ch u20z.1 u20z.2 q_prime q_times q_told q_Tb q_Sk q_Wh q_Mk q_Tr q_Ws q_parts sp_unlike sp_number sp_partsKept sp_partsNumber ch_many ch_kind ch_ending ch_tail ch_round ch_greatest r18z.1 r18z.2.1 r18z.2.2.1 r18z.2.2.2 a_prime a_times a_told) H := hP.sub [0, 6, 7, 1, 2, 8, 9, 3, 4, 5] rfl
        have hD : va_D A (wd45 cyI cyJ cyZ q_G q_Sc q_Pr q_Sp q_Ch u20z.1 u20z.2 q_prime q_times q_told q_Tb q_Sk q_Wh q_Mk q_Tr q_Ws q_parts sp_unlike sp_number sp_partsKept sp_partsNumber ch_many ch_kind ch_ending ch_tail ch_round ch_greatest r18z.1 r18z.2.1 r18z.2.2.1 r18z.2.2.2 a_prime a_times a_told) := hD.sub [0, 6, 7, 1, 2, 8, 9, 3, 4, 5] (by decide) rfl
        refine lv_aload_n hx hb dX11_chain_37 rfl (lv_at hl 0 rfl) ?_
        refine va_get (D := (dC, dI)) (ci := 11) (v := .ref q_Ch) (C := RX11) (T := TX11) (N := 9) hx hb hts iw_X11_chain_X11 hown hK hP 0 rfl rfl 2 (by decide) (hts (.fieldLink RX11 35 "GoesInto" "lastChain" "LGoesInto$Chain;") (List.mem_of_getElem? (i := 3) rfl)) (fun _ h9 => h9) rfl dX11_chain_38 ?_
        refine lv_iload_n hx hb dX11_chain_41 rfl (lv_at hl 1 rfl) ?_
        refine lv_lload_n hx hb dX11_chain_42 rfl (lv_at hl 2 rfl) ?_
        obtain ⟨b23z, h⟩ := xa h
        obtain ⟨r22z, hr22z, h⟩ := xb_at h
        have hPc := hP.sub (ws' := (wd8 cyI cyJ cyZ q_Pr q_Sp q_Ch u20z.2 q_prime q_times q_told q_Sc q_parts sp_unlike sp_number sp_partsKept sp_partsNumber ch_many ch_kind ch_ending ch_tail ch_round ch_greatest r18z.2.2.1 r18z.2.2.2 a_prime a_times a_told)) [2, 3, 4, 6, 7, 8, 9] rfl
        have hDc := hD.sub (ws' := (wd8 cyI cyJ cyZ q_Pr q_Sp q_Ch u20z.2 q_prime q_times q_told q_Sc q_parts sp_unlike sp_number sp_partsKept sp_partsNumber ch_many ch_kind ch_ending ch_tail ch_round ch_greatest r18z.2.2.1 r18z.2.2.2 a_prime a_times a_told)) [2, 3, 4, 6, 7, 8, 9] (by decide) rfl
        refine cal_v [2, 3, 4, 6, 7, 8, 9] [0, 1, 5] (va_runV (As := [.int v1, .long v2]) (rest := []) ⟨hx, hb, hml, hown, hts⟩ (c_X0_follow l dC dI cyI cyJ cyZ N r22z H.size q_Pr q_Sp q_Ch u20z.2 q_prime q_times q_told q_Sc q_parts v1 v2 sp_unlike sp_number sp_partsKept sp_partsNumber ch_many ch_kind ch_ending ch_tail ch_round ch_greatest r18z.2.2.1 r18z.2.2.2 a_prime a_times a_told hr22z) (cwV 2 hts gX11_chain_X0_follow rfl rfl rfl ⟨rfl, hd_X0_follow⟩ ⟨Nat.le_of_ble_eq_true rfl, Nat.le_of_ble_eq_true rfl⟩) ⟨pC.blind, va_recv hK hPc (ci := 0) (q0 := 2) rfl rfl, pC.pre hPc hG hDc⟩ rfl rfl hl.1 rfl (lv_room (Nat.le_of_ble_eq_true rfl)) dX11_chain_43 ⟨b23z.1, b23z.2⟩) hP hD hS hA rfl rfl rfl (by decide) (fun u24z H locs _ hP hD hS => ?_)
        have hP : va_P (dC, dI) vwCl (wd45 cyI cyJ cyZ q_G q_Sc q_Pr q_Sp q_Ch u20z.1 u20z.2 q_prime q_times q_told q_Tb q_Sk q_Wh q_Mk q_Tr q_Ws q_parts r22z.1 r22z.2.1 sp_partsKept sp_partsNumber r22z.2.2.1 r22z.2.2.2.1 r22z.2.2.2.2.1 r22z.2.2.2.2.2.1 r22z.2.2.2.2.2.2.1 r22z.2.2.2.2.2.2.2.1 r18z.1 r18z.2.1 r18z.2.2.1 r18z.2.2.2 r22z.2.2.2.2.2.2.2.2.1 r22z.2.2.2.2.2.2.2.2.2.1 r22z.2.2.2.2.2.2.2.2.2.2) H := hP.sub [0, 1, 3, 4, 5, 2, 6, 7, 8, 9] rfl
        have hD : va_D A (wd45 cyI cyJ cyZ q_G q_Sc q_Pr q_Sp q_Ch u20z.1 u20z.2 q_prime q_times q_told q_Tb q_Sk q_Wh q_Mk q_Tr q_Ws q_parts r22z.1 r22z.2.1 sp_partsKept sp_partsNumber r22z.2.2.1 r22z.2.2.2.1 r22z.2.2.2.2.1 r22z.2.2.2.2.2.1 r22z.2.2.2.2.2.2.1 r22z.2.2.2.2.2.2.2.1 r18z.1 r18z.2.1 r18z.2.2.1 r18z.2.2.2 r22z.2.2.2.2.2.2.2.2.1 r22z.2.2.2.2.2.2.2.2.2.1 r22z.2.2.2.2.2.2.2.2.2.2) := hD.sub [0, 1, 3, 4, 5, 2, 6, 7, 8, 9] (by decide) rfl
        refine lv_iload hx hb dX11_chain_46 (lv_at hl 3 rfl) ?_
        rcases Decidable.em (v4 = (0 : Int32)) with c26z | c26z
        · have h := xt h c26z
          refine lv_tableIn (tgt := 76) (off := 28) hx hb dX11_chain_48 (by rw [c26z]; decide) (by rw [c26z]; decide) (by rw [c26z]; decide +kernel) (by decide) ?_
          refine lv_aload_n hx hb dX11_chain_76 rfl (lv_at hl 0 rfl) ?_
          refine va_get (D := (dC, dI)) (ci := 11) (v := .ref q_Ch) (C := RX11) (T := TX11) (N := 9) hx hb hts iw_X11_chain_X11 hown hK hP 0 rfl rfl 2 (by decide) (hts (.fieldLink RX11 35 "GoesInto" "lastChain" "LGoesInto$Chain;") (List.mem_of_getElem? (i := 3) rfl)) (fun _ h9 => h9) rfl dX11_chain_77 ?_
          refine va_getN (D := (dC, dI)) (ci := 0) (v := .int r22z.2.2.2.2.1) (C := RX0) (T := TX0) (N := 8) (host := "GoesInto") hx hb hts iw_X11_chain_X0 hown hK hP 4 rfl rfl 4 (by decide) (va_Nw.use rfl hG.2.1) (fun _ h9 => h9) rfl dX11_chain_80 ?_
          refine lv_i2l (v := r22z.2.2.2.2.1.toInt64) hx hb dX11_chain_83 rfl ?_
          obtain ⟨b27z, h⟩ := xa h
          refine W.widen (k := MC) (n := MS) b27z.1 b27z.2 ?_
          obtain rfl := Option.some.inj h
          exact W.lret (v := r22z.2.2.2.2.1.toInt64) hx hb hr (fun t ht hW => ⟨⟨_, (u20z.1, u20z.2), rfl, rfl, by rw [ht]; exact hP, hD⟩, hS.F ht⟩) hS.2.2 dX11_chain_84 hlocks
        · have h := xf h c26z
          rcases Decidable.em (v4 = (1 : Int32)) with c28z | c28z
          · have h := xt h c28z
            refine lv_tableIn (tgt := 85) (off := 37) hx hb dX11_chain_48 (by rw [c28z]; decide) (by rw [c28z]; decide) (by rw [c28z]; decide +kernel) (by decide) ?_
            refine lv_aload_n hx hb dX11_chain_85 rfl (lv_at hl 0 rfl) ?_
            refine va_get (D := (dC, dI)) (ci := 11) (v := .ref q_Ch) (C := RX11) (T := TX11) (N := 9) hx hb hts iw_X11_chain_X11 hown hK hP 0 rfl rfl 2 (by decide) (hts (.fieldLink RX11 35 "GoesInto" "lastChain" "LGoesInto$Chain;") (List.mem_of_getElem? (i := 3) rfl)) (fun _ h9 => h9) rfl dX11_chain_86 ?_
            refine va_getN (D := (dC, dI)) (ci := 0) (v := .int r22z.2.2.2.2.2.1) (C := RX0) (T := TX0) (N := 8) (host := "GoesInto") hx hb hts iw_X11_chain_X0 hown hK hP 4 rfl rfl 5 (by decide) (va_Nw.use rfl hG.2.2.1) (fun _ h9 => h9) rfl dX11_chain_89 ?_
            refine lv_i2l (v := r22z.2.2.2.2.2.1.toInt64) hx hb dX11_chain_92 rfl ?_
            obtain ⟨b29z, h⟩ := xa h
            refine W.widen (k := MC) (n := MS) b29z.1 b29z.2 ?_
            obtain rfl := Option.some.inj h
            exact W.lret (v := r22z.2.2.2.2.2.1.toInt64) hx hb hr (fun t ht hW => ⟨⟨_, (u20z.1, u20z.2), rfl, rfl, by rw [ht]; exact hP, hD⟩, hS.F ht⟩) hS.2.2 dX11_chain_93 hlocks
          · have h := xf h c28z
            rcases Decidable.em (v4 = (2 : Int32)) with c30z | c30z
            · have h := xt h c30z
              refine lv_tableIn (tgt := 94) (off := 46) hx hb dX11_chain_48 (by rw [c30z]; decide) (by rw [c30z]; decide) (by rw [c30z]; decide +kernel) (by decide) ?_
              refine lv_aload_n hx hb dX11_chain_94 rfl (lv_at hl 0 rfl) ?_
              refine va_get (D := (dC, dI)) (ci := 11) (v := .ref q_Ch) (C := RX11) (T := TX11) (N := 9) hx hb hts iw_X11_chain_X11 hown hK hP 0 rfl rfl 2 (by decide) (hts (.fieldLink RX11 35 "GoesInto" "lastChain" "LGoesInto$Chain;") (List.mem_of_getElem? (i := 3) rfl)) (fun _ h9 => h9) rfl dX11_chain_95 ?_
              refine va_getN (D := (dC, dI)) (ci := 0) (v := .int r22z.2.2.2.2.2.2.1) (C := RX0) (T := TX0) (N := 8) (host := "GoesInto") hx hb hts iw_X11_chain_X0 hown hK hP 4 rfl rfl 6 (by decide) (va_Nw.use rfl hG.2.2.2.1) (fun _ h9 => h9) rfl dX11_chain_98 ?_
              refine lv_i2l (v := r22z.2.2.2.2.2.2.1.toInt64) hx hb dX11_chain_101 rfl ?_
              obtain ⟨b31z, h⟩ := xa h
              refine W.widen (k := MC) (n := MS) b31z.1 b31z.2 ?_
              obtain rfl := Option.some.inj h
              exact W.lret (v := r22z.2.2.2.2.2.2.1.toInt64) hx hb hr (fun t ht hW => ⟨⟨_, (u20z.1, u20z.2), rfl, rfl, by rw [ht]; exact hP, hD⟩, hS.F ht⟩) hS.2.2 dX11_chain_102 hlocks
            · have h := xf h c30z
              have tc26z := lv_neT (a := 0) c26z (by decide)
              have tc28z := lv_neT (a := 1) c28z (by decide)
              have tc30z := lv_neT (a := 2) c30z (by decide)
              refine lv_tableOut (tgt := 103) hx hb dX11_chain_48 (by omega) (by decide) ?_
              refine lv_aload_n hx hb dX11_chain_103 rfl (lv_at hl 0 rfl) ?_
              refine va_get (D := (dC, dI)) (ci := 11) (v := .ref q_Ch) (C := RX11) (T := TX11) (N := 9) hx hb hts iw_X11_chain_X11 hown hK hP 0 rfl rfl 2 (by decide) (hts (.fieldLink RX11 35 "GoesInto" "lastChain" "LGoesInto$Chain;") (List.mem_of_getElem? (i := 3) rfl)) (fun _ h9 => h9) rfl dX11_chain_104 ?_
              refine va_getN (D := (dC, dI)) (ci := 0) (v := .long r22z.2.2.2.2.2.2.2.1) (C := RX0) (T := TX0) (N := 8) (host := "GoesInto") hx hb hts iw_X11_chain_X0 hown hK hP 4 rfl rfl 7 (by decide) (va_Nw.use rfl hG.2.2.2.2.1) (fun _ h9 => h9) rfl dX11_chain_107 ?_
              obtain ⟨b32z, h⟩ := xa h
              refine W.widen (k := MC) (n := MS) b32z.1 b32z.2 ?_
              obtain rfl := Option.some.inj h
              exact W.lret (v := r22z.2.2.2.2.2.2.2.1) hx hb hr (fun t ht hW => ⟨⟨_, (u20z.1, u20z.2), rfl, rfl, by rw [ht]; exact hP, hD⟩, hS.F ht⟩) hS.2.2 dX11_chain_110 hlocks
      · have h := xt h c17z
        refine lv_ldc2 (v := (-1 : Int64)) hx hb hown (hts (.constantLong RX11 99 (-1)) (List.mem_of_getElem? (i := 1) rfl)) dX11_chain_26 ?_
        obtain ⟨b33z, h⟩ := xa h
        refine W.widen (k := MC) (n := MS) b33z.1 b33z.2 ?_
        obtain rfl := Option.some.inj h
        exact W.lret (v := (-1 : Int64)) hx hb hr (fun t ht hW => ⟨⟨_, (q_row, q_list), rfl, rfl, by rw [ht]; exact hP, hD⟩, hS.F ht⟩) hS.2.2 dX11_chain_29 hlocks
set_option maxRecDepth 100000 in
set_option maxHeartbeats 4000000 in
theorem c_X11_chain (l : Launch) (dC : Nat → ClassId) (dI : Nat → Nat → Nat) (cyI cyJ cyZ : ClassId) (N : Nat) (MC MS : Nat) (res : Int64 × Int32 × Int64 × Int32 × Int32 × Int32 × Int32 × Int32 × Int64 × Nat × (Nat → Int32) × Nat × (Nat → Int32) × (Nat → Int64) × (Nat → Int32) × (Nat → Int64)) (sz : Nat) (q_G : Nat) (q_Sc : Nat) (q_Pr : Nat) (q_Sp : Nat) (q_Ch : Nat) (q_row : Nat) (q_list : Nat) (q_prime : Nat) (q_times : Nat) (q_told : Nat) (q_Tb : Nat) (q_Sk : Nat) (q_Wh : Nat) (q_Mk : Nat) (q_Tr : Nat) (q_Ws : Nat) (q_parts : Nat) (v1 : Int32) (v2 : Int64) (v4 : Int32) (sp_unlike : Int32) (sp_number : Int64) (sp_partsKept : Int32) (sp_partsNumber : Int64) (ch_many : Int32) (ch_kind : Int32) (ch_ending : Int32) (ch_tail : Int32) (ch_round : Int32) (ch_greatest : Int64) (n_row : Nat) (a_row : Nat → Int32) (n_list : Nat) (a_list : Nat → Int32) (a_prime : Nat → Int64) (a_times : Nat → Int32) (a_told : Nat → Int64) (h : f_X11_chain N MC MS v1 v2 v4 sp_unlike sp_number ch_many ch_kind ch_ending ch_tail ch_round ch_greatest n_row a_row n_list a_list a_prime a_times a_told = some res) : Met l yX11_chain wsX11_chain (rm_X11_chain MC MS) (pC dC dI cyI cyJ cyZ [.ref q_G, .int v1, .long v2, .int v4] sz (wd45 cyI cyJ cyZ q_G q_Sc q_Pr q_Sp q_Ch q_row q_list q_prime q_times q_told q_Tb q_Sk q_Wh q_Mk q_Tr q_Ws q_parts sp_unlike sp_number sp_partsKept sp_partsNumber ch_many ch_kind ch_ending ch_tail ch_round ch_greatest n_row a_row n_list a_list a_prime a_times a_told)) (va_Ql (fun (r : Int64) (_ : Nat × Nat) => r = res.1) (bW dC dI (fun (u : Nat × Nat) => (wd45 cyI cyJ cyZ q_G q_Sc q_Pr q_Sp q_Ch u.1 u.2 q_prime q_times q_told q_Tb q_Sk q_Wh q_Mk q_Tr q_Ws q_parts res.2.1 res.2.2.1 sp_partsKept sp_partsNumber res.2.2.2.1 res.2.2.2.2.1 res.2.2.2.2.2.1 res.2.2.2.2.2.2.1 res.2.2.2.2.2.2.2.1 res.2.2.2.2.2.2.2.2.1 res.2.2.2.2.2.2.2.2.2.1 res.2.2.2.2.2.2.2.2.2.2.1 res.2.2.2.2.2.2.2.2.2.2.2.1 res.2.2.2.2.2.2.2.2.2.2.2.2.1 res.2.2.2.2.2.2.2.2.2.2.2.2.2.1 res.2.2.2.2.2.2.2.2.2.2.2.2.2.2.1 res.2.2.2.2.2.2.2.2.2.2.2.2.2.2.2)) (va_A (wd45 cyI cyJ cyZ q_G q_Sc q_Pr q_Sp q_Ch q_row q_list q_prime q_times q_told q_Tb q_Sk q_Wh q_Mk q_Tr q_Ws q_parts sp_unlike sp_number sp_partsKept sp_partsNumber ch_many ch_kind ch_ending ch_tail ch_round ch_greatest n_row a_row n_list a_list a_prime a_times a_told) sz)) (va_A (wd45 cyI cyJ cyZ q_G q_Sc q_Pr q_Sp q_Ch q_row q_list q_prime q_times q_told q_Tb q_Sk q_Wh q_Mk q_Tr q_Ws q_parts sp_unlike sp_number sp_partsKept sp_partsNumber ch_many ch_kind ch_ending ch_tail ch_round ch_greatest n_row a_row n_list a_list a_prime a_times a_told) sz)) MC MS (va_A (wd45 cyI cyJ cyZ q_G q_Sc q_Pr q_Sp q_Ch q_row q_list q_prime q_times q_told q_Tb q_Sk q_Wh q_Mk q_Tr q_Ws q_parts sp_unlike sp_number sp_partsKept sp_partsNumber ch_many ch_kind ch_ending ch_tail ch_round ch_greatest n_row a_row n_list a_list a_prime a_times a_told) sz) := by
  refine Met.ofW (cc := cX11_chain) (maxL := 5) (ret := (some .long)) (by decide) rfl ?_
  intro p e s m args below meth c s₁ B hml hv
  obtain ⟨rfl, hsz, hP, hG, hD0⟩ := hv
  have hx := B.exec
  have hb := B.bytes
  have hr := B.returns
  have hts := atoms_spec (ws := wsX11_chain) B.pre
  have hown : s.vm.findClass RX11 = some m.cls := findClass_of_methodNamed B.named
  have hlocks := B.notSynchronized
  subst hsz
  have hD := hD0.self (sz := s.heap.size)
  generalize hAe : va_A (wd45 cyI cyJ cyZ q_G q_Sc q_Pr q_Sp q_Ch q_row q_list q_prime q_times q_told q_Tb q_Sk q_Wh q_Mk q_Tr q_Ws q_parts sp_unlike sp_number sp_partsKept sp_partsNumber ch_many ch_kind ch_ending ch_tail ch_round ch_greatest n_row a_row n_list a_list a_prime a_times a_told) s.heap.size = A at hD ⊢
  have hA : ∀ q : Nat, s.heap.size ≤ q → A q := fun q h => by rw [← hAe]; exact Or.inr h
  have hS : va_S A s.heap s.heap [] := va_S.rf
  have hl := lv_entry ([.ref q_G, .int v1, .long v2, .int v4]) (n := 5) (Nat.le_of_ble_eq_true rfl)
  rw [lg_entry_eq]
  generalize (lg_sl ([.ref q_G, .int v1, .long v2, .int v4]) ++ List.replicate (5 - (lg_sl ([.ref q_G, .int v1, .long v2, .int v4])).length) Slot.unset).toArray = ls at hl ⊢
  have hl : lv_has ls 5 [(0, .ref q_G), (1, .int v1), (2, .long v2), (4, .int v4)] := hl
  exact k_X11_chain_0 ⟨hx, hb, hr, hml, hown, hts, hlocks, hG, hA⟩ N MC MS res q_G q_Sc q_Pr q_Sp q_Ch q_prime q_times q_told q_Tb q_Sk q_Wh q_Mk q_Tr q_Ws q_parts v1 v2 v4 sp_unlike sp_number sp_partsKept sp_partsNumber ch_many ch_kind ch_ending ch_tail ch_round ch_greatest n_row a_row n_list a_list a_prime a_times a_told q_row q_list h _ _ hP hD hS _ hl
abbrev rm_X11_step (MC MS : Nat) : Room := { frames := 4, cells := MC, slots := MS, locals := 104 }
theorem hd_X11_step : yX11_step.cls ≠ "java/lang/invoke/MethodHandle" ∧ yX11_step.cls ≠ "java/lang/invoke/VarHandle" ∧ (parseMethodDescriptor yX11_step.desc).map (fun d => d.parameters.length) = some 3 := by decide +kernel
theorem iw_X11_step_X11 : ∀ w ∈ wsX110, w ∈ wsX11_step := List.forall_mem_cons.mpr ⟨List.mem_of_getElem? (i := 97) rfl, List.forall_mem_cons.mpr ⟨List.mem_of_getElem? (i := 98) rfl, List.forall_mem_cons.mpr ⟨List.mem_of_getElem? (i := 99) rfl, List.forall_mem_cons.mpr ⟨List.mem_of_getElem? (i := 100) rfl, List.forall_mem_cons.mpr ⟨List.mem_of_getElem? (i := 101) rfl, List.forall_mem_cons.mpr ⟨List.mem_of_getElem? (i := 102) rfl, List.forall_mem_cons.mpr ⟨List.mem_of_getElem? (i := 103) rfl, List.forall_mem_cons.mpr ⟨List.mem_of_getElem? (i := 104) rfl, List.forall_mem_cons.mpr ⟨List.mem_of_getElem? (i := 105) rfl, fun _ h => absurd h List.not_mem_nil⟩⟩⟩⟩⟩⟩⟩⟩⟩
theorem iw_X11_step_X4 : ∀ w ∈ wsX40, w ∈ wsX11_step := List.forall_mem_cons.mpr ⟨List.mem_of_getElem? (i := 108) rfl, fun _ h => absurd h List.not_mem_nil⟩
theorem iw_X11_step_X3 : ∀ w ∈ wsX30, w ∈ wsX11_step := List.forall_mem_cons.mpr ⟨List.mem_of_getElem? (i := 106) rfl, List.forall_mem_cons.mpr ⟨List.mem_of_getElem? (i := 107) rfl, fun _ h => absurd h List.not_mem_nil⟩⟩
theorem iw_X11_step_X6 : ∀ w ∈ wsX60, w ∈ wsX11_step := List.forall_mem_cons.mpr ⟨List.mem_of_getElem? (i := 117) rfl, List.forall_mem_cons.mpr ⟨List.mem_of_getElem? (i := 118) rfl, List.forall_mem_cons.mpr ⟨List.mem_of_getElem? (i := 119) rfl, List.forall_mem_cons.mpr ⟨List.mem_of_getElem? (i := 120) rfl, List.forall_mem_cons.mpr ⟨List.mem_of_getElem? (i := 121) rfl, List.forall_mem_cons.mpr ⟨List.mem_of_getElem? (i := 122) rfl, List.forall_mem_cons.mpr ⟨List.mem_of_getElem? (i := 123) rfl, List.forall_mem_cons.mpr ⟨List.mem_of_getElem? (i := 124) rfl, fun _ h => absurd h List.not_mem_nil⟩⟩⟩⟩⟩⟩⟩⟩
theorem iw_X11_step_X0 : ∀ w ∈ wsX00, w ∈ wsX11_step := List.forall_mem_cons.mpr ⟨List.mem_of_getElem? (i := 109) rfl, List.forall_mem_cons.mpr ⟨List.mem_of_getElem? (i := 110) rfl, List.forall_mem_cons.mpr ⟨List.mem_of_getElem? (i := 111) rfl, List.forall_mem_cons.mpr ⟨List.mem_of_getElem? (i := 112) rfl, List.forall_mem_cons.mpr ⟨List.mem_of_getElem? (i := 113) rfl, List.forall_mem_cons.mpr ⟨List.mem_of_getElem? (i := 114) rfl, List.forall_mem_cons.mpr ⟨List.mem_of_getElem? (i := 115) rfl, List.forall_mem_cons.mpr ⟨List.mem_of_getElem? (i := 116) rfl, fun _ h => absurd h List.not_mem_nil⟩⟩⟩⟩⟩⟩⟩⟩
def f_X11_step (N : Nat) (MC : Nat) (MS : Nat) (v1 : Int32) (v2 : Int64) (v4 : Int32) (sp_unlike : Int32) (sp_number : Int64) (ch_many : Int32) (ch_kind : Int32) (ch_ending : Int32) (ch_tail : Int32) (ch_round : Int32) (ch_greatest : Int64) (n_row : Nat) (a_row : Nat → Int32) (n_list : Nat) (a_list : Nat → Int32) (a_prime : Nat → Int64) (a_times : Nat → Int32) (a_told : Nat → Int64) : Option (Int64 × Int32 × Int64 × Int32 × Int32 × Int32 × Int32 × Int32 × Int64 × Nat × (Nat → Int32) × Nat × (Nat → Int32) × (Nat → Int64) × (Nat → Int32) × (Nat → Int64)) :=
  if 0 ≤ MC ∧ 0 ≤ MS then
    Option.bind (f_X11_within N v1 (1 : Int32) (3 : Int32)) fun r1z =>
    if r1z = 0 then
      if 0 ≤ MC ∧ 0 ≤ MS then
        some ((-1 : Int64), sp_unlike, sp_number, ch_many, ch_kind, ch_ending, ch_tail, ch_round, ch_greatest, n_row, a_row, n_list, a_list, a_prime, a_times, a_told)
      else
        none
    else
      if 0 ≤ MC ∧ 0 ≤ MS then
        Option.bind (f_X11_isNumber N v2) fun r7z =>
        if r7z = 0 then
          if 0 ≤ MC ∧ 0 ≤ MS then
            some ((-1 : Int64), sp_unlike, sp_number, ch_many, ch_kind, ch_ending, ch_tail, ch_round, ch_greatest, n_row, a_row, n_list, a_list, a_prime, a_times, a_told)
          else
            none
        else
          if 0 ≤ v4 then
            if 0 + (if 0 < nI n_list then 0 else 1 + (if nI n_row = 0 then 1 else 0)) ≤ MC ∧ 0 + (if 0 < nI n_list then 0 else 9592 + (if nI n_row = 0 then 50001 else 0)) ≤ MS then
              Option.bind (f_X3_prepare N (if 0 < nI n_list then 0 else 1 + (if nI n_row = 0 then 1 else 0)) (if 0 < nI n_list then 0 else 9592 + (if nI n_row = 0 then 50001 else 0))  n_row a_row n_list a_list) fun r14z =>
              if 0 + (if 0 < nI n_list then 0 else 1 + (if nI n_row = 0 then 1 else 0)) ≤ MC ∧ 0 + (if 0 < nI n_list then 0 else 9592 + (if nI n_row = 0 then 50001 else 0)) ≤ MS then
                Option.bind (f_X0_follow N v1 v2 sp_unlike sp_number ch_many ch_kind ch_ending ch_tail ch_round ch_greatest r14z.2.2.1 r14z.2.2.2 a_prime a_times a_told) fun r18z =>
                if 0 + (if 0 < nI n_list then 0 else 1 + (if nI n_row = 0 then 1 else 0)) ≤ MC ∧ 0 + (if 0 < nI n_list then 0 else 9592 + (if nI n_row = 0 then 50001 else 0)) ≤ MS then
                  Option.bind (f_X0_numberAt N v4 r18z.2.2.1 r18z.2.2.2.2.1 r18z.2.2.2.2.2.1 r18z.2.2.2.2.2.2.1 r18z.2.2.2.2.2.2.2.2.2.2) fun r22z =>
                  if 0 + (if 0 < nI n_list then 0 else 1 + (if nI n_row = 0 then 1 else 0)) ≤ MC ∧ 0 + (if 0 < nI n_list then 0 else 9592 + (if nI n_row = 0 then 50001 else 0)) ≤ MS then
                    some (r22z, r18z.1, r18z.2.1, r18z.2.2.1, r18z.2.2.2.1, r18z.2.2.2.2.1, r18z.2.2.2.2.2.1, r18z.2.2.2.2.2.2.1, r18z.2.2.2.2.2.2.2.1, r14z.1, r14z.2.1, r14z.2.2.1, r14z.2.2.2, r18z.2.2.2.2.2.2.2.2.1, r18z.2.2.2.2.2.2.2.2.2.1, r18z.2.2.2.2.2.2.2.2.2.2)
                  else
                    none
                else
                  none
              else
                none
            else
              none
          else
            if 0 ≤ MC ∧ 0 ≤ MS then
              some ((-1 : Int64), sp_unlike, sp_number, ch_many, ch_kind, ch_ending, ch_tail, ch_round, ch_greatest, n_row, a_row, n_list, a_list, a_prime, a_times, a_told)
            else
              none
      else
        none
  else
    none
set_option maxRecDepth 100000 in
set_option maxHeartbeats 4000000 in
theorem k_X11_step_0 {p : Program} {l : Launch} {e : Env} {s : State} {m : MethodId} {args : Array Value} {below : List Frame} {meth : Method} {c : Code} {dC : Nat → ClassId} {dI : Nat → Nat → Nat} {cyI cyJ cyZ : ClassId} {A : Nat → Prop} (C0 : mC p s m meth c args cX11_step (some .long) 5 RX11 wsX11_step (gK dC dI cyI cyJ cyZ) A) (N : Nat) (MC MS : Nat) (res : Int64 × Int32 × Int64 × Int32 × Int32 × Int32 × Int32 × Int32 × Int64 × Nat × (Nat → Int32) × Nat × (Nat → Int32) × (Nat → Int64) × (Nat → Int32) × (Nat → Int64)) (q_G : Nat) (q_Sc : Nat) (q_Pr : Nat) (q_Sp : Nat) (q_Ch : Nat) (q_prime : Nat) (q_times : Nat) (q_told : Nat) (q_Tb : Nat) (q_Sk : Nat) (q_Wh : Nat) (q_Mk : Nat) (q_Tr : Nat) (q_Ws : Nat) (q_parts : Nat) (v1 : Int32) (v2 : Int64) (v4 : Int32) (sp_unlike : Int32) (sp_number : Int64) (sp_partsKept : Int32) (sp_partsNumber : Int64) (ch_many : Int32) (ch_kind : Int32) (ch_ending : Int32) (ch_tail : Int32) (ch_round : Int32) (ch_greatest : Int64) (n_row : Nat) (a_row : Nat → Int32) (n_list : Nat) (a_list : Nat → Int32) (a_prime : Nat → Int64) (a_times : Nat → Int32) (a_told : Nat → Int64) (q_row : Nat) (q_list : Nat) (h : f_X11_step N MC MS v1 v2 v4 sp_unlike sp_number ch_many ch_kind ch_ending ch_tail ch_round ch_greatest n_row a_row n_list a_list a_prime a_times a_told = some res) : ∀ (H : Heap) (locs : List Loc), va_P (dC, dI) vwCl (wd45 cyI cyJ cyZ q_G q_Sc q_Pr q_Sp q_Ch q_row q_list q_prime q_times q_told q_Tb q_Sk q_Wh q_Mk q_Tr q_Ws q_parts sp_unlike sp_number sp_partsKept sp_partsNumber ch_many ch_kind ch_ending ch_tail ch_round ch_greatest n_row a_row n_list a_list a_prime a_times a_told) H → va_D A (wd45 cyI cyJ cyZ q_G q_Sc q_Pr q_Sp q_Ch q_row q_list q_prime q_times q_told q_Tb q_Sk q_Wh q_Mk q_Tr q_Ws q_parts sp_unlike sp_number sp_partsKept sp_partsNumber ch_many ch_kind ch_ending ch_tail ch_round ch_greatest n_row a_row n_list a_list a_prime a_times a_told) → va_S A s.heap H locs → ∀ (ls : Array Slot), lv_has ls 5 [(0, .ref q_G), (1, .int v1), (2, .long v2), (4, .int v4)] → W p l e (headSpec wsX11_step (rm_X11_step MC MS)).room s m args below meth c H locs 0 0 (MQ below (va_Ql (fun (r : Int64) (_ : Nat × Nat) => r = res.1) (bW dC dI (fun (u : Nat × Nat) => (wd45 cyI cyJ cyZ q_G q_Sc q_Pr q_Sp q_Ch u.1 u.2 q_prime q_times q_told q_Tb q_Sk q_Wh q_Mk q_Tr q_Ws q_parts res.2.1 res.2.2.1 sp_partsKept sp_partsNumber res.2.2.2.1 res.2.2.2.2.1 res.2.2.2.2.2.1 res.2.2.2.2.2.2.1 res.2.2.2.2.2.2.2.1 res.2.2.2.2.2.2.2.2.1 res.2.2.2.2.2.2.2.2.2.1 res.2.2.2.2.2.2.2.2.2.2.1 res.2.2.2.2.2.2.2.2.2.2.2.1 res.2.2.2.2.2.2.2.2.2.2.2.2.1 res.2.2.2.2.2.2.2.2.2.2.2.2.2.1 res.2.2.2.2.2.2.2.2.2.2.2.2.2.2.1 res.2.2.2.2.2.2.2.2.2.2.2.2.2.2.2)) A) A) args s MC MS A) (F0 m 0 ls []) := by
  obtain ⟨hx, hb, hr, hml, hown, hts, hlocks, hG, hA⟩ := id C0
  have hK := hG.1
  intro H locs hP hD hS ls hl
  unfold f_X11_step at h
  refine lv_iload_n hx hb dX11_step_0 rfl (lv_at hl 1 rfl) ?_
  refine lv_iconst (v := (1 : Int32)) hx hb dX11_step_1 (by decide) ?_
  refine lv_iconst (v := (3 : Int32)) hx hb dX11_step_2 (by decide) ?_
  obtain ⟨b2z, h⟩ := xa h
  obtain ⟨r1z, hr1z, h⟩ := xb_at h
  have hPc := hP.sub (ws' := (wd37 cyI cyJ cyZ)) [] rfl
  have hDc := hD.sub (ws' := (wd37 cyI cyJ cyZ)) [] (by decide) rfl
  refine cal_i [] [0, 1, 2, 3, 4, 5, 6, 7, 8, 9] (va_runS (As := [.int v1, .int (1 : Int32), .int (3 : Int32)]) (rest := []) ⟨hx, hb, hml, hown, hts⟩ (c_X11_within l dC dI cyI cyJ cyZ N r1z H.size  v1 (1 : Int32) (3 : Int32)  hr1z) (va_cwS 3 hts gX11_step_X11_within rfl rfl rfl hd_X11_within ⟨Nat.le_of_ble_eq_true rfl, Nat.le_of_ble_eq_true rfl⟩) ⟨pC.blind, pC.pre hPc hG hDc⟩ rfl rfl hl.1 rfl (lv_room (Nat.le_of_ble_eq_true rfl)) dX11_step_3 ⟨b2z.1, b2z.2⟩) hP hD hS hA rfl rfl rfl (by decide) (fun x4z u3z H locs hw hP hD hS => ?_)
  obtain rfl := hw.symm
  have hP : va_P (dC, dI) vwCl (wd45 cyI cyJ cyZ q_G q_Sc q_Pr q_Sp q_Ch q_row q_list q_prime q_times q_told q_Tb q_Sk q_Wh q_Mk q_Tr q_Ws q_parts sp_unlike sp_number sp_partsKept sp_partsNumber ch_many ch_kind ch_ending ch_tail ch_round ch_greatest n_row a_row n_list a_list a_prime a_times a_told) H := hP.sub [0, 1, 2, 3, 4, 5, 6, 7, 8, 9] rfl
  have hD : va_D A (wd45 cyI cyJ cyZ q_G q_Sc q_Pr q_Sp q_Ch q_row q_list q_prime q_times q_told q_Tb q_Sk q_Wh q_Mk q_Tr q_Ws q_parts sp_unlike sp_number sp_partsKept sp_partsNumber ch_many ch_kind ch_ending ch_tail ch_round ch_greatest n_row a_row n_list a_list a_prime a_times a_told) := hD.sub [0, 1, 2, 3, 4, 5, 6, 7, 8, 9] (by decide) rfl
  refine lv_if_eq (tgt := 21) hx hb dX11_step_6 (by decide) (fun c5z => ?_) (fun c5z => ?_)
  · have h := xt h c5z
    refine lv_ldc2 (v := (-1 : Int64)) hx hb hown (hts (.constantLong RX11 99 (-1)) (List.mem_of_getElem? (i := 1) rfl)) dX11_step_21 ?_
    obtain ⟨b6z, h⟩ := xa h
    refine W.widen (k := MC) (n := MS) b6z.1 b6z.2 ?_
    obtain rfl := Option.some.inj h
    exact W.lret (v := (-1 : Int64)) hx hb hr (fun t ht hW => ⟨⟨_, (q_row, q_list), rfl, rfl, by rw [ht]; exact hP, hD⟩, hS.F ht⟩) hS.2.2 dX11_step_24 hlocks
  · have h := xf h c5z
    refine lv_lload_n hx hb dX11_step_9 rfl (lv_at hl 2 rfl) ?_
    obtain ⟨b8z, h⟩ := xa h
    obtain ⟨r7z, hr7z, h⟩ := xb_at h
    have hPc := hP.sub (ws' := (wd37 cyI cyJ cyZ)) [] rfl
    have hDc := hD.sub (ws' := (wd37 cyI cyJ cyZ)) [] (by decide) rfl
    refine cal_i [] [0, 1, 2, 3, 4, 5, 6, 7, 8, 9] (va_runS (As := [.long v2]) (rest := []) ⟨hx, hb, hml, hown, hts⟩ (c_X11_isNumber l dC dI cyI cyJ cyZ N r7z H.size  v2  hr7z) (va_cwS 1 hts gX11_step_X11_isNumber rfl rfl rfl hd_X11_isNumber ⟨Nat.le_of_ble_eq_true rfl, Nat.le_of_ble_eq_true rfl⟩) ⟨pC.blind, pC.pre hPc hG hDc⟩ rfl rfl hl.1 rfl (lv_room (Nat.le_of_ble_eq_true rfl)) dX11_step_10 ⟨b8z.1, b8z.2⟩) hP hD hS hA rfl rfl rfl (by decide) (fun x10z u9z H locs hw hP hD hS => ?_)
    obtain rfl := hw.symm
    have hP : va_P (dC, dI) vwCl (wd45 cyI cyJ cyZ q_G q_Sc q_Pr q_Sp q_Ch q_row q_list q_prime q_times q_told q_Tb q_Sk q_Wh q_Mk q_Tr q_Ws q_parts sp_unlike sp_number sp_partsKept sp_partsNumber ch_many ch_kind ch_ending ch_tail ch_round ch_greatest n_row a_row n_list a_list a_prime a_times a_told) H := hP.sub [0, 1, 2, 3, 4, 5, 6, 7, 8, 9] rfl
    have hD : va_D A (wd45 cyI cyJ cyZ q_G q_Sc q_Pr q_Sp q_Ch q_row q_list q_prime q_times q_told q_Tb q_Sk q_Wh q_Mk q_Tr q_Ws q_parts sp_unlike sp_number sp_partsKept sp_partsNumber ch_many ch_kind ch_ending ch_tail ch_round ch_greatest n_row a_row n_list a_list a_prime a_times a_told) := hD.sub [0, 1, 2, 3, 4, 5, 6, 7, 8, 9] (by decide) rfl
    refine lv_if_eq (tgt := 21) hx hb dX11_step_13 (by decide) (fun c11z => ?_) (fun c11z => ?_)
    · have h := xt h c11z
      refine lv_ldc2 (v := (-1 : Int64)) hx hb hown (hts (.constantLong RX11 99 (-1)) (List.mem_of_getElem? (i := 1) rfl)) dX11_step_21 ?_
      obtain ⟨b12z, h⟩ := xa h
      refine W.widen (k := MC) (n := MS) b12z.1 b12z.2 ?_
      obtain rfl := Option.some.inj h
      exact W.lret (v := (-1 : Int64)) hx hb hr (fun t ht hW => ⟨⟨_, (q_row, q_list), rfl, rfl, by rw [ht]; exact hP, hD⟩, hS.F ht⟩) hS.2.2 dX11_step_24 hlocks
    · have h := xf h c11z
      refine lv_iload hx hb dX11_step_16 (lv_at hl 3 rfl) ?_
      refine lv_if_ge (tgt := 25) hx hb dX11_step_18 (by decide) (fun c13z => ?_) (fun c13z => ?_)
      · have h := xt h c13z
        refine lv_aload_n hx hb dX11_step_25 rfl (lv_at hl 0 rfl) ?_
        refine va_get (D := (dC, dI)) (ci := 11) (v := .ref q_Pr) (C := RX11) (T := TX11) (N := 9) hx hb hts iw_X11_step_X11 hown hK hP 0 rfl rfl 0 (by decide) (hts (.fieldLink RX11 15 "GoesInto" "primes" "LGoesInto$Primes;") (List.mem_of_getElem? (i := 2) rfl)) (fun _ h9 => h9) rfl dX11_step_26 ?_
        obtain ⟨b15z, h⟩ := xa h
        obtain ⟨r14z, hr14z, h⟩ := xb_at h
        have hPc := hP.sub (ws' := (wd11 cyI cyJ cyZ q_Sc q_Pr q_row q_list n_row a_row n_list a_list)) [1, 2, 5, 6] rfl
        have hDc := hD.sub (ws' := (wd11 cyI cyJ cyZ q_Sc q_Pr q_row q_list n_row a_row n_list a_list)) [1, 2, 5, 6] (by decide) rfl
        refine cal_v [1, 2, 5, 6] [0, 3, 4, 7, 8, 9] (va_runV (As := []) (rest := []) ⟨hx, hb, hml, hown, hts⟩ (c_X3_prepare l dC dI cyI cyJ cyZ N (if 0 < nI n_list then 0 else 1 + (if nI n_row = 0 then 1 else 0)) (if 0 < nI n_list then 0 else 9592 + (if nI n_row = 0 then 50001 else 0)) r14z H.size q_Sc q_Pr q_row q_list  n_row a_row n_list a_list hr14z) (cwV 0 hts gX11_step_X3_prepare rfl rfl rfl ⟨rfl, hd_X3_prepare⟩ ⟨Nat.le_of_ble_eq_true rfl, Nat.le_of_ble_eq_true rfl⟩) ⟨pC.blind, va_recv hK hPc (ci := 3) (q0 := 1) rfl rfl, pC.pre hPc hG hDc⟩ rfl rfl hl.1 rfl (lv_room (Nat.le_of_ble_eq_true rfl)) dX11_step_29 ⟨b15z.1, b15z.2⟩) hP hD hS hA rfl rfl rfl (by decide) (fun u16z H locs _ hP hD hS => ?_)
        have hP : va_P (dC, dI) vwCl (wd45 cyI cyJ cyZ q_G q_Sc q_Pr q_Sp q_Ch u16z.1 u16z.2 q_prime q_times q_told q_Tb q_Sk q_Wh q_Mk q_Tr q_Ws q_parts sp_unlike sp_number sp_partsKept sp_partsNumber ch_many ch_kind ch_ending ch_tail ch_round ch_greatest r14z.1 r14z.2.1 r14z.2.2.1 r14z.2.2.2 a_prime a_times a_told) H := hP.sub [0, 6, 7, 1, 2, 8, 9, 3, 4, 5] rfl
        have hD : va_D A (wd45 cyI cyJ cyZ q_G q_Sc q_Pr q_Sp q_Ch u16z.1 u16z.2 q_prime q_times q_told q_Tb q_Sk q_Wh q_Mk q_Tr q_Ws q_parts sp_unlike sp_number sp_partsKept sp_partsNumber ch_many ch_kind ch_ending ch_tail ch_round ch_greatest r14z.1 r14z.2.1 r14z.2.2.1 r14z.2.2.2 a_prime a_times a_told) := hD.sub [0, 6, 7, 1, 2, 8, 9, 3, 4, 5] (by decide) rfl
        refine lv_aload_n hx hb dX11_step_32 rfl (lv_at hl 0 rfl) ?_
        refine va_get (D := (dC, dI)) (ci := 11) (v := .ref q_Ch) (C := RX11) (T := TX11) (N := 9) hx hb hts iw_X11_step_X11 hown hK hP 0 rfl rfl 2 (by decide) (hts (.fieldLink RX11 35 "GoesInto" "lastChain" "LGoesInto$Chain;") (List.mem_of_getElem? (i := 3) rfl)) (fun _ h9 => h9) rfl dX11_step_33 ?_
        refine lv_iload_n hx hb dX11_step_36 rfl (lv_at hl 1 rfl) ?_
        refine lv_lload_n hx hb dX11_step_37 rfl (lv_at hl 2 rfl) ?_
        obtain ⟨b19z, h⟩ := xa h
        obtain ⟨r18z, hr18z, h⟩ := xb_at h
        have hPc := hP.sub (ws' := (wd8 cyI cyJ cyZ q_Pr q_Sp q_Ch u16z.2 q_prime q_times q_told q_Sc q_parts sp_unlike sp_number sp_partsKept sp_partsNumber ch_many ch_kind ch_ending ch_tail ch_round ch_greatest r14z.2.2.1 r14z.2.2.2 a_prime a_times a_told)) [2, 3, 4, 6, 7, 8, 9] rfl
        have hDc := hD.sub (ws' := (wd8 cyI cyJ cyZ q_Pr q_Sp q_Ch u16z.2 q_prime q_times q_told q_Sc q_parts sp_unlike sp_number sp_partsKept sp_partsNumber ch_many ch_kind ch_ending ch_tail ch_round ch_greatest r14z.2.2.1 r14z.2.2.2 a_prime a_times a_told)) [2, 3, 4, 6, 7, 8, 9] (by decide) rfl
        refine cal_v [2, 3, 4, 6, 7, 8, 9] [0, 1, 5] (va_runV (As := [.int v1, .long v2]) (rest := []) ⟨hx, hb, hml, hown, hts⟩ (c_X0_follow l dC dI cyI cyJ cyZ N r18z H.size q_Pr q_Sp q_Ch u16z.2 q_prime q_times q_told q_Sc q_parts v1 v2 sp_unlike sp_number sp_partsKept sp_partsNumber ch_many ch_kind ch_ending ch_tail ch_round ch_greatest r14z.2.2.1 r14z.2.2.2 a_prime a_times a_told hr18z) (cwV 2 hts gX11_step_X0_follow rfl rfl rfl ⟨rfl, hd_X0_follow⟩ ⟨Nat.le_of_ble_eq_true rfl, Nat.le_of_ble_eq_true rfl⟩) ⟨pC.blind, va_recv hK hPc (ci := 0) (q0 := 2) rfl rfl, pC.pre hPc hG hDc⟩ rfl rfl hl.1 rfl (lv_room (Nat.le_of_ble_eq_true rfl)) dX11_step_38 ⟨b19z.1, b19z.2⟩) hP hD hS hA rfl rfl rfl (by decide) (fun u20z H locs _ hP hD hS => ?_)
        have hP : va_P (dC, dI) vwCl (wd45 cyI cyJ cyZ q_G q_Sc q_Pr q_Sp q_Ch u16z.1 u16z.2 q_prime q_times q_told q_Tb q_Sk q_Wh q_Mk q_Tr q_Ws q_parts r18z.1 r18z.2.1 sp_partsKept sp_partsNumber r18z.2.2.1 r18z.2.2.2.1 r18z.2.2.2.2.1 r18z.2.2.2.2.2.1 r18z.2.2.2.2.2.2.1 r18z.2.2.2.2.2.2.2.1 r14z.1 r14z.2.1 r14z.2.2.1 r14z.2.2.2 r18z.2.2.2.2.2.2.2.2.1 r18z.2.2.2.2.2.2.2.2.2.1 r18z.2.2.2.2.2.2.2.2.2.2) H := hP.sub [0, 1, 3, 4, 5, 2, 6, 7, 8, 9] rfl
        have hD : va_D A (wd45 cyI cyJ cyZ q_G q_Sc q_Pr q_Sp q_Ch u16z.1 u16z.2 q_prime q_times q_told q_Tb q_Sk q_Wh q_Mk q_Tr q_Ws q_parts r18z.1 r18z.2.1 sp_partsKept sp_partsNumber r18z.2.2.1 r18z.2.2.2.1 r18z.2.2.2.2.1 r18z.2.2.2.2.2.1 r18z.2.2.2.2.2.2.1 r18z.2.2.2.2.2.2.2.1 r14z.1 r14z.2.1 r14z.2.2.1 r14z.2.2.2 r18z.2.2.2.2.2.2.2.2.1 r18z.2.2.2.2.2.2.2.2.2.1 r18z.2.2.2.2.2.2.2.2.2.2) := hD.sub [0, 1, 3, 4, 5, 2, 6, 7, 8, 9] (by decide) rfl
        refine lv_aload_n hx hb dX11_step_41 rfl (lv_at hl 0 rfl) ?_
        refine va_get (D := (dC, dI)) (ci := 11) (v := .ref q_Ch) (C := RX11) (T := TX11) (N := 9) hx hb hts iw_X11_step_X11 hown hK hP 0 rfl rfl 2 (by decide) (hts (.fieldLink RX11 35 "GoesInto" "lastChain" "LGoesInto$Chain;") (List.mem_of_getElem? (i := 3) rfl)) (fun _ h9 => h9) rfl dX11_step_42 ?_
        refine lv_iload hx hb dX11_step_45 (lv_at hl 3 rfl) ?_
        obtain ⟨b23z, h⟩ := xa h
        obtain ⟨r22z, hr22z, h⟩ := xb_at h
        have hPc := hP.sub (ws' := (wd7 cyI cyJ cyZ q_Ch q_told q_Sp r18z.2.2.1 r18z.2.2.2.1 r18z.2.2.2.2.1 r18z.2.2.2.2.2.1 r18z.2.2.2.2.2.2.1 r18z.2.2.2.2.2.2.2.1 r18z.2.2.2.2.2.2.2.2.2.2)) [4, 9] rfl
        have hDc := hD.sub (ws' := (wd7 cyI cyJ cyZ q_Ch q_told q_Sp r18z.2.2.1 r18z.2.2.2.1 r18z.2.2.2.2.1 r18z.2.2.2.2.2.1 r18z.2.2.2.2.2.2.1 r18z.2.2.2.2.2.2.2.1 r18z.2.2.2.2.2.2.2.2.2.2)) [4, 9] (by decide) rfl
        refine cal_l [4, 9] [0, 1, 2, 3, 5, 6, 7, 8] (va_runV (As := [.int v4]) (rest := []) ⟨hx, hb, hml, hown, hts⟩ (c_X0_numberAt l dC dI cyI cyJ cyZ N r22z H.size q_Ch q_told q_Sp v4 r18z.2.2.1 r18z.2.2.2.1 r18z.2.2.2.2.1 r18z.2.2.2.2.2.1 r18z.2.2.2.2.2.2.1 r18z.2.2.2.2.2.2.2.1 r18z.2.2.2.2.2.2.2.2.2.2 hr22z) (cwV 1 hts gX11_step_X0_numberAt rfl rfl rfl ⟨rfl, hd_X0_numberAt⟩ ⟨Nat.le_of_ble_eq_true rfl, Nat.le_of_ble_eq_true rfl⟩) ⟨pC.blind, va_recv hK hPc (ci := 0) (q0 := 0) rfl rfl, pC.pre hPc hG hDc⟩ rfl rfl hl.1 rfl (lv_room (Nat.le_of_ble_eq_true rfl)) dX11_step_47 ⟨b23z.1, b23z.2⟩) hP hD hS hA rfl rfl rfl (by decide) (fun x25z u24z H locs hw hP hD hS => ?_)
        obtain rfl := hw.symm
        have hP : va_P (dC, dI) vwCl (wd45 cyI cyJ cyZ q_G q_Sc q_Pr q_Sp q_Ch u16z.1 u16z.2 q_prime q_times q_told q_Tb q_Sk q_Wh q_Mk q_Tr q_Ws q_parts r18z.1 r18z.2.1 sp_partsKept sp_partsNumber r18z.2.2.1 r18z.2.2.2.1 r18z.2.2.2.2.1 r18z.2.2.2.2.2.1 r18z.2.2.2.2.2.2.1 r18z.2.2.2.2.2.2.2.1 r14z.1 r14z.2.1 r14z.2.2.1 r14z.2.2.2 r18z.2.2.2.2.2.2.2.2.1 r18z.2.2.2.2.2.2.2.2.2.1 r18z.2.2.2.2.2.2.2.2.2.2) H := hP.sub [0, 1, 2, 3, 8, 4, 5, 6, 7, 9] rfl
        have hD : va_D A (wd45 cyI cyJ cyZ q_G q_Sc q_Pr q_Sp q_Ch u16z.1 u16z.2 q_prime q_times q_told q_Tb q_Sk q_Wh q_Mk q_Tr q_Ws q_parts r18z.1 r18z.2.1 sp_partsKept sp_partsNumber r18z.2.2.1 r18z.2.2.2.1 r18z.2.2.2.2.1 r18z.2.2.2.2.2.1 r18z.2.2.2.2.2.2.1 r18z.2.2.2.2.2.2.2.1 r14z.1 r14z.2.1 r14z.2.2.1 r14z.2.2.2 r18z.2.2.2.2.2.2.2.2.1 r18z.2.2.2.2.2.2.2.2.2.1 r18z.2.2.2.2.2.2.2.2.2.2) := hD.sub [0, 1, 2, 3, 8, 4, 5, 6, 7, 9] (by decide) rfl
        obtain ⟨b26z, h⟩ := xa h
        refine W.widen (k := MC) (n := MS) b26z.1 b26z.2 ?_
        obtain rfl := Option.some.inj h
        exact W.lret (v := r22z) hx hb hr (fun t ht hW => ⟨⟨_, (u16z.1, u16z.2), rfl, rfl, by rw [ht]; exact hP, hD⟩, hS.F ht⟩) hS.2.2 dX11_step_50 hlocks
      · have h := xf h c13z
        refine lv_ldc2 (v := (-1 : Int64)) hx hb hown (hts (.constantLong RX11 99 (-1)) (List.mem_of_getElem? (i := 1) rfl)) dX11_step_21 ?_
        obtain ⟨b27z, h⟩ := xa h
        refine W.widen (k := MC) (n := MS) b27z.1 b27z.2 ?_
        obtain rfl := Option.some.inj h
        exact W.lret (v := (-1 : Int64)) hx hb hr (fun t ht hW => ⟨⟨_, (q_row, q_list), rfl, rfl, by rw [ht]; exact hP, hD⟩, hS.F ht⟩) hS.2.2 dX11_step_24 hlocks
set_option maxRecDepth 100000 in
set_option maxHeartbeats 4000000 in
theorem c_X11_step (l : Launch) (dC : Nat → ClassId) (dI : Nat → Nat → Nat) (cyI cyJ cyZ : ClassId) (N : Nat) (MC MS : Nat) (res : Int64 × Int32 × Int64 × Int32 × Int32 × Int32 × Int32 × Int32 × Int64 × Nat × (Nat → Int32) × Nat × (Nat → Int32) × (Nat → Int64) × (Nat → Int32) × (Nat → Int64)) (sz : Nat) (q_G : Nat) (q_Sc : Nat) (q_Pr : Nat) (q_Sp : Nat) (q_Ch : Nat) (q_row : Nat) (q_list : Nat) (q_prime : Nat) (q_times : Nat) (q_told : Nat) (q_Tb : Nat) (q_Sk : Nat) (q_Wh : Nat) (q_Mk : Nat) (q_Tr : Nat) (q_Ws : Nat) (q_parts : Nat) (v1 : Int32) (v2 : Int64) (v4 : Int32) (sp_unlike : Int32) (sp_number : Int64) (sp_partsKept : Int32) (sp_partsNumber : Int64) (ch_many : Int32) (ch_kind : Int32) (ch_ending : Int32) (ch_tail : Int32) (ch_round : Int32) (ch_greatest : Int64) (n_row : Nat) (a_row : Nat → Int32) (n_list : Nat) (a_list : Nat → Int32) (a_prime : Nat → Int64) (a_times : Nat → Int32) (a_told : Nat → Int64) (h : f_X11_step N MC MS v1 v2 v4 sp_unlike sp_number ch_many ch_kind ch_ending ch_tail ch_round ch_greatest n_row a_row n_list a_list a_prime a_times a_told = some res) : Met l yX11_step wsX11_step (rm_X11_step MC MS) (pC dC dI cyI cyJ cyZ [.ref q_G, .int v1, .long v2, .int v4] sz (wd45 cyI cyJ cyZ q_G q_Sc q_Pr q_Sp q_Ch q_row q_list q_prime q_times q_told q_Tb q_Sk q_Wh q_Mk q_Tr q_Ws q_parts sp_unlike sp_number sp_partsKept sp_partsNumber ch_many ch_kind ch_ending ch_tail ch_round ch_greatest n_row a_row n_list a_list a_prime a_times a_told)) (va_Ql (fun (r : Int64) (_ : Nat × Nat) => r = res.1) (bW dC dI (fun (u : Nat × Nat) => (wd45 cyI cyJ cyZ q_G q_Sc q_Pr q_Sp q_Ch u.1 u.2 q_prime q_times q_told q_Tb q_Sk q_Wh q_Mk q_Tr q_Ws q_parts res.2.1 res.2.2.1 sp_partsKept sp_partsNumber res.2.2.2.1 res.2.2.2.2.1 res.2.2.2.2.2.1 res.2.2.2.2.2.2.1 res.2.2.2.2.2.2.2.1 res.2.2.2.2.2.2.2.2.1 res.2.2.2.2.2.2.2.2.2.1 res.2.2.2.2.2.2.2.2.2.2.1 res.2.2.2.2.2.2.2.2.2.2.2.1 res.2.2.2.2.2.2.2.2.2.2.2.2.1 res.2.2.2.2.2.2.2.2.2.2.2.2.2.1 res.2.2.2.2.2.2.2.2.2.2.2.2.2.2.1 res.2.2.2.2.2.2.2.2.2.2.2.2.2.2.2)) (va_A (wd45 cyI cyJ cyZ q_G q_Sc q_Pr q_Sp q_Ch q_row q_list q_prime q_times q_told q_Tb q_Sk q_Wh q_Mk q_Tr q_Ws q_parts sp_unlike sp_number sp_partsKept sp_partsNumber ch_many ch_kind ch_ending ch_tail ch_round ch_greatest n_row a_row n_list a_list a_prime a_times a_told) sz)) (va_A (wd45 cyI cyJ cyZ q_G q_Sc q_Pr q_Sp q_Ch q_row q_list q_prime q_times q_told q_Tb q_Sk q_Wh q_Mk q_Tr q_Ws q_parts sp_unlike sp_number sp_partsKept sp_partsNumber ch_many ch_kind ch_ending ch_tail ch_round ch_greatest n_row a_row n_list a_list a_prime a_times a_told) sz)) MC MS (va_A (wd45 cyI cyJ cyZ q_G q_Sc q_Pr q_Sp q_Ch q_row q_list q_prime q_times q_told q_Tb q_Sk q_Wh q_Mk q_Tr q_Ws q_parts sp_unlike sp_number sp_partsKept sp_partsNumber ch_many ch_kind ch_ending ch_tail ch_round ch_greatest n_row a_row n_list a_list a_prime a_times a_told) sz) := by
  refine Met.ofW (cc := cX11_step) (maxL := 5) (ret := (some .long)) (by decide) rfl ?_
  intro p e s m args below meth c s₁ B hml hv
  obtain ⟨rfl, hsz, hP, hG, hD0⟩ := hv
  have hx := B.exec
  have hb := B.bytes
  have hr := B.returns
  have hts := atoms_spec (ws := wsX11_step) B.pre
  have hown : s.vm.findClass RX11 = some m.cls := findClass_of_methodNamed B.named
  have hlocks := B.notSynchronized
  subst hsz
  have hD := hD0.self (sz := s.heap.size)
  generalize hAe : va_A (wd45 cyI cyJ cyZ q_G q_Sc q_Pr q_Sp q_Ch q_row q_list q_prime q_times q_told q_Tb q_Sk q_Wh q_Mk q_Tr q_Ws q_parts sp_unlike sp_number sp_partsKept sp_partsNumber ch_many ch_kind ch_ending ch_tail ch_round ch_greatest n_row a_row n_list a_list a_prime a_times a_told) s.heap.size = A at hD ⊢
  have hA : ∀ q : Nat, s.heap.size ≤ q → A q := fun q h => by rw [← hAe]; exact Or.inr h
  have hS : va_S A s.heap s.heap [] := va_S.rf
  have hl := lv_entry ([.ref q_G, .int v1, .long v2, .int v4]) (n := 5) (Nat.le_of_ble_eq_true rfl)
  rw [lg_entry_eq]
  generalize (lg_sl ([.ref q_G, .int v1, .long v2, .int v4]) ++ List.replicate (5 - (lg_sl ([.ref q_G, .int v1, .long v2, .int v4])).length) Slot.unset).toArray = ls at hl ⊢
  have hl : lv_has ls 5 [(0, .ref q_G), (1, .int v1), (2, .long v2), (4, .int v4)] := hl
  exact k_X11_step_0 ⟨hx, hb, hr, hml, hown, hts, hlocks, hG, hA⟩ N MC MS res q_G q_Sc q_Pr q_Sp q_Ch q_prime q_times q_told q_Tb q_Sk q_Wh q_Mk q_Tr q_Ws q_parts v1 v2 v4 sp_unlike sp_number sp_partsKept sp_partsNumber ch_many ch_kind ch_ending ch_tail ch_round ch_greatest n_row a_row n_list a_list a_prime a_times a_told q_row q_list h _ _ hP hD hS _ hl
/-- the cells G, Sc, Tb, Sk, Pk1, row, all, apart -/
abbrev wd46 (cyI cyJ cyZ : ClassId) (q_G : Nat) (q_Sc : Nat) (q_Tb : Nat) (q_Sk : Nat) (q_Pk1 : Nat) (q_row : Nat) (q_all : Nat) (q_apart : Nat) (q_Pr : Nat) (q_Sp : Nat) (q_Ch : Nat) (q_Wh : Nat) (q_Mk : Nat) (q_Tr : Nat) (q_Ws : Nat) (pk1_wanted : Int32) (pk1_seen : Int32) (n_row : Nat) (a_row : Nat → Int32) (n_all : Nat) (a_all : Nat → Int32) (n_apart : Nat) (a_apart : Nat → Int32) : va_W := [(q_G, .inr (11, [.ref q_Pr, .ref q_Sp, .ref q_Ch, .ref q_Tb, .ref q_Sk, .ref q_Wh, .ref q_Mk, .ref q_Tr, .ref q_Ws])), (q_Sc, .inr (4, [.ref q_row])), (q_Tb, .inr (7, [.ref q_Sc, .ref q_all, .ref q_apart])), (q_Sk, .inr (5, [.ref q_Tb, .ref q_Sc, .ref q_Pk1])), (q_Pk1, .inr (2, [.int pk1_wanted, .int pk1_seen])), (q_row, .inl (cyI, n_row, .inl a_row)), (q_all, .inl (cyI, n_all, .inl a_all)), (q_apart, .inl (cyI, n_apart, .inl a_apart))]
abbrev rm_X11_rings (MC MS : Nat) : Room := { frames := 4, cells := MC, slots := MS, locals := 87 }
theorem hd_X11_rings : yX11_rings.cls ≠ "java/lang/invoke/MethodHandle" ∧ yX11_rings.cls ≠ "java/lang/invoke/VarHandle" ∧ (parseMethodDescriptor yX11_rings.desc).map (fun d => d.parameters.length) = some 4 := by decide +kernel
theorem iw_X11_rings_X11 : ∀ w ∈ wsX110, w ∈ wsX11_rings := List.forall_mem_cons.mpr ⟨List.mem_of_getElem? (i := 74) rfl, List.forall_mem_cons.mpr ⟨List.mem_of_getElem? (i := 75) rfl, List.forall_mem_cons.mpr ⟨List.mem_of_getElem? (i := 76) rfl, List.forall_mem_cons.mpr ⟨List.mem_of_getElem? (i := 77) rfl, List.forall_mem_cons.mpr ⟨List.mem_of_getElem? (i := 78) rfl, List.forall_mem_cons.mpr ⟨List.mem_of_getElem? (i := 79) rfl, List.forall_mem_cons.mpr ⟨List.mem_of_getElem? (i := 80) rfl, List.forall_mem_cons.mpr ⟨List.mem_of_getElem? (i := 81) rfl, List.forall_mem_cons.mpr ⟨List.mem_of_getElem? (i := 82) rfl, fun _ h => absurd h List.not_mem_nil⟩⟩⟩⟩⟩⟩⟩⟩⟩
theorem iw_X11_rings_X4 : ∀ w ∈ wsX40, w ∈ wsX11_rings := List.forall_mem_cons.mpr ⟨List.mem_of_getElem? (i := 86) rfl, fun _ h => absurd h List.not_mem_nil⟩
theorem iw_X11_rings_X7 : ∀ w ∈ wsX70, w ∈ wsX11_rings := List.forall_mem_cons.mpr ⟨List.mem_of_getElem? (i := 83) rfl, List.forall_mem_cons.mpr ⟨List.mem_of_getElem? (i := 84) rfl, List.forall_mem_cons.mpr ⟨List.mem_of_getElem? (i := 85) rfl, fun _ h => absurd h List.not_mem_nil⟩⟩⟩
theorem iw_X11_rings_X5 : ∀ w ∈ wsX50, w ∈ wsX11_rings := List.forall_mem_cons.mpr ⟨List.mem_of_getElem? (i := 87) rfl, List.forall_mem_cons.mpr ⟨List.mem_of_getElem? (i := 88) rfl, List.forall_mem_cons.mpr ⟨List.mem_of_getElem? (i := 89) rfl, fun _ h => absurd h List.not_mem_nil⟩⟩⟩
theorem iw_X11_rings_X2 : ∀ w ∈ wsX20, w ∈ wsX11_rings := List.forall_mem_cons.mpr ⟨List.mem_of_getElem? (i := 90) rfl, List.forall_mem_cons.mpr ⟨List.mem_of_getElem? (i := 91) rfl, fun _ h => absurd h List.not_mem_nil⟩⟩
def f_X11_rings (N : Nat) (MC : Nat) (MS : Nat) (v1 : Int32) (v2 : Int32) (v3 : Int32) (v4 : Int32) (pk1_wanted : Int32) (pk1_seen : Int32) (n_row : Nat) (a_row : Nat → Int32) (n_all : Nat) (a_all : Nat → Int32) (n_apart : Nat) (a_apart : Nat → Int32) : Option (Int32 × Int32 × Int32 × Nat × (Nat → Int32) × Nat × (Nat → Int32) × Nat × (Nat → Int32)) :=
  if 0 ≤ MC ∧ 0 ≤ MS then
    Option.bind (f_X11_within N v1 (1 : Int32) (3 : Int32)) fun r1z =>
    if r1z = 0 then
      if 0 ≤ MC ∧ 0 ≤ MS then
        some ((-1 : Int32), pk1_wanted, pk1_seen, n_row, a_row, n_all, a_all, n_apart, a_apart)
      else
        none
    else
      if 0 ≤ MC ∧ 0 ≤ MS then
        Option.bind (f_X11_within N v2 (1 : Int32) (9 : Int32)) fun r7z =>
        if r7z = 0 then
          if 0 ≤ MC ∧ 0 ≤ MS then
            some ((-1 : Int32), pk1_wanted, pk1_seen, n_row, a_row, n_all, a_all, n_apart, a_apart)
          else
            none
        else
          if 0 ≤ MC ∧ 0 ≤ MS then
            Option.bind (f_X11_isBound N v3) fun r13z =>
            if r13z = 0 then
              if 0 ≤ MC ∧ 0 ≤ MS then
                some ((-1 : Int32), pk1_wanted, pk1_seen, n_row, a_row, n_all, a_all, n_apart, a_apart)
              else
                none
            else
              if (-1 : Int32) ≤ v4 then
                if 0 + (if 0 < nI n_all then 0 else 2 + (if nI n_row = 0 then 1 else 0)) ≤ MC ∧ 0 + (if 0 < nI n_all then 0 else 100002 + (if nI n_row = 0 then 50001 else 0)) ≤ MS then
                  Option.bind (f_X7_prepare N (if 0 < nI n_all then 0 else 2 + (if nI n_row = 0 then 1 else 0)) (if 0 < nI n_all then 0 else 100002 + (if nI n_row = 0 then 50001 else 0))  n_row a_row n_all a_all n_apart a_apart) fun r20z =>
                  if 0 + (if 0 < nI n_all then 0 else 2 + (if nI n_row = 0 then 1 else 0)) ≤ MC ∧ 0 + (if 0 < nI n_all then 0 else 100002 + (if nI n_row = 0 then 50001 else 0)) ≤ MS then
                    Option.bind (f_X5_ringAt N v1 v2 v3 v4 pk1_wanted pk1_seen r20z.2.2.1 r20z.2.2.2.1 r20z.2.2.2.2.1 r20z.2.2.2.2.2) fun r24z =>
                    if 0 + (if 0 < nI n_all then 0 else 2 + (if nI n_row = 0 then 1 else 0)) ≤ MC ∧ 0 + (if 0 < nI n_all then 0 else 100002 + (if nI n_row = 0 then 50001 else 0)) ≤ MS then
                      some (r24z.1, r24z.2.1, r24z.2.2, r20z.1, r20z.2.1, r20z.2.2.1, r20z.2.2.2.1, r20z.2.2.2.2.1, r20z.2.2.2.2.2)
                    else
                      none
                  else
                    none
                else
                  none
              else
                if 0 ≤ MC ∧ 0 ≤ MS then
                  some ((-1 : Int32), pk1_wanted, pk1_seen, n_row, a_row, n_all, a_all, n_apart, a_apart)
                else
                  none
          else
            none
      else
        none
  else
    none
set_option maxRecDepth 100000 in
set_option maxHeartbeats 4000000 in
theorem k_X11_rings_0 {p : Program} {l : Launch} {e : Env} {s : State} {m : MethodId} {args : Array Value} {below : List Frame} {meth : Method} {c : Code} {dC : Nat → ClassId} {dI : Nat → Nat → Nat} {cyI cyJ cyZ : ClassId} {A : Nat → Prop} (C0 : mC p s m meth c args cX11_rings (some .int) 5 RX11 wsX11_rings (gK dC dI cyI cyJ cyZ) A) (N : Nat) (MC MS : Nat) (res : Int32 × Int32 × Int32 × Nat × (Nat → Int32) × Nat × (Nat → Int32) × Nat × (Nat → Int32)) (q_G : Nat) (q_Sc : Nat) (q_Tb : Nat) (q_Sk : Nat) (q_Pk1 : Nat) (q_Pr : Nat) (q_Sp : Nat) (q_Ch : Nat) (q_Wh : Nat) (q_Mk : Nat) (q_Tr : Nat) (q_Ws : Nat) (v1 : Int32) (v2 : Int32) (v3 : Int32) (v4 : Int32) (pk1_wanted : Int32) (pk1_seen : Int32) (n_row : Nat) (a_row : Nat → Int32) (n_all : Nat) (a_all : Nat → Int32) (n_apart : Nat) (a_apart : Nat → Int32) (q_row : Nat) (q_all : Nat) (q_apart : Nat) (h : f_X11_rings N MC MS v1 v2 v3 v4 pk1_wanted pk1_seen n_row a_row n_all a_all n_apart a_apart = some res) : ∀ (H : Heap) (locs : List Loc), va_P (dC, dI) vwCl (wd46 cyI cyJ cyZ q_G q_Sc q_Tb q_Sk q_Pk1 q_row q_all q_apart q_Pr q_Sp q_Ch q_Wh q_Mk q_Tr q_Ws pk1_wanted pk1_seen n_row a_row n_all a_all n_apart a_apart) H → va_D A (wd46 cyI cyJ cyZ q_G q_Sc q_Tb q_Sk q_Pk1 q_row q_all q_apart q_Pr q_Sp q_Ch q_Wh q_Mk q_Tr q_Ws pk1_wanted pk1_seen n_row a_row n_all a_all n_apart a_apart) → va_S A s.heap H locs → ∀ (ls : Array Slot), lv_has ls 5 [(0, .ref q_G), (1, .int v1), (2, .int v2), (3, .int v3), (4, .int v4)] → W p l e (headSpec wsX11_rings (rm_X11_rings MC MS)).room s m args below meth c H locs 0 0 (MQ below (va_Qi (fun (r : Int32) (_ : Nat × Nat × Nat) => r = res.1) (bW dC dI (fun (u : Nat × Nat × Nat) => (wd46 cyI cyJ cyZ q_G q_Sc q_Tb q_Sk q_Pk1 u.1 u.2.1 u.2.2 q_Pr q_Sp q_Ch q_Wh q_Mk q_Tr q_Ws res.2.1 res.2.2.1 res.2.2.2.1 res.2.2.2.2.1 res.2.2.2.2.2.1 res.2.2.2.2.2.2.1 res.2.2.2.2.2.2.2.1 res.2.2.2.2.2.2.2.2)) A) A) args s MC MS A) (F0 m 0 ls []) := by
  obtain ⟨hx, hb, hr, hml, hown, hts, hlocks, hG, hA⟩ := id C0
  have hK := hG.1
  intro H locs hP hD hS ls hl
  unfold f_X11_rings at h
  refine lv_iload_n hx hb dX11_rings_0 rfl (lv_at hl 1 rfl) ?_
  refine lv_iconst (v := (1 : Int32)) hx hb dX11_rings_1 (by decide) ?_
  refine lv_iconst (v := (3 : Int32)) hx hb dX11_rings_2 (by decide) ?_
  obtain ⟨b2z, h⟩ := xa h
  obtain ⟨r1z, hr1z, h⟩ := xb_at h
  have hPc := hP.sub (ws' := (wd37 cyI cyJ cyZ)) [] rfl
  have hDc := hD.sub (ws' := (wd37 cyI cyJ cyZ)) [] (by decide) rfl
  refine cal_i [] [0, 1, 2, 3, 4, 5, 6, 7] (va_runS (As := [.int v1, .int (1 : Int32), .int (3 : Int32)]) (rest := []) ⟨hx, hb, hml, hown, hts⟩ (c_X11_within l dC dI cyI cyJ cyZ N r1z H.size  v1 (1 : Int32) (3 : Int32)  hr1z) (va_cwS 3 hts gX11_rings_X11_within rfl rfl rfl hd_X11_within ⟨Nat.le_of_ble_eq_true rfl, Nat.le_of_ble_eq_true rfl⟩) ⟨pC.blind, pC.pre hPc hG hDc⟩ rfl rfl hl.1 rfl (lv_room (Nat.le_of_ble_eq_true rfl)) dX11_rings_3 ⟨b2z.1, b2z.2⟩) hP hD hS hA rfl rfl rfl (by decide) (fun x4z u3z H locs hw hP hD hS => ?_)
  obtain rfl := hw.symm
  have hP : va_P (dC, dI) vwCl (wd46 cyI cyJ cyZ q_G q_Sc q_Tb q_Sk q_Pk1 q_row q_all q_apart q_Pr q_Sp q_Ch q_Wh q_Mk q_Tr q_Ws pk1_wanted pk1_seen n_row a_row n_all a_all n_apart a_apart) H := hP.sub [0, 1, 2, 3, 4, 5, 6, 7] rfl
  have hD : va_D A (wd46 cyI cyJ cyZ q_G q_Sc q_Tb q_Sk q_Pk1 q_row q_all q_apart q_Pr q_Sp q_Ch q_Wh q_Mk q_Tr q_Ws pk1_wanted pk1_seen n_row a_row n_all a_all n_apart a_apart) := hD.sub [0, 1, 2, 3, 4, 5, 6, 7] (by decide) rfl
  refine lv_if_eq (tgt := 32) hx hb dX11_rings_6 (by decide) (fun c5z => ?_) (fun c5z => ?_)
  · have h := xt h c5z
    refine lv_iconst (v := (-1 : Int32)) hx hb dX11_rings_32 (by decide) ?_
    obtain ⟨b6z, h⟩ := xa h
    refine W.widen (k := MC) (n := MS) b6z.1 b6z.2 ?_
    obtain rfl := Option.some.inj h
    exact W.iret (v := (-1 : Int32)) hx hb hr (fun t ht hW => ⟨⟨_, (q_row, q_all, q_apart), rfl, rfl, by rw [ht]; exact hP, hD⟩, hS.F ht⟩) hS.2.2 dX11_rings_33 hlocks
  · have h := xf h c5z
    refine lv_iload_n hx hb dX11_rings_9 rfl (lv_at hl 2 rfl) ?_
    refine lv_iconst (v := (1 : Int32)) hx hb dX11_rings_10 (by decide) ?_
    refine lv_bipush (v := (9 : Int32)) hx hb dX11_rings_11 (by decide) ?_
    obtain ⟨b8z, h⟩ := xa h
    obtain ⟨r7z, hr7z, h⟩ := xb_at h
    have hPc := hP.sub (ws' := (wd37 cyI cyJ cyZ)) [] rfl
    have hDc := hD.sub (ws' := (wd37 cyI cyJ cyZ)) [] (by decide) rfl
    refine cal_i [] [0, 1, 2, 3, 4, 5, 6, 7] (va_runS (As := [.int v2, .int (1 : Int32), .int (9 : Int32)]) (rest := []) ⟨hx, hb, hml, hown, hts⟩ (c_X11_within l dC dI cyI cyJ cyZ N r7z H.size  v2 (1 : Int32) (9 : Int32)  hr7z) (va_cwS 3 hts gX11_rings_X11_within rfl rfl rfl hd_X11_within ⟨Nat.le_of_ble_eq_true rfl, Nat.le_of_ble_eq_true rfl⟩) ⟨pC.blind, pC.pre hPc hG hDc⟩ rfl rfl hl.1 rfl (lv_room (Nat.le_of_ble_eq_true rfl)) dX11_rings_13 ⟨b8z.1, b8z.2⟩) hP hD hS hA rfl rfl rfl (by decide) (fun x10z u9z H locs hw hP hD hS => ?_)
    obtain rfl := hw.symm
    have hP : va_P (dC, dI) vwCl (wd46 cyI cyJ cyZ q_G q_Sc q_Tb q_Sk q_Pk1 q_row q_all q_apart q_Pr q_Sp q_Ch q_Wh q_Mk q_Tr q_Ws pk1_wanted pk1_seen n_row a_row n_all a_all n_apart a_apart) H := hP.sub [0, 1, 2, 3, 4, 5, 6, 7] rfl
    have hD : va_D A (wd46 cyI cyJ cyZ q_G q_Sc q_Tb q_Sk q_Pk1 q_row q_all q_apart q_Pr q_Sp q_Ch q_Wh q_Mk q_Tr q_Ws pk1_wanted pk1_seen n_row a_row n_all a_all n_apart a_apart) := hD.sub [0, 1, 2, 3, 4, 5, 6, 7] (by decide) rfl
    refine lv_if_eq (tgt := 32) hx hb dX11_rings_16 (by decide) (fun c11z => ?_) (fun c11z => ?_)
    · have h := xt h c11z
      refine lv_iconst (v := (-1 : Int32)) hx hb dX11_rings_32 (by decide) ?_
      obtain ⟨b12z, h⟩ := xa h
      refine W.widen (k := MC) (n := MS) b12z.1 b12z.2 ?_
      obtain rfl := Option.some.inj h
      exact W.iret (v := (-1 : Int32)) hx hb hr (fun t ht hW => ⟨⟨_, (q_row, q_all, q_apart), rfl, rfl, by rw [ht]; exact hP, hD⟩, hS.F ht⟩) hS.2.2 dX11_rings_33 hlocks
    · have h := xf h c11z
      refine lv_iload_n hx hb dX11_rings_19 rfl (lv_at hl 3 rfl) ?_
      obtain ⟨b14z, h⟩ := xa h
      obtain ⟨r13z, hr13z, h⟩ := xb_at h
      have hPc := hP.sub (ws' := (wd37 cyI cyJ cyZ)) [] rfl
      have hDc := hD.sub (ws' := (wd37 cyI cyJ cyZ)) [] (by decide) rfl
      refine cal_i [] [0, 1, 2, 3, 4, 5, 6, 7] (va_runS (As := [.int v3]) (rest := []) ⟨hx, hb, hml, hown, hts⟩ (c_X11_isBound l dC dI cyI cyJ cyZ N r13z H.size  v3  hr13z) (va_cwS 1 hts gX11_rings_X11_isBound rfl rfl rfl hd_X11_isBound ⟨Nat.le_of_ble_eq_true rfl, Nat.le_of_ble_eq_true rfl⟩) ⟨pC.blind, pC.pre hPc hG hDc⟩ rfl rfl hl.1 rfl (lv_room (Nat.le_of_ble_eq_true rfl)) dX11_rings_20 ⟨b14z.1, b14z.2⟩) hP hD hS hA rfl rfl rfl (by decide) (fun x16z u15z H locs hw hP hD hS => ?_)
      obtain rfl := hw.symm
      have hP : va_P (dC, dI) vwCl (wd46 cyI cyJ cyZ q_G q_Sc q_Tb q_Sk q_Pk1 q_row q_all q_apart q_Pr q_Sp q_Ch q_Wh q_Mk q_Tr q_Ws pk1_wanted pk1_seen n_row a_row n_all a_all n_apart a_apart) H := hP.sub [0, 1, 2, 3, 4, 5, 6, 7] rfl
      have hD : va_D A (wd46 cyI cyJ cyZ q_G q_Sc q_Tb q_Sk q_Pk1 q_row q_all q_apart q_Pr q_Sp q_Ch q_Wh q_Mk q_Tr q_Ws pk1_wanted pk1_seen n_row a_row n_all a_all n_apart a_apart) := hD.sub [0, 1, 2, 3, 4, 5, 6, 7] (by decide) rfl
      refine lv_if_eq (tgt := 32) hx hb dX11_rings_23 (by decide) (fun c17z => ?_) (fun c17z => ?_)
      · have h := xt h c17z
        refine lv_iconst (v := (-1 : Int32)) hx hb dX11_rings_32 (by decide) ?_
        obtain ⟨b18z, h⟩ := xa h
        refine W.widen (k := MC) (n := MS) b18z.1 b18z.2 ?_
        obtain rfl := Option.some.inj h
        exact W.iret (v := (-1 : Int32)) hx hb hr (fun t ht hW => ⟨⟨_, (q_row, q_all, q_apart), rfl, rfl, by rw [ht]; exact hP, hD⟩, hS.F ht⟩) hS.2.2 dX11_rings_33 hlocks
      · have h := xf h c17z
        refine lv_iload hx hb dX11_rings_26 (lv_at hl 4 rfl) ?_
        refine lv_iconst (v := (-1 : Int32)) hx hb dX11_rings_28 (by decide) ?_
        refine lv_icmp_ge (tgt := 34) hx hb dX11_rings_29 (by decide) (fun c19z => ?_) (fun c19z => ?_)
        · have h := xt h c19z
          refine lv_aload_n hx hb dX11_rings_34 rfl (lv_at hl 0 rfl) ?_
          refine va_get (D := (dC, dI)) (ci := 11) (v := .ref q_Tb) (C := RX11) (T := TX11) (N := 9) hx hb hts iw_X11_rings_X11 hown hK hP 0 rfl rfl 3 (by decide) (hts (.fieldLink RX11 42 "GoesInto" "tables" "LGoesInto$Tables;") (List.mem_of_getElem? (i := 1) rfl)) (fun _ h9 => h9) rfl dX11_rings_35 ?_
          obtain ⟨b21z, h⟩ := xa h
          obtain ⟨r20z, hr20z, h⟩ := xb_at h
          have hPc := hP.sub (ws' := (wd14 cyI cyJ cyZ q_Sc q_Tb q_row q_all q_apart n_row a_row n_all a_all n_apart a_apart)) [1, 2, 5, 6, 7] rfl
          have hDc := hD.sub (ws' := (wd14 cyI cyJ cyZ q_Sc q_Tb q_row q_all q_apart n_row a_row n_all a_all n_apart a_apart)) [1, 2, 5, 6, 7] (by decide) rfl
          refine cal_v [1, 2, 5, 6, 7] [0, 3, 4] (va_runV (As := []) (rest := []) ⟨hx, hb, hml, hown, hts⟩ (c_X7_prepare l dC dI cyI cyJ cyZ N (if 0 < nI n_all then 0 else 2 + (if nI n_row = 0 then 1 else 0)) (if 0 < nI n_all then 0 else 100002 + (if nI n_row = 0 then 50001 else 0)) r20z H.size q_Sc q_Tb q_row q_all q_apart  n_row a_row n_all a_all n_apart a_apart hr20z) (cwV 0 hts gX11_rings_X7_prepare rfl rfl rfl ⟨rfl, hd_X7_prepare⟩ ⟨Nat.le_of_ble_eq_true rfl, Nat.le_of_ble_eq_true rfl⟩) ⟨pC.blind, va_recv hK hPc (ci := 7) (q0 := 1) rfl rfl, pC.pre hPc hG hDc⟩ rfl rfl hl.1 rfl (lv_room (Nat.le_of_ble_eq_true rfl)) dX11_rings_38 ⟨b21z.1, b21z.2⟩) hP hD hS hA rfl rfl rfl (by decide) (fun u22z H locs _ hP hD hS => ?_)
          have hP : va_P (dC, dI) vwCl (wd46 cyI cyJ cyZ q_G q_Sc q_Tb q_Sk q_Pk1 u22z.1 u22z.2.1 u22z.2.2 q_Pr q_Sp q_Ch q_Wh q_Mk q_Tr q_Ws pk1_wanted pk1_seen r20z.1 r20z.2.1 r20z.2.2.1 r20z.2.2.2.1 r20z.2.2.2.2.1 r20z.2.2.2.2.2) H := hP.sub [0, 3, 4, 1, 2, 5, 6, 7] rfl
          have hD : va_D A (wd46 cyI cyJ cyZ q_G q_Sc q_Tb q_Sk q_Pk1 u22z.1 u22z.2.1 u22z.2.2 q_Pr q_Sp q_Ch q_Wh q_Mk q_Tr q_Ws pk1_wanted pk1_seen r20z.1 r20z.2.1 r20z.2.2.1 r20z.2.2.2.1 r20z.2.2.2.2.1 r20z.2.2.2.2.2) := hD.sub [0, 3, 4, 1, 2, 5, 6, 7] (by decide) rfl
          refine lv_aload_n hx hb dX11_rings_41 rfl (lv_at hl 0 rfl) ?_
          refine va_get (D := (dC, dI)) (ci := 11) (v := .ref q_Sk) (C := RX11) (T := TX11) (N := 9) hx hb hts iw_X11_rings_X11 hown hK hP 0 rfl rfl 4 (by decide) (hts (.fieldLink RX11 51 "GoesInto" "seeker" "LGoesInto$Seeker;") (List.mem_of_getElem? (i := 2) rfl)) (fun _ h9 => h9) rfl dX11_rings_42 ?_
          refine lv_iload_n hx hb dX11_rings_45 rfl (lv_at hl 1 rfl) ?_
          refine lv_iload_n hx hb dX11_rings_46 rfl (lv_at hl 2 rfl) ?_
          refine lv_iload_n hx hb dX11_rings_47 rfl (lv_at hl 3 rfl) ?_
          refine lv_iload hx hb dX11_rings_48 (lv_at hl 4 rfl) ?_
          obtain ⟨b25z, h⟩ := xa h
          obtain ⟨r24z, hr24z, h⟩ := xb_at h
          have hPc := hP.sub (ws' := (wd18 cyI cyJ cyZ q_Tb q_Sk q_Pk1 u22z.2.1 u22z.2.2 q_Sc pk1_wanted pk1_seen r20z.2.2.1 r20z.2.2.2.1 r20z.2.2.2.2.1 r20z.2.2.2.2.2)) [2, 3, 4, 6, 7] rfl
          have hDc := hD.sub (ws' := (wd18 cyI cyJ cyZ q_Tb q_Sk q_Pk1 u22z.2.1 u22z.2.2 q_Sc pk1_wanted pk1_seen r20z.2.2.1 r20z.2.2.2.1 r20z.2.2.2.2.1 r20z.2.2.2.2.2)) [2, 3, 4, 6, 7] (by decide) rfl
          refine cal_i [2, 3, 4, 6, 7] [0, 1, 5] (va_runV (As := [.int v1, .int v2, .int v3, .int v4]) (rest := []) ⟨hx, hb, hml, hown, hts⟩ (c_X5_ringAt l dC dI cyI cyJ cyZ N r24z H.size q_Tb q_Sk q_Pk1 u22z.2.1 u22z.2.2 q_Sc v1 v2 v3 v4 pk1_wanted pk1_seen r20z.2.2.1 r20z.2.2.2.1 r20z.2.2.2.2.1 r20z.2.2.2.2.2 hr24z) (cwV 4 hts gX11_rings_X5_ringAt rfl rfl rfl ⟨rfl, hd_X5_ringAt⟩ ⟨Nat.le_of_ble_eq_true rfl, Nat.le_of_ble_eq_true rfl⟩) ⟨pC.blind, va_recv hK hPc (ci := 5) (q0 := 1) rfl rfl, pC.pre hPc hG hDc⟩ rfl rfl hl.1 rfl (lv_room (Nat.le_of_ble_eq_true rfl)) dX11_rings_50 ⟨b25z.1, b25z.2⟩) hP hD hS hA rfl rfl rfl (by decide) (fun x27z u26z H locs hw hP hD hS => ?_)
          obtain rfl := hw.symm
          have hP : va_P (dC, dI) vwCl (wd46 cyI cyJ cyZ q_G q_Sc q_Tb q_Sk q_Pk1 u22z.1 u22z.2.1 u22z.2.2 q_Pr q_Sp q_Ch q_Wh q_Mk q_Tr q_Ws r24z.2.1 r24z.2.2 r20z.1 r20z.2.1 r20z.2.2.1 r20z.2.2.2.1 r20z.2.2.2.2.1 r20z.2.2.2.2.2) H := hP.sub [0, 1, 3, 4, 5, 2, 6, 7] rfl
          have hD : va_D A (wd46 cyI cyJ cyZ q_G q_Sc q_Tb q_Sk q_Pk1 u22z.1 u22z.2.1 u22z.2.2 q_Pr q_Sp q_Ch q_Wh q_Mk q_Tr q_Ws r24z.2.1 r24z.2.2 r20z.1 r20z.2.1 r20z.2.2.1 r20z.2.2.2.1 r20z.2.2.2.2.1 r20z.2.2.2.2.2) := hD.sub [0, 1, 3, 4, 5, 2, 6, 7] (by decide) rfl
          obtain ⟨b28z, h⟩ := xa h
          refine W.widen (k := MC) (n := MS) b28z.1 b28z.2 ?_
          obtain rfl := Option.some.inj h
          exact W.iret (v := r24z.1) hx hb hr (fun t ht hW => ⟨⟨_, (u22z.1, u22z.2.1, u22z.2.2), rfl, rfl, by rw [ht]; exact hP, hD⟩, hS.F ht⟩) hS.2.2 dX11_rings_53 hlocks
        · have h := xf h c19z
          refine lv_iconst (v := (-1 : Int32)) hx hb dX11_rings_32 (by decide) ?_
          obtain ⟨b29z, h⟩ := xa h
          refine W.widen (k := MC) (n := MS) b29z.1 b29z.2 ?_
          obtain rfl := Option.some.inj h
          exact W.iret (v := (-1 : Int32)) hx hb hr (fun t ht hW => ⟨⟨_, (q_row, q_all, q_apart), rfl, rfl, by rw [ht]; exact hP, hD⟩, hS.F ht⟩) hS.2.2 dX11_rings_33 hlocks
set_option maxRecDepth 100000 in
set_option maxHeartbeats 4000000 in
theorem c_X11_rings (l : Launch) (dC : Nat → ClassId) (dI : Nat → Nat → Nat) (cyI cyJ cyZ : ClassId) (N : Nat) (MC MS : Nat) (res : Int32 × Int32 × Int32 × Nat × (Nat → Int32) × Nat × (Nat → Int32) × Nat × (Nat → Int32)) (sz : Nat) (q_G : Nat) (q_Sc : Nat) (q_Tb : Nat) (q_Sk : Nat) (q_Pk1 : Nat) (q_row : Nat) (q_all : Nat) (q_apart : Nat) (q_Pr : Nat) (q_Sp : Nat) (q_Ch : Nat) (q_Wh : Nat) (q_Mk : Nat) (q_Tr : Nat) (q_Ws : Nat) (v1 : Int32) (v2 : Int32) (v3 : Int32) (v4 : Int32) (pk1_wanted : Int32) (pk1_seen : Int32) (n_row : Nat) (a_row : Nat → Int32) (n_all : Nat) (a_all : Nat → Int32) (n_apart : Nat) (a_apart : Nat → Int32) (h : f_X11_rings N MC MS v1 v2 v3 v4 pk1_wanted pk1_seen n_row a_row n_all a_all n_apart a_apart = some res) : Met l yX11_rings wsX11_rings (rm_X11_rings MC MS) (pC dC dI cyI cyJ cyZ [.ref q_G, .int v1, .int v2, .int v3, .int v4] sz (wd46 cyI cyJ cyZ q_G q_Sc q_Tb q_Sk q_Pk1 q_row q_all q_apart q_Pr q_Sp q_Ch q_Wh q_Mk q_Tr q_Ws pk1_wanted pk1_seen n_row a_row n_all a_all n_apart a_apart)) (va_Qi (fun (r : Int32) (_ : Nat × Nat × Nat) => r = res.1) (bW dC dI (fun (u : Nat × Nat × Nat) => (wd46 cyI cyJ cyZ q_G q_Sc q_Tb q_Sk q_Pk1 u.1 u.2.1 u.2.2 q_Pr q_Sp q_Ch q_Wh q_Mk q_Tr q_Ws res.2.1 res.2.2.1 res.2.2.2.1 res.2.2.2.2.1 res.2.2.2.2.2.1 res.2.2.2.2.2.2.1 res.2.2.2.2.2.2.2.1 res.2.2.2.2.2.2.2.2)) (va_A (wd46 cyI cyJ cyZ q_G q_Sc q_Tb q_Sk q_Pk1 q_row q_all q_apart q_Pr q_Sp q_Ch q_Wh q_Mk q_Tr q_Ws pk1_wanted pk1_seen n_row a_row n_all a_all n_apart a_apart) sz)) (va_A (wd46 cyI cyJ cyZ q_G q_Sc q_Tb q_Sk q_Pk1 q_row q_all q_apart q_Pr q_Sp q_Ch q_Wh q_Mk q_Tr q_Ws pk1_wanted pk1_seen n_row a_row n_all a_all n_apart a_apart) sz)) MC MS (va_A (wd46 cyI cyJ cyZ q_G q_Sc q_Tb q_Sk q_Pk1 q_row q_all q_apart q_Pr q_Sp q_Ch q_Wh q_Mk q_Tr q_Ws pk1_wanted pk1_seen n_row a_row n_all a_all n_apart a_apart) sz) := by
  refine Met.ofW (cc := cX11_rings) (maxL := 5) (ret := (some .int)) (by decide) rfl ?_
  intro p e s m args below meth c s₁ B hml hv
  obtain ⟨rfl, hsz, hP, hG, hD0⟩ := hv
  have hx := B.exec
  have hb := B.bytes
  have hr := B.returns
  have hts := atoms_spec (ws := wsX11_rings) B.pre
  have hown : s.vm.findClass RX11 = some m.cls := findClass_of_methodNamed B.named
  have hlocks := B.notSynchronized
  subst hsz
  have hD := hD0.self (sz := s.heap.size)
  generalize hAe : va_A (wd46 cyI cyJ cyZ q_G q_Sc q_Tb q_Sk q_Pk1 q_row q_all q_apart q_Pr q_Sp q_Ch q_Wh q_Mk q_Tr q_Ws pk1_wanted pk1_seen n_row a_row n_all a_all n_apart a_apart) s.heap.size = A at hD ⊢
  have hA : ∀ q : Nat, s.heap.size ≤ q → A q := fun q h => by rw [← hAe]; exact Or.inr h
  have hS : va_S A s.heap s.heap [] := va_S.rf
  have hl := lv_entry ([.ref q_G, .int v1, .int v2, .int v3, .int v4]) (n := 5) (Nat.le_of_ble_eq_true rfl)
  rw [lg_entry_eq]
  generalize (lg_sl ([.ref q_G, .int v1, .int v2, .int v3, .int v4]) ++ List.replicate (5 - (lg_sl ([.ref q_G, .int v1, .int v2, .int v3, .int v4])).length) Slot.unset).toArray = ls at hl ⊢
  have hl : lv_has ls 5 [(0, .ref q_G), (1, .int v1), (2, .int v2), (3, .int v3), (4, .int v4)] := hl
  exact k_X11_rings_0 ⟨hx, hb, hr, hml, hown, hts, hlocks, hG, hA⟩ N MC MS res q_G q_Sc q_Tb q_Sk q_Pk1 q_Pr q_Sp q_Ch q_Wh q_Mk q_Tr q_Ws v1 v2 v3 v4 pk1_wanted pk1_seen n_row a_row n_all a_all n_apart a_apart q_row q_all q_apart h _ _ hP hD hS _ hl
abbrev rm_X11_having (MC MS : Nat) : Room := { frames := 4, cells := MC, slots := MS, locals := 87 }
theorem hd_X11_having : yX11_having.cls ≠ "java/lang/invoke/MethodHandle" ∧ yX11_having.cls ≠ "java/lang/invoke/VarHandle" ∧ (parseMethodDescriptor yX11_having.desc).map (fun d => d.parameters.length) = some 4 := by decide +kernel
theorem iw_X11_having_X11 : ∀ w ∈ wsX110, w ∈ wsX11_having := List.forall_mem_cons.mpr ⟨List.mem_of_getElem? (i := 71) rfl, List.forall_mem_cons.mpr ⟨List.mem_of_getElem? (i := 72) rfl, List.forall_mem_cons.mpr ⟨List.mem_of_getElem? (i := 73) rfl, List.forall_mem_cons.mpr ⟨List.mem_of_getElem? (i := 74) rfl, List.forall_mem_cons.mpr ⟨List.mem_of_getElem? (i := 75) rfl, List.forall_mem_cons.mpr ⟨List.mem_of_getElem? (i := 76) rfl, List.forall_mem_cons.mpr ⟨List.mem_of_getElem? (i := 77) rfl, List.forall_mem_cons.mpr ⟨List.mem_of_getElem? (i := 78) rfl, List.forall_mem_cons.mpr ⟨List.mem_of_getElem? (i := 79) rfl, fun _ h => absurd h List.not_mem_nil⟩⟩⟩⟩⟩⟩⟩⟩⟩
theorem iw_X11_having_X4 : ∀ w ∈ wsX40, w ∈ wsX11_having := List.forall_mem_cons.mpr ⟨List.mem_of_getElem? (i := 83) rfl, fun _ h => absurd h List.not_mem_nil⟩
theorem iw_X11_having_X7 : ∀ w ∈ wsX70, w ∈ wsX11_having := List.forall_mem_cons.mpr ⟨List.mem_of_getElem? (i := 80) rfl, List.forall_mem_cons.mpr ⟨List.mem_of_getElem? (i := 81) rfl, List.forall_mem_cons.mpr ⟨List.mem_of_getElem? (i := 82) rfl, fun _ h => absurd h List.not_mem_nil⟩⟩⟩
theorem iw_X11_having_X5 : ∀ w ∈ wsX50, w ∈ wsX11_having := List.forall_mem_cons.mpr ⟨List.mem_of_getElem? (i := 84) rfl, List.forall_mem_cons.mpr ⟨List.mem_of_getElem? (i := 85) rfl, List.forall_mem_cons.mpr ⟨List.mem_of_getElem? (i := 86) rfl, fun _ h => absurd h List.not_mem_nil⟩⟩⟩
theorem iw_X11_having_X2 : ∀ w ∈ wsX20, w ∈ wsX11_having := List.forall_mem_cons.mpr ⟨List.mem_of_getElem? (i := 87) rfl, List.forall_mem_cons.mpr ⟨List.mem_of_getElem? (i := 88) rfl, fun _ h => absurd h List.not_mem_nil⟩⟩
def f_X11_having (N : Nat) (MC : Nat) (MS : Nat) (v1 : Int32) (v2 : Int32) (v3 : Int32) (v4 : Int32) (pk1_wanted : Int32) (pk1_seen : Int32) (n_row : Nat) (a_row : Nat → Int32) (n_all : Nat) (a_all : Nat → Int32) (n_apart : Nat) (a_apart : Nat → Int32) : Option (Int32 × Int32 × Int32 × Nat × (Nat → Int32) × Nat × (Nat → Int32) × Nat × (Nat → Int32)) :=
  if 0 ≤ MC ∧ 0 ≤ MS then
    Option.bind (f_X11_within N v1 (0 : Int32) (3 : Int32)) fun r1z =>
    if r1z = 0 then
      if 0 ≤ MC ∧ 0 ≤ MS then
        some ((-1 : Int32), pk1_wanted, pk1_seen, n_row, a_row, n_all, a_all, n_apart, a_apart)
      else
        none
    else
      if 0 ≤ MC ∧ 0 ≤ MS then
        Option.bind (f_X11_within N v2 (0 : Int32) (100000 : Int32)) fun r7z =>
        if r7z = 0 then
          if 0 ≤ MC ∧ 0 ≤ MS then
            some ((-1 : Int32), pk1_wanted, pk1_seen, n_row, a_row, n_all, a_all, n_apart, a_apart)
          else
            none
        else
          if 0 ≤ MC ∧ 0 ≤ MS then
            Option.bind (f_X11_isBound N v3) fun r13z =>
            if r13z = 0 then
              if 0 ≤ MC ∧ 0 ≤ MS then
                some ((-1 : Int32), pk1_wanted, pk1_seen, n_row, a_row, n_all, a_all, n_apart, a_apart)
              else
                none
            else
              if (-1 : Int32) ≤ v4 then
                if 0 + (if 0 < nI n_all then 0 else 2 + (if nI n_row = 0 then 1 else 0)) ≤ MC ∧ 0 + (if 0 < nI n_all then 0 else 100002 + (if nI n_row = 0 then 50001 else 0)) ≤ MS then
                  Option.bind (f_X7_prepare N (if 0 < nI n_all then 0 else 2 + (if nI n_row = 0 then 1 else 0)) (if 0 < nI n_all then 0 else 100002 + (if nI n_row = 0 then 50001 else 0))  n_row a_row n_all a_all n_apart a_apart) fun r20z =>
                  if 0 + (if 0 < nI n_all then 0 else 2 + (if nI n_row = 0 then 1 else 0)) ≤ MC ∧ 0 + (if 0 < nI n_all then 0 else 100002 + (if nI n_row = 0 then 50001 else 0)) ≤ MS then
                    Option.bind (f_X5_havingAt N v1 v2 v3 v4 pk1_wanted pk1_seen r20z.2.2.1 r20z.2.2.2.1 r20z.2.2.2.2.1 r20z.2.2.2.2.2) fun r24z =>
                    if 0 + (if 0 < nI n_all then 0 else 2 + (if nI n_row = 0 then 1 else 0)) ≤ MC ∧ 0 + (if 0 < nI n_all then 0 else 100002 + (if nI n_row = 0 then 50001 else 0)) ≤ MS then
                      some (r24z.1, r24z.2.1, r24z.2.2, r20z.1, r20z.2.1, r20z.2.2.1, r20z.2.2.2.1, r20z.2.2.2.2.1, r20z.2.2.2.2.2)
                    else
                      none
                  else
                    none
                else
                  none
              else
                if 0 ≤ MC ∧ 0 ≤ MS then
                  some ((-1 : Int32), pk1_wanted, pk1_seen, n_row, a_row, n_all, a_all, n_apart, a_apart)
                else
                  none
          else
            none
      else
        none
  else
    none
set_option maxRecDepth 100000 in
set_option maxHeartbeats 4000000 in
theorem k_X11_having_0 {p : Program} {l : Launch} {e : Env} {s : State} {m : MethodId} {args : Array Value} {below : List Frame} {meth : Method} {c : Code} {dC : Nat → ClassId} {dI : Nat → Nat → Nat} {cyI cyJ cyZ : ClassId} {A : Nat → Prop} (C0 : mC p s m meth c args cX11_having (some .int) 5 RX11 wsX11_having (gK dC dI cyI cyJ cyZ) A) (N : Nat) (MC MS : Nat) (res : Int32 × Int32 × Int32 × Nat × (Nat → Int32) × Nat × (Nat → Int32) × Nat × (Nat → Int32)) (q_G : Nat) (q_Sc : Nat) (q_Tb : Nat) (q_Sk : Nat) (q_Pk1 : Nat) (q_Pr : Nat) (q_Sp : Nat) (q_Ch : Nat) (q_Wh : Nat) (q_Mk : Nat) (q_Tr : Nat) (q_Ws : Nat) (v1 : Int32) (v2 : Int32) (v3 : Int32) (v4 : Int32) (pk1_wanted : Int32) (pk1_seen : Int32) (n_row : Nat) (a_row : Nat → Int32) (n_all : Nat) (a_all : Nat → Int32) (n_apart : Nat) (a_apart : Nat → Int32) (q_row : Nat) (q_all : Nat) (q_apart : Nat) (h : f_X11_having N MC MS v1 v2 v3 v4 pk1_wanted pk1_seen n_row a_row n_all a_all n_apart a_apart = some res) : ∀ (H : Heap) (locs : List Loc), va_P (dC, dI) vwCl (wd46 cyI cyJ cyZ q_G q_Sc q_Tb q_Sk q_Pk1 q_row q_all q_apart q_Pr q_Sp q_Ch q_Wh q_Mk q_Tr q_Ws pk1_wanted pk1_seen n_row a_row n_all a_all n_apart a_apart) H → va_D A (wd46 cyI cyJ cyZ q_G q_Sc q_Tb q_Sk q_Pk1 q_row q_all q_apart q_Pr q_Sp q_Ch q_Wh q_Mk q_Tr q_Ws pk1_wanted pk1_seen n_row a_row n_all a_all n_apart a_apart) → va_S A s.heap H locs → ∀ (ls : Array Slot), lv_has ls 5 [(0, .ref q_G), (1, .int v1), (2, .int v2), (3, .int v3), (4, .int v4)] → W p l e (headSpec wsX11_having (rm_X11_having MC MS)).room s m args below meth c H locs 0 0 (MQ below (va_Qi (fun (r : Int32) (_ : Nat × Nat × Nat) => r = res.1) (bW dC dI (fun (u : Nat × Nat × Nat) => (wd46 cyI cyJ cyZ q_G q_Sc q_Tb q_Sk q_Pk1 u.1 u.2.1 u.2.2 q_Pr q_Sp q_Ch q_Wh q_Mk q_Tr q_Ws res.2.1 res.2.2.1 res.2.2.2.1 res.2.2.2.2.1 res.2.2.2.2.2.1 res.2.2.2.2.2.2.1 res.2.2.2.2.2.2.2.1 res.2.2.2.2.2.2.2.2)) A) A) args s MC MS A) (F0 m 0 ls []) := by
  obtain ⟨hx, hb, hr, hml, hown, hts, hlocks, hG, hA⟩ := id C0
  have hK := hG.1
  intro H locs hP hD hS ls hl
  unfold f_X11_having at h
  refine lv_iload_n hx hb dX11_having_0 rfl (lv_at hl 1 rfl) ?_
  refine lv_iconst (v := (0 : Int32)) hx hb dX11_having_1 (by decide) ?_
  refine lv_iconst (v := (3 : Int32)) hx hb dX11_having_2 (by decide) ?_
  obtain ⟨b2z, h⟩ := xa h
  obtain ⟨r1z, hr1z, h⟩ := xb_at h
  have hPc := hP.sub (ws' := (wd37 cyI cyJ cyZ)) [] rfl
  have hDc := hD.sub (ws' := (wd37 cyI cyJ cyZ)) [] (by decide) rfl
  refine cal_i [] [0, 1, 2, 3, 4, 5, 6, 7] (va_runS (As := [.int v1, .int (0 : Int32), .int (3 : Int32)]) (rest := []) ⟨hx, hb, hml, hown, hts⟩ (c_X11_within l dC dI cyI cyJ cyZ N r1z H.size  v1 (0 : Int32) (3 : Int32)  hr1z) (va_cwS 3 hts gX11_having_X11_within rfl rfl rfl hd_X11_within ⟨Nat.le_of_ble_eq_true rfl, Nat.le_of_ble_eq_true rfl⟩) ⟨pC.blind, pC.pre hPc hG hDc⟩ rfl rfl hl.1 rfl (lv_room (Nat.le_of_ble_eq_true rfl)) dX11_having_3 ⟨b2z.1, b2z.2⟩) hP hD hS hA rfl rfl rfl (by decide) (fun x4z u3z H locs hw hP hD hS => ?_)
  obtain rfl := hw.symm
  have hP : va_P (dC, dI) vwCl (wd46 cyI cyJ cyZ q_G q_Sc q_Tb q_Sk q_Pk1 q_row q_all q_apart q_Pr q_Sp q_Ch q_Wh q_Mk q_Tr q_Ws pk1_wanted pk1_seen n_row a_row n_all a_all n_apart a_apart) H := hP.sub [0, 1, 2, 3, 4, 5, 6, 7] rfl
  have hD : va_D A (wd46 cyI cyJ cyZ q_G q_Sc q_Tb q_Sk q_Pk1 q_row q_all q_apart q_Pr q_Sp q_Ch q_Wh q_Mk q_Tr q_Ws pk1_wanted pk1_seen n_row a_row n_all a_all n_apart a_apart) := hD.sub [0, 1, 2, 3, 4, 5, 6, 7] (by decide) rfl
  refine lv_if_eq (tgt := 32) hx hb dX11_having_6 (by decide) (fun c5z => ?_) (fun c5z => ?_)
  · have h := xt h c5z
    refine lv_iconst (v := (-1 : Int32)) hx hb dX11_having_32 (by decide) ?_
    obtain ⟨b6z, h⟩ := xa h
    refine W.widen (k := MC) (n := MS) b6z.1 b6z.2 ?_
    obtain rfl := Option.some.inj h
    exact W.iret (v := (-1 : Int32)) hx hb hr (fun t ht hW => ⟨⟨_, (q_row, q_all, q_apart), rfl, rfl, by rw [ht]; exact hP, hD⟩, hS.F ht⟩) hS.2.2 dX11_having_33 hlocks
  · have h := xf h c5z
    refine lv_iload_n hx hb dX11_having_9 rfl (lv_at hl 2 rfl) ?_
    refine lv_iconst (v := (0 : Int32)) hx hb dX11_having_10 (by decide) ?_
    refine lv_ldc (v := (100000 : Int32)) hx hb hown (hts (.constant RX11 156 (100000)) (List.mem_of_getElem? (i := 1) rfl)) dX11_having_11 ?_
    obtain ⟨b8z, h⟩ := xa h
    obtain ⟨r7z, hr7z, h⟩ := xb_at h
    have hPc := hP.sub (ws' := (wd37 cyI cyJ cyZ)) [] rfl
    have hDc := hD.sub (ws' := (wd37 cyI cyJ cyZ)) [] (by decide) rfl
    refine cal_i [] [0, 1, 2, 3, 4, 5, 6, 7] (va_runS (As := [.int v2, .int (0 : Int32), .int (100000 : Int32)]) (rest := []) ⟨hx, hb, hml, hown, hts⟩ (c_X11_within l dC dI cyI cyJ cyZ N r7z H.size  v2 (0 : Int32) (100000 : Int32)  hr7z) (va_cwS 3 hts gX11_having_X11_within rfl rfl rfl hd_X11_within ⟨Nat.le_of_ble_eq_true rfl, Nat.le_of_ble_eq_true rfl⟩) ⟨pC.blind, pC.pre hPc hG hDc⟩ rfl rfl hl.1 rfl (lv_room (Nat.le_of_ble_eq_true rfl)) dX11_having_13 ⟨b8z.1, b8z.2⟩) hP hD hS hA rfl rfl rfl (by decide) (fun x10z u9z H locs hw hP hD hS => ?_)
    obtain rfl := hw.symm
    have hP : va_P (dC, dI) vwCl (wd46 cyI cyJ cyZ q_G q_Sc q_Tb q_Sk q_Pk1 q_row q_all q_apart q_Pr q_Sp q_Ch q_Wh q_Mk q_Tr q_Ws pk1_wanted pk1_seen n_row a_row n_all a_all n_apart a_apart) H := hP.sub [0, 1, 2, 3, 4, 5, 6, 7] rfl
    have hD : va_D A (wd46 cyI cyJ cyZ q_G q_Sc q_Tb q_Sk q_Pk1 q_row q_all q_apart q_Pr q_Sp q_Ch q_Wh q_Mk q_Tr q_Ws pk1_wanted pk1_seen n_row a_row n_all a_all n_apart a_apart) := hD.sub [0, 1, 2, 3, 4, 5, 6, 7] (by decide) rfl
    refine lv_if_eq (tgt := 32) hx hb dX11_having_16 (by decide) (fun c11z => ?_) (fun c11z => ?_)
    · have h := xt h c11z
      refine lv_iconst (v := (-1 : Int32)) hx hb dX11_having_32 (by decide) ?_
      obtain ⟨b12z, h⟩ := xa h
      refine W.widen (k := MC) (n := MS) b12z.1 b12z.2 ?_
      obtain rfl := Option.some.inj h
      exact W.iret (v := (-1 : Int32)) hx hb hr (fun t ht hW => ⟨⟨_, (q_row, q_all, q_apart), rfl, rfl, by rw [ht]; exact hP, hD⟩, hS.F ht⟩) hS.2.2 dX11_having_33 hlocks
    · have h := xf h c11z
      refine lv_iload_n hx hb dX11_having_19 rfl (lv_at hl 3 rfl) ?_
      obtain ⟨b14z, h⟩ := xa h
      obtain ⟨r13z, hr13z, h⟩ := xb_at h
      have hPc := hP.sub (ws' := (wd37 cyI cyJ cyZ)) [] rfl
      have hDc := hD.sub (ws' := (wd37 cyI cyJ cyZ)) [] (by decide) rfl
      refine cal_i [] [0, 1, 2, 3, 4, 5, 6, 7] (va_runS (As := [.int v3]) (rest := []) ⟨hx, hb, hml, hown, hts⟩ (c_X11_isBound l dC dI cyI cyJ cyZ N r13z H.size  v3  hr13z) (va_cwS 1 hts gX11_having_X11_isBound rfl rfl rfl hd_X11_isBound ⟨Nat.le_of_ble_eq_true rfl, Nat.le_of_ble_eq_true rfl⟩) ⟨pC.blind, pC.pre hPc hG hDc⟩ rfl rfl hl.1 rfl (lv_room (Nat.le_of_ble_eq_true rfl)) dX11_having_20 ⟨b14z.1, b14z.2⟩) hP hD hS hA rfl rfl rfl (by decide) (fun x16z u15z H locs hw hP hD hS => ?_)
      obtain rfl := hw.symm
      have hP : va_P (dC, dI) vwCl (wd46 cyI cyJ cyZ q_G q_Sc q_Tb q_Sk q_Pk1 q_row q_all q_apart q_Pr q_Sp q_Ch q_Wh q_Mk q_Tr q_Ws pk1_wanted pk1_seen n_row a_row n_all a_all n_apart a_apart) H := hP.sub [0, 1, 2, 3, 4, 5, 6, 7] rfl
      have hD : va_D A (wd46 cyI cyJ cyZ q_G q_Sc q_Tb q_Sk q_Pk1 q_row q_all q_apart q_Pr q_Sp q_Ch q_Wh q_Mk q_Tr q_Ws pk1_wanted pk1_seen n_row a_row n_all a_all n_apart a_apart) := hD.sub [0, 1, 2, 3, 4, 5, 6, 7] (by decide) rfl
      refine lv_if_eq (tgt := 32) hx hb dX11_having_23 (by decide) (fun c17z => ?_) (fun c17z => ?_)
      · have h := xt h c17z
        refine lv_iconst (v := (-1 : Int32)) hx hb dX11_having_32 (by decide) ?_
        obtain ⟨b18z, h⟩ := xa h
        refine W.widen (k := MC) (n := MS) b18z.1 b18z.2 ?_
        obtain rfl := Option.some.inj h
        exact W.iret (v := (-1 : Int32)) hx hb hr (fun t ht hW => ⟨⟨_, (q_row, q_all, q_apart), rfl, rfl, by rw [ht]; exact hP, hD⟩, hS.F ht⟩) hS.2.2 dX11_having_33 hlocks
      · have h := xf h c17z
        refine lv_iload hx hb dX11_having_26 (lv_at hl 4 rfl) ?_
        refine lv_iconst (v := (-1 : Int32)) hx hb dX11_having_28 (by decide) ?_
        refine lv_icmp_ge (tgt := 34) hx hb dX11_having_29 (by decide) (fun c19z => ?_) (fun c19z => ?_)
        · have h := xt h c19z
          refine lv_aload_n hx hb dX11_having_34 rfl (lv_at hl 0 rfl) ?_
          refine va_get (D := (dC, dI)) (ci := 11) (v := .ref q_Tb) (C := RX11) (T := TX11) (N := 9) hx hb hts iw_X11_having_X11 hown hK hP 0 rfl rfl 3 (by decide) (hts (.fieldLink RX11 42 "GoesInto" "tables" "LGoesInto$Tables;") (List.mem_of_getElem? (i := 2) rfl)) (fun _ h9 => h9) rfl dX11_having_35 ?_
          obtain ⟨b21z, h⟩ := xa h
          obtain ⟨r20z, hr20z, h⟩ := xb_at h
          have hPc := hP.sub (ws' := (wd14 cyI cyJ cyZ q_Sc q_Tb q_row q_all q_apart n_row a_row n_all a_all n_apart a_apart)) [1, 2, 5, 6, 7] rfl
          have hDc := hD.sub (ws' := (wd14 cyI cyJ cyZ q_Sc q_Tb q_row q_all q_apart n_row a_row n_all a_all n_apart a_apart)) [1, 2, 5, 6, 7] (by decide) rfl
          refine cal_v [1, 2, 5, 6, 7] [0, 3, 4] (va_runV (As := []) (rest := []) ⟨hx, hb, hml, hown, hts⟩ (c_X7_prepare l dC dI cyI cyJ cyZ N (if 0 < nI n_all then 0 else 2 + (if nI n_row = 0 then 1 else 0)) (if 0 < nI n_all then 0 else 100002 + (if nI n_row = 0 then 50001 else 0)) r20z H.size q_Sc q_Tb q_row q_all q_apart  n_row a_row n_all a_all n_apart a_apart hr20z) (cwV 0 hts gX11_having_X7_prepare rfl rfl rfl ⟨rfl, hd_X7_prepare⟩ ⟨Nat.le_of_ble_eq_true rfl, Nat.le_of_ble_eq_true rfl⟩) ⟨pC.blind, va_recv hK hPc (ci := 7) (q0 := 1) rfl rfl, pC.pre hPc hG hDc⟩ rfl rfl hl.1 rfl (lv_room (Nat.le_of_ble_eq_true rfl)) dX11_having_38 ⟨b21z.1, b21z.2⟩) hP hD hS hA rfl rfl rfl (by decide) (fun u22z H locs _ hP hD hS => ?_)
          have hP : va_P (dC, dI) vwCl (wd46 cyI cyJ cyZ q_G q_Sc q_Tb q_Sk q_Pk1 u22z.1 u22z.2.1 u22z.2.2 q_Pr q_Sp q_Ch q_Wh q_Mk q_Tr q_Ws pk1_wanted pk1_seen r20z.1 r20z.2.1 r20z.2.2.1 r20z.2.2.2.1 r20z.2.2.2.2.1 r20z.2.2.2.2.2) H := hP.sub [0, 3, 4, 1, 2, 5, 6, 7] rfl
          have hD : va_D A (wd46 cyI cyJ cyZ q_G q_Sc q_Tb q_Sk q_Pk1 u22z.1 u22z.2.1 u22z.2.2 q_Pr q_Sp q_Ch q_Wh q_Mk q_Tr q_Ws pk1_wanted pk1_seen r20z.1 r20z.2.1 r20z.2.2.1 r20z.2.2.2.1 r20z.2.2.2.2.1 r20z.2.2.2.2.2) := hD.sub [0, 3, 4, 1, 2, 5, 6, 7] (by decide) rfl
          refine lv_aload_n hx hb dX11_having_41 rfl (lv_at hl 0 rfl) ?_
          refine va_get (D := (dC, dI)) (ci := 11) (v := .ref q_Sk) (C := RX11) (T := TX11) (N := 9) hx hb hts iw_X11_having_X11 hown hK hP 0 rfl rfl 4 (by decide) (hts (.fieldLink RX11 51 "GoesInto" "seeker" "LGoesInto$Seeker;") (List.mem_of_getElem? (i := 3) rfl)) (fun _ h9 => h9) rfl dX11_having_42 ?_
          refine lv_iload_n hx hb dX11_having_45 rfl (lv_at hl 1 rfl) ?_
          refine lv_iload_n hx hb dX11_having_46 rfl (lv_at hl 2 rfl) ?_
          refine lv_iload_n hx hb dX11_having_47 rfl (lv_at hl 3 rfl) ?_
          refine lv_iload hx hb dX11_having_48 (lv_at hl 4 rfl) ?_
          obtain ⟨b25z, h⟩ := xa h
          obtain ⟨r24z, hr24z, h⟩ := xb_at h
          have hPc := hP.sub (ws' := (wd18 cyI cyJ cyZ q_Tb q_Sk q_Pk1 u22z.2.1 u22z.2.2 q_Sc pk1_wanted pk1_seen r20z.2.2.1 r20z.2.2.2.1 r20z.2.2.2.2.1 r20z.2.2.2.2.2)) [2, 3, 4, 6, 7] rfl
          have hDc := hD.sub (ws' := (wd18 cyI cyJ cyZ q_Tb q_Sk q_Pk1 u22z.2.1 u22z.2.2 q_Sc pk1_wanted pk1_seen r20z.2.2.1 r20z.2.2.2.1 r20z.2.2.2.2.1 r20z.2.2.2.2.2)) [2, 3, 4, 6, 7] (by decide) rfl
          refine cal_i [2, 3, 4, 6, 7] [0, 1, 5] (va_runV (As := [.int v1, .int v2, .int v3, .int v4]) (rest := []) ⟨hx, hb, hml, hown, hts⟩ (c_X5_havingAt l dC dI cyI cyJ cyZ N r24z H.size q_Tb q_Sk q_Pk1 u22z.2.1 u22z.2.2 q_Sc v1 v2 v3 v4 pk1_wanted pk1_seen r20z.2.2.1 r20z.2.2.2.1 r20z.2.2.2.2.1 r20z.2.2.2.2.2 hr24z) (cwV 4 hts gX11_having_X5_havingAt rfl rfl rfl ⟨rfl, hd_X5_havingAt⟩ ⟨Nat.le_of_ble_eq_true rfl, Nat.le_of_ble_eq_true rfl⟩) ⟨pC.blind, va_recv hK hPc (ci := 5) (q0 := 1) rfl rfl, pC.pre hPc hG hDc⟩ rfl rfl hl.1 rfl (lv_room (Nat.le_of_ble_eq_true rfl)) dX11_having_50 ⟨b25z.1, b25z.2⟩) hP hD hS hA rfl rfl rfl (by decide) (fun x27z u26z H locs hw hP hD hS => ?_)
          obtain rfl := hw.symm
          have hP : va_P (dC, dI) vwCl (wd46 cyI cyJ cyZ q_G q_Sc q_Tb q_Sk q_Pk1 u22z.1 u22z.2.1 u22z.2.2 q_Pr q_Sp q_Ch q_Wh q_Mk q_Tr q_Ws r24z.2.1 r24z.2.2 r20z.1 r20z.2.1 r20z.2.2.1 r20z.2.2.2.1 r20z.2.2.2.2.1 r20z.2.2.2.2.2) H := hP.sub [0, 1, 3, 4, 5, 2, 6, 7] rfl
          have hD : va_D A (wd46 cyI cyJ cyZ q_G q_Sc q_Tb q_Sk q_Pk1 u22z.1 u22z.2.1 u22z.2.2 q_Pr q_Sp q_Ch q_Wh q_Mk q_Tr q_Ws r24z.2.1 r24z.2.2 r20z.1 r20z.2.1 r20z.2.2.1 r20z.2.2.2.1 r20z.2.2.2.2.1 r20z.2.2.2.2.2) := hD.sub [0, 1, 3, 4, 5, 2, 6, 7] (by decide) rfl
          obtain ⟨b28z, h⟩ := xa h
          refine W.widen (k := MC) (n := MS) b28z.1 b28z.2 ?_
          obtain rfl := Option.some.inj h
          exact W.iret (v := r24z.1) hx hb hr (fun t ht hW => ⟨⟨_, (u22z.1, u22z.2.1, u22z.2.2), rfl, rfl, by rw [ht]; exact hP, hD⟩, hS.F ht⟩) hS.2.2 dX11_having_53 hlocks
        · have h := xf h c19z
          refine lv_iconst (v := (-1 : Int32)) hx hb dX11_having_32 (by decide) ?_
          obtain ⟨b29z, h⟩ := xa h
          refine W.widen (k := MC) (n := MS) b29z.1 b29z.2 ?_
          obtain rfl := Option.some.inj h
          exact W.iret (v := (-1 : Int32)) hx hb hr (fun t ht hW => ⟨⟨_, (q_row, q_all, q_apart), rfl, rfl, by rw [ht]; exact hP, hD⟩, hS.F ht⟩) hS.2.2 dX11_having_33 hlocks
set_option maxRecDepth 100000 in
set_option maxHeartbeats 4000000 in
theorem c_X11_having (l : Launch) (dC : Nat → ClassId) (dI : Nat → Nat → Nat) (cyI cyJ cyZ : ClassId) (N : Nat) (MC MS : Nat) (res : Int32 × Int32 × Int32 × Nat × (Nat → Int32) × Nat × (Nat → Int32) × Nat × (Nat → Int32)) (sz : Nat) (q_G : Nat) (q_Sc : Nat) (q_Tb : Nat) (q_Sk : Nat) (q_Pk1 : Nat) (q_row : Nat) (q_all : Nat) (q_apart : Nat) (q_Pr : Nat) (q_Sp : Nat) (q_Ch : Nat) (q_Wh : Nat) (q_Mk : Nat) (q_Tr : Nat) (q_Ws : Nat) (v1 : Int32) (v2 : Int32) (v3 : Int32) (v4 : Int32) (pk1_wanted : Int32) (pk1_seen : Int32) (n_row : Nat) (a_row : Nat → Int32) (n_all : Nat) (a_all : Nat → Int32) (n_apart : Nat) (a_apart : Nat → Int32) (h : f_X11_having N MC MS v1 v2 v3 v4 pk1_wanted pk1_seen n_row a_row n_all a_all n_apart a_apart = some res) : Met l yX11_having wsX11_having (rm_X11_having MC MS) (pC dC dI cyI cyJ cyZ [.ref q_G, .int v1, .int v2, .int v3, .int v4] sz (wd46 cyI cyJ cyZ q_G q_Sc q_Tb q_Sk q_Pk1 q_row q_all q_apart q_Pr q_Sp q_Ch q_Wh q_Mk q_Tr q_Ws pk1_wanted pk1_seen n_row a_row n_all a_all n_apart a_apart)) (va_Qi (fun (r : Int32) (_ : Nat × Nat × Nat) => r = res.1) (bW dC dI (fun (u : Nat × Nat × Nat) => (wd46 cyI cyJ cyZ q_G q_Sc q_Tb q_Sk q_Pk1 u.1 u.2.1 u.2.2 q_Pr q_Sp q_Ch q_Wh q_Mk q_Tr q_Ws res.2.1 res.2.2.1 res.2.2.2.1 res.2.2.2.2.1 res.2.2.2.2.2.1 res.2.2.2.2.2.2.1 res.2.2.2.2.2.2.2.1 res.2.2.2.2.2.2.2.2)) (va_A (wd46 cyI cyJ cyZ q_G q_Sc q_Tb q_Sk q_Pk1 q_row q_all q_apart q_Pr q_Sp q_Ch q_Wh q_Mk q_Tr q_Ws pk1_wanted pk1_seen n_row a_row n_all a_all n_apart a_apart) sz)) (va_A (wd46 cyI cyJ cyZ q_G q_Sc q_Tb q_Sk q_Pk1 q_row q_all q_apart q_Pr q_Sp q_Ch q_Wh q_Mk q_Tr q_Ws pk1_wanted pk1_seen n_row a_row n_all a_all n_apart a_apart) sz)) MC MS (va_A (wd46 cyI cyJ cyZ q_G q_Sc q_Tb q_Sk q_Pk1 q_row q_all q_apart q_Pr q_Sp q_Ch q_Wh q_Mk q_Tr q_Ws pk1_wanted pk1_seen n_row a_row n_all a_all n_apart a_apart) sz) := by
  refine Met.ofW (cc := cX11_having) (maxL := 5) (ret := (some .int)) (by decide) rfl ?_
  intro p e s m args below meth c s₁ B hml hv
  obtain ⟨rfl, hsz, hP, hG, hD0⟩ := hv
  have hx := B.exec
  have hb := B.bytes
  have hr := B.returns
  have hts := atoms_spec (ws := wsX11_having) B.pre
  have hown : s.vm.findClass RX11 = some m.cls := findClass_of_methodNamed B.named
  have hlocks := B.notSynchronized
  subst hsz
  have hD := hD0.self (sz := s.heap.size)
  generalize hAe : va_A (wd46 cyI cyJ cyZ q_G q_Sc q_Tb q_Sk q_Pk1 q_row q_all q_apart q_Pr q_Sp q_Ch q_Wh q_Mk q_Tr q_Ws pk1_wanted pk1_seen n_row a_row n_all a_all n_apart a_apart) s.heap.size = A at hD ⊢
  have hA : ∀ q : Nat, s.heap.size ≤ q → A q := fun q h => by rw [← hAe]; exact Or.inr h
  have hS : va_S A s.heap s.heap [] := va_S.rf
  have hl := lv_entry ([.ref q_G, .int v1, .int v2, .int v3, .int v4]) (n := 5) (Nat.le_of_ble_eq_true rfl)
  rw [lg_entry_eq]
  generalize (lg_sl ([.ref q_G, .int v1, .int v2, .int v3, .int v4]) ++ List.replicate (5 - (lg_sl ([.ref q_G, .int v1, .int v2, .int v3, .int v4])).length) Slot.unset).toArray = ls at hl ⊢
  have hl : lv_has ls 5 [(0, .ref q_G), (1, .int v1), (2, .int v2), (3, .int v3), (4, .int v4)] := hl
  exact k_X11_having_0 ⟨hx, hb, hr, hml, hown, hts, hlocks, hG, hA⟩ N MC MS res q_G q_Sc q_Tb q_Sk q_Pk1 q_Pr q_Sp q_Ch q_Wh q_Mk q_Tr q_Ws v1 v2 v3 v4 pk1_wanted pk1_seen n_row a_row n_all a_all n_apart a_apart q_row q_all q_apart h _ _ hP hD hS _ hl
/-- the cells G, Sc, Pr, Sp, Wh, row, list, prime, times, parts, base, power, powerSum, found -/
abbrev wd47 (cyI cyJ cyZ : ClassId) (q_G : Nat) (q_Sc : Nat) (q_Pr : Nat) (q_Sp : Nat) (q_Wh : Nat) (q_row : Nat) (q_list : Nat) (q_prime : Nat) (q_times : Nat) (q_parts : Nat) (q_base : Nat) (q_power : Nat) (q_powerSum : Nat) (q_found : Nat) (q_Ch : Nat) (q_Tb : Nat) (q_Sk : Nat) (q_Mk : Nat) (q_Tr : Nat) (q_Ws : Nat) (sp_unlike : Int32) (sp_number : Int64) (sp_partsKept : Int32) (sp_partsNumber : Int64) (wh_powers : Int32) (wh_many : Int32) (wh_told : Int64) (n_row : Nat) (a_row : Nat → Int32) (n_list : Nat) (a_list : Nat → Int32) (a_prime : Nat → Int64) (a_times : Nat → Int32) (a_parts : Nat → Int64) (a_base : Nat → Int64) (a_power : Nat → Int64) (a_powerSum : Nat → Int64) (a_found : Nat → Int64) : va_W := [(q_G, .inr (11, [.ref q_Pr, .ref q_Sp, .ref q_Ch, .ref q_Tb, .ref q_Sk, .ref q_Wh, .ref q_Mk, .ref q_Tr, .ref q_Ws])), (q_Sc, .inr (4, [.ref q_row])), (q_Pr, .inr (3, [.ref q_Sc, .ref q_list])), (q_Sp, .inr (6, [.ref q_Pr, .ref q_prime, .ref q_times, .int sp_unlike, .long sp_number, .ref q_parts, .int sp_partsKept, .long sp_partsNumber])), (q_Wh, .inr (9, [.ref q_Sp, .ref q_Pr, .ref q_base, .ref q_power, .ref q_powerSum, .int wh_powers, .ref q_found, .int wh_many, .long wh_told])), (q_row, .inl (cyI, n_row, .inl a_row)), (q_list, .inl (cyI, n_list, .inl a_list)), (q_prime, .inl (cyJ, 12, .inr (.inl a_prime))), (q_times, .inl (cyI, 12, .inl a_times)), (q_parts, .inl (cyJ, 2304, .inr (.inl a_parts))), (q_base, .inl (cyJ, 400, .inr (.inl a_base))), (q_power, .inl (cyJ, 400, .inr (.inl a_power))), (q_powerSum, .inl (cyJ, 400, .inr (.inl a_powerSum))), (q_found, .inl (cyJ, 640, .inr (.inl a_found)))]
abbrev rm_X11_wholly (MC MS : Nat) : Room := { frames := 17, cells := MC, slots := MS, locals := 562 }
theorem hd_X11_wholly : yX11_wholly.cls ≠ "java/lang/invoke/MethodHandle" ∧ yX11_wholly.cls ≠ "java/lang/invoke/VarHandle" ∧ (parseMethodDescriptor yX11_wholly.desc).map (fun d => d.parameters.length) = some 2 := by decide +kernel
theorem iw_X11_wholly_X11 : ∀ w ∈ wsX110, w ∈ wsX11_wholly := List.forall_mem_cons.mpr ⟨List.mem_of_getElem? (i := 119) rfl, List.forall_mem_cons.mpr ⟨List.mem_of_getElem? (i := 120) rfl, List.forall_mem_cons.mpr ⟨List.mem_of_getElem? (i := 121) rfl, List.forall_mem_cons.mpr ⟨List.mem_of_getElem? (i := 122) rfl, List.forall_mem_cons.mpr ⟨List.mem_of_getElem? (i := 123) rfl, List.forall_mem_cons.mpr ⟨List.mem_of_getElem? (i := 124) rfl, List.forall_mem_cons.mpr ⟨List.mem_of_getElem? (i := 125) rfl, List.forall_mem_cons.mpr ⟨List.mem_of_getElem? (i := 126) rfl, List.forall_mem_cons.mpr ⟨List.mem_of_getElem? (i := 127) rfl, fun _ h => absurd h List.not_mem_nil⟩⟩⟩⟩⟩⟩⟩⟩⟩
theorem iw_X11_wholly_X4 : ∀ w ∈ wsX40, w ∈ wsX11_wholly := List.forall_mem_cons.mpr ⟨List.mem_of_getElem? (i := 130) rfl, fun _ h => absurd h List.not_mem_nil⟩
theorem iw_X11_wholly_X3 : ∀ w ∈ wsX30, w ∈ wsX11_wholly := List.forall_mem_cons.mpr ⟨List.mem_of_getElem? (i := 128) rfl, List.forall_mem_cons.mpr ⟨List.mem_of_getElem? (i := 129) rfl, fun _ h => absurd h List.not_mem_nil⟩⟩
theorem iw_X11_wholly_X6 : ∀ w ∈ wsX60, w ∈ wsX11_wholly := List.forall_mem_cons.mpr ⟨List.mem_of_getElem? (i := 140) rfl, List.forall_mem_cons.mpr ⟨List.mem_of_getElem? (i := 141) rfl, List.forall_mem_cons.mpr ⟨List.mem_of_getElem? (i := 142) rfl, List.forall_mem_cons.mpr ⟨List.mem_of_getElem? (i := 143) rfl, List.forall_mem_cons.mpr ⟨List.mem_of_getElem? (i := 144) rfl, List.forall_mem_cons.mpr ⟨List.mem_of_getElem? (i := 145) rfl, List.forall_mem_cons.mpr ⟨List.mem_of_getElem? (i := 146) rfl, List.forall_mem_cons.mpr ⟨List.mem_of_getElem? (i := 147) rfl, fun _ h => absurd h List.not_mem_nil⟩⟩⟩⟩⟩⟩⟩⟩
theorem iw_X11_wholly_X9 : ∀ w ∈ wsX90, w ∈ wsX11_wholly := List.forall_mem_cons.mpr ⟨List.mem_of_getElem? (i := 131) rfl, List.forall_mem_cons.mpr ⟨List.mem_of_getElem? (i := 132) rfl, List.forall_mem_cons.mpr ⟨List.mem_of_getElem? (i := 133) rfl, List.forall_mem_cons.mpr ⟨List.mem_of_getElem? (i := 134) rfl, List.forall_mem_cons.mpr ⟨List.mem_of_getElem? (i := 135) rfl, List.forall_mem_cons.mpr ⟨List.mem_of_getElem? (i := 136) rfl, List.forall_mem_cons.mpr ⟨List.mem_of_getElem? (i := 137) rfl, List.forall_mem_cons.mpr ⟨List.mem_of_getElem? (i := 138) rfl, List.forall_mem_cons.mpr ⟨List.mem_of_getElem? (i := 139) rfl, fun _ h => absurd h List.not_mem_nil⟩⟩⟩⟩⟩⟩⟩⟩⟩
def f_X11_wholly (N : Nat) (MC : Nat) (MS : Nat) (v1 : Int32) (v2 : Int32) (sp_unlike : Int32) (sp_number : Int64) (sp_partsKept : Int32) (sp_partsNumber : Int64) (wh_powers : Int32) (wh_many : Int32) (wh_told : Int64) (n_row : Nat) (a_row : Nat → Int32) (n_list : Nat) (a_list : Nat → Int32) (a_prime : Nat → Int64) (a_times : Nat → Int32) (a_parts : Nat → Int64) (a_base : Nat → Int64) (a_power : Nat → Int64) (a_powerSum : Nat → Int64) (a_found : Nat → Int64) : Option (Int32 × Int32 × Int64 × Int32 × Int64 × Int32 × Int32 × Int64 × Nat × (Nat → Int32) × Nat × (Nat → Int32) × (Nat → Int64) × (Nat → Int32) × (Nat → Int64) × (Nat → Int64) × (Nat → Int64) × (Nat → Int64) × (Nat → Int64)) :=
  if 0 ≤ MC ∧ 0 ≤ MS then
    Option.bind (f_X11_within N v1 (1 : Int32) (1000000 : Int32)) fun r1z =>
    if r1z = 0 then
      if 0 ≤ MC ∧ 0 ≤ MS then
        some ((-1 : Int32), sp_unlike, sp_number, sp_partsKept, sp_partsNumber, wh_powers, wh_many, wh_told, n_row, a_row, n_list, a_list, a_prime, a_times, a_parts, a_base, a_power, a_powerSum, a_found)
      else
        none
    else
      if (-1 : Int32) ≤ v2 then
        if 0 + (if 0 < nI n_list then 0 else 1 + (if nI n_row = 0 then 1 else 0)) ≤ MC ∧ 0 + (if 0 < nI n_list then 0 else 9592 + (if nI n_row = 0 then 50001 else 0)) ≤ MS then
          Option.bind (f_X3_prepare N (if 0 < nI n_list then 0 else 1 + (if nI n_row = 0 then 1 else 0)) (if 0 < nI n_list then 0 else 9592 + (if nI n_row = 0 then 50001 else 0))  n_row a_row n_list a_list) fun r8z =>
          if 0 + (if 0 < nI n_list then 0 else 1 + (if nI n_row = 0 then 1 else 0)) ≤ MC ∧ 0 + (if 0 < nI n_list then 0 else 9592 + (if nI n_row = 0 then 50001 else 0)) ≤ MS then
            Option.bind (f_X9_seek N v1.toInt64 sp_unlike sp_number sp_partsKept sp_partsNumber wh_powers wh_many wh_told r8z.2.2.1 r8z.2.2.2 a_prime a_times a_parts a_base a_power a_powerSum a_found) fun r12z =>
            if v2 = (-1 : Int32) then
              if 0 + (if 0 < nI n_list then 0 else 1 + (if nI n_row = 0 then 1 else 0)) ≤ MC ∧ 0 + (if 0 < nI n_list then 0 else 9592 + (if nI n_row = 0 then 50001 else 0)) ≤ MS then
                Option.bind (f_X9_howMany N  r12z.2.2.2.2.2.1) fun r22z =>
                if 0 + (if 0 < nI n_list then 0 else 1 + (if nI n_row = 0 then 1 else 0)) ≤ MC ∧ 0 + (if 0 < nI n_list then 0 else 9592 + (if nI n_row = 0 then 50001 else 0)) ≤ MS then
                  some (r22z, r12z.1, r12z.2.1, r12z.2.2.1, r12z.2.2.2.1, r12z.2.2.2.2.1, r12z.2.2.2.2.2.1, r12z.2.2.2.2.2.2.1, r8z.1, r8z.2.1, r8z.2.2.1, r8z.2.2.2, r12z.2.2.2.2.2.2.2.1, r12z.2.2.2.2.2.2.2.2.1, r12z.2.2.2.2.2.2.2.2.2.1, r12z.2.2.2.2.2.2.2.2.2.2.1, r12z.2.2.2.2.2.2.2.2.2.2.2.1, r12z.2.2.2.2.2.2.2.2.2.2.2.2.1, r12z.2.2.2.2.2.2.2.2.2.2.2.2.2)
                else
                  none
              else
                none
            else
              if 0 + (if 0 < nI n_list then 0 else 1 + (if nI n_row = 0 then 1 else 0)) ≤ MC ∧ 0 + (if 0 < nI n_list then 0 else 9592 + (if nI n_row = 0 then 50001 else 0)) ≤ MS then
                Option.bind (f_X9_numberAt N v2 r12z.2.2.2.2.2.1 r12z.2.2.2.2.2.2.2.2.2.2.2.2.2) fun r17z =>
                if 0 + (if 0 < nI n_list then 0 else 1 + (if nI n_row = 0 then 1 else 0)) ≤ MC ∧ 0 + (if 0 < nI n_list then 0 else 9592 + (if nI n_row = 0 then 50001 else 0)) ≤ MS then
                  some (r17z, r12z.1, r12z.2.1, r12z.2.2.1, r12z.2.2.2.1, r12z.2.2.2.2.1, r12z.2.2.2.2.2.1, r12z.2.2.2.2.2.2.1, r8z.1, r8z.2.1, r8z.2.2.1, r8z.2.2.2, r12z.2.2.2.2.2.2.2.1, r12z.2.2.2.2.2.2.2.2.1, r12z.2.2.2.2.2.2.2.2.2.1, r12z.2.2.2.2.2.2.2.2.2.2.1, r12z.2.2.2.2.2.2.2.2.2.2.2.1, r12z.2.2.2.2.2.2.2.2.2.2.2.2.1, r12z.2.2.2.2.2.2.2.2.2.2.2.2.2)
                else
                  none
              else
                none
          else
            none
        else
          none
      else
        if 0 ≤ MC ∧ 0 ≤ MS then
          some ((-1 : Int32), sp_unlike, sp_number, sp_partsKept, sp_partsNumber, wh_powers, wh_many, wh_told, n_row, a_row, n_list, a_list, a_prime, a_times, a_parts, a_base, a_power, a_powerSum, a_found)
        else
          none
  else
    none
set_option maxRecDepth 100000 in
set_option maxHeartbeats 4000000 in
theorem k_X11_wholly_0 {p : Program} {l : Launch} {e : Env} {s : State} {m : MethodId} {args : Array Value} {below : List Frame} {meth : Method} {c : Code} {dC : Nat → ClassId} {dI : Nat → Nat → Nat} {cyI cyJ cyZ : ClassId} {A : Nat → Prop} (C0 : mC p s m meth c args cX11_wholly (some .int) 3 RX11 wsX11_wholly (gK dC dI cyI cyJ cyZ) A) (N : Nat) (MC MS : Nat) (res : Int32 × Int32 × Int64 × Int32 × Int64 × Int32 × Int32 × Int64 × Nat × (Nat → Int32) × Nat × (Nat → Int32) × (Nat → Int64) × (Nat → Int32) × (Nat → Int64) × (Nat → Int64) × (Nat → Int64) × (Nat → Int64) × (Nat → Int64)) (q_G : Nat) (q_Sc : Nat) (q_Pr : Nat) (q_Sp : Nat) (q_Wh : Nat) (q_prime : Nat) (q_times : Nat) (q_parts : Nat) (q_base : Nat) (q_power : Nat) (q_powerSum : Nat) (q_found : Nat) (q_Ch : Nat) (q_Tb : Nat) (q_Sk : Nat) (q_Mk : Nat) (q_Tr : Nat) (q_Ws : Nat) (v1 : Int32) (v2 : Int32) (sp_unlike : Int32) (sp_number : Int64) (sp_partsKept : Int32) (sp_partsNumber : Int64) (wh_powers : Int32) (wh_many : Int32) (wh_told : Int64) (n_row : Nat) (a_row : Nat → Int32) (n_list : Nat) (a_list : Nat → Int32) (a_prime : Nat → Int64) (a_times : Nat → Int32) (a_parts : Nat → Int64) (a_base : Nat → Int64) (a_power : Nat → Int64) (a_powerSum : Nat → Int64) (a_found : Nat → Int64) (q_row : Nat) (q_list : Nat) (h : f_X11_wholly N MC MS v1 v2 sp_unlike sp_number sp_partsKept sp_partsNumber wh_powers wh_many wh_told n_row a_row n_list a_list a_prime a_times a_parts a_base a_power a_powerSum a_found = some res) : ∀ (H : Heap) (locs : List Loc), va_P (dC, dI) vwCl (wd47 cyI cyJ cyZ q_G q_Sc q_Pr q_Sp q_Wh q_row q_list q_prime q_times q_parts q_base q_power q_powerSum q_found q_Ch q_Tb q_Sk q_Mk q_Tr q_Ws sp_unlike sp_number sp_partsKept sp_partsNumber wh_powers wh_many wh_told n_row a_row n_list a_list a_prime a_times a_parts a_base a_power a_powerSum a_found) H → va_D A (wd47 cyI cyJ cyZ q_G q_Sc q_Pr q_Sp q_Wh q_row q_list q_prime q_times q_parts q_base q_power q_powerSum q_found q_Ch q_Tb q_Sk q_Mk q_Tr q_Ws sp_unlike sp_number sp_partsKept sp_partsNumber wh_powers wh_many wh_told n_row a_row n_list a_list a_prime a_times a_parts a_base a_power a_powerSum a_found) → va_S A s.heap H locs → ∀ (ls : Array Slot), lv_has ls 3 [(0, .ref q_G), (1, .int v1), (2, .int v2)] → W p l e (headSpec wsX11_wholly (rm_X11_wholly MC MS)).room s m args below meth c H locs 0 0 (MQ below (va_Qi (fun (r : Int32) (_ : Nat × Nat) => r = res.1) (bW dC dI (fun (u : Nat × Nat) => (wd47 cyI cyJ cyZ q_G q_Sc q_Pr q_Sp q_Wh u.1 u.2 q_prime q_times q_parts q_base q_power q_powerSum q_found q_Ch q_Tb q_Sk q_Mk q_Tr q_Ws res.2.1 res.2.2.1 res.2.2.2.1 res.2.2.2.2.1 res.2.2.2.2.2.1 res.2.2.2.2.2.2.1 res.2.2.2.2.2.2.2.1 res.2.2.2.2.2.2.2.2.1 res.2.2.2.2.2.2.2.2.2.1 res.2.2.2.2.2.2.2.2.2.2.1 res.2.2.2.2.2.2.2.2.2.2.2.1 res.2.2.2.2.2.2.2.2.2.2.2.2.1 res.2.2.2.2.2.2.2.2.2.2.2.2.2.1 res.2.2.2.2.2.2.2.2.2.2.2.2.2.2.1 res.2.2.2.2.2.2.2.2.2.2.2.2.2.2.2.1 res.2.2.2.2.2.2.2.2.2.2.2.2.2.2.2.2.1 res.2.2.2.2.2.2.2.2.2.2.2.2.2.2.2.2.2.1 res.2.2.2.2.2.2.2.2.2.2.2.2.2.2.2.2.2.2)) A) A) args s MC MS A) (F0 m 0 ls []) := by
  obtain ⟨hx, hb, hr, hml, hown, hts, hlocks, hG, hA⟩ := id C0
  have hK := hG.1
  intro H locs hP hD hS ls hl
  unfold f_X11_wholly at h
  refine lv_iload_n hx hb dX11_wholly_0 rfl (lv_at hl 1 rfl) ?_
  refine lv_iconst (v := (1 : Int32)) hx hb dX11_wholly_1 (by decide) ?_
  refine lv_ldc (v := (1000000 : Int32)) hx hb hown (hts (.constant RX11 160 (1000000)) (List.mem_of_getElem? (i := 1) rfl)) dX11_wholly_2 ?_
  obtain ⟨b2z, h⟩ := xa h
  obtain ⟨r1z, hr1z, h⟩ := xb_at h
  have hPc := hP.sub (ws' := (wd37 cyI cyJ cyZ)) [] rfl
  have hDc := hD.sub (ws' := (wd37 cyI cyJ cyZ)) [] (by decide) rfl
  refine cal_i [] [0, 1, 2, 3, 4, 5, 6, 7, 8, 9, 10, 11, 12, 13] (va_runS (As := [.int v1, .int (1 : Int32), .int (1000000 : Int32)]) (rest := []) ⟨hx, hb, hml, hown, hts⟩ (c_X11_within l dC dI cyI cyJ cyZ N r1z H.size  v1 (1 : Int32) (1000000 : Int32)  hr1z) (va_cwS 3 hts gX11_wholly_X11_within rfl rfl rfl hd_X11_within ⟨Nat.le_of_ble_eq_true rfl, Nat.le_of_ble_eq_true rfl⟩) ⟨pC.blind, pC.pre hPc hG hDc⟩ rfl rfl hl.1 rfl (lv_room (Nat.le_of_ble_eq_true rfl)) dX11_wholly_4 ⟨b2z.1, b2z.2⟩) hP hD hS hA rfl rfl rfl (by decide) (fun x4z u3z H locs hw hP hD hS => ?_)
  obtain rfl := hw.symm
  have hP : va_P (dC, dI) vwCl (wd47 cyI cyJ cyZ q_G q_Sc q_Pr q_Sp q_Wh q_row q_list q_prime q_times q_parts q_base q_power q_powerSum q_found q_Ch q_Tb q_Sk q_Mk q_Tr q_Ws sp_unlike sp_number sp_partsKept sp_partsNumber wh_powers wh_many wh_told n_row a_row n_list a_list a_prime a_times a_parts a_base a_power a_powerSum a_found) H := hP.sub [0, 1, 2, 3, 4, 5, 6, 7, 8, 9, 10, 11, 12, 13] rfl
  have hD : va_D A (wd47 cyI cyJ cyZ q_G q_Sc q_Pr q_Sp q_Wh q_row q_list q_prime q_times q_parts q_base q_power q_powerSum q_found q_Ch q_Tb q_Sk q_Mk q_Tr q_Ws sp_unlike sp_number sp_partsKept sp_partsNumber wh_powers wh_many wh_told n_row a_row n_list a_list a_prime a_times a_parts a_base a_power a_powerSum a_found) := hD.sub [0, 1, 2, 3, 4, 5, 6, 7, 8, 9, 10, 11, 12, 13] (by decide) rfl
  refine lv_if_eq (tgt := 15) hx hb dX11_wholly_7 (by decide) (fun c5z => ?_) (fun c5z => ?_)
  · have h := xt h c5z
    refine lv_iconst (v := (-1 : Int32)) hx hb dX11_wholly_15 (by decide) ?_
    obtain ⟨b6z, h⟩ := xa h
    refine W.widen (k := MC) (n := MS) b6z.1 b6z.2 ?_
    obtain rfl := Option.some.inj h
    exact W.iret (v := (-1 : Int32)) hx hb hr (fun t ht hW => ⟨⟨_, (q_row, q_list), rfl, rfl, by rw [ht]; exact hP, hD⟩, hS.F ht⟩) hS.2.2 dX11_wholly_16 hlocks
  · have h := xf h c5z
    refine lv_iload_n hx hb dX11_wholly_10 rfl (lv_at hl 2 rfl) ?_
    refine lv_iconst (v := (-1 : Int32)) hx hb dX11_wholly_11 (by decide) ?_
    refine lv_icmp_ge (tgt := 17) hx hb dX11_wholly_12 (by decide) (fun c7z => ?_) (fun c7z => ?_)
    · have h := xt h c7z
      refine lv_aload_n hx hb dX11_wholly_17 rfl (lv_at hl 0 rfl) ?_
      refine va_get (D := (dC, dI)) (ci := 11) (v := .ref q_Pr) (C := RX11) (T := TX11) (N := 9) hx hb hts iw_X11_wholly_X11 hown hK hP 0 rfl rfl 0 (by decide) (hts (.fieldLink RX11 15 "GoesInto" "primes" "LGoesInto$Primes;") (List.mem_of_getElem? (i := 2) rfl)) (fun _ h9 => h9) rfl dX11_wholly_18 ?_
      obtain ⟨b9z, h⟩ := xa h
      obtain ⟨r8z, hr8z, h⟩ := xb_at h
      have hPc := hP.sub (ws' := (wd11 cyI cyJ cyZ q_Sc q_Pr q_row q_list n_row a_row n_list a_list)) [1, 2, 5, 6] rfl
      have hDc := hD.sub (ws' := (wd11 cyI cyJ cyZ q_Sc q_Pr q_row q_list n_row a_row n_list a_list)) [1, 2, 5, 6] (by decide) rfl
      refine cal_v [1, 2, 5, 6] [0, 3, 4, 7, 8, 9, 10, 11, 12, 13] (va_runV (As := []) (rest := []) ⟨hx, hb, hml, hown, hts⟩ (c_X3_prepare l dC dI cyI cyJ cyZ N (if 0 < nI n_list then 0 else 1 + (if nI n_row = 0 then 1 else 0)) (if 0 < nI n_list then 0 else 9592 + (if nI n_row = 0 then 50001 else 0)) r8z H.size q_Sc q_Pr q_row q_list  n_row a_row n_list a_list hr8z) (cwV 0 hts gX11_wholly_X3_prepare rfl rfl rfl ⟨rfl, hd_X3_prepare⟩ ⟨Nat.le_of_ble_eq_true rfl, Nat.le_of_ble_eq_true rfl⟩) ⟨pC.blind, va_recv hK hPc (ci := 3) (q0 := 1) rfl rfl, pC.pre hPc hG hDc⟩ rfl rfl hl.1 rfl (lv_room (Nat.le_of_ble_eq_true rfl)) dX11_wholly_21 ⟨b9z.1, b9z.2⟩) hP hD hS hA rfl rfl rfl (by decide) (fun u10z H locs _ hP hD hS => ?_)
      have hP : va_P (dC, dI) vwCl (wd47 cyI cyJ cyZ q_G q_Sc q_Pr q_Sp q_Wh u10z.1 u10z.2 q_prime q_times q_parts q_base q_power q_powerSum q_found q_Ch q_Tb q_Sk q_Mk q_Tr q_Ws sp_unlike sp_number sp_partsKept sp_partsNumber wh_powers wh_many wh_told r8z.1 r8z.2.1 r8z.2.2.1 r8z.2.2.2 a_prime a_times a_parts a_base a_power a_powerSum a_found) H := hP.sub [0, 10, 11, 1, 2, 12, 13, 3, 4, 5, 6, 7, 8, 9] rfl
      have hD : va_D A (wd47 cyI cyJ cyZ q_G q_Sc q_Pr q_Sp q_Wh u10z.1 u10z.2 q_prime q_times q_parts q_base q_power q_powerSum q_found q_Ch q_Tb q_Sk q_Mk q_Tr q_Ws sp_unlike sp_number sp_partsKept sp_partsNumber wh_powers wh_many wh_told r8z.1 r8z.2.1 r8z.2.2.1 r8z.2.2.2 a_prime a_times a_parts a_base a_power a_powerSum a_found) := hD.sub [0, 10, 11, 1, 2, 12, 13, 3, 4, 5, 6, 7, 8, 9] (by decide) rfl
      refine lv_aload_n hx hb dX11_wholly_24 rfl (lv_at hl 0 rfl) ?_
      refine va_get (D := (dC, dI)) (ci := 11) (v := .ref q_Wh) (C := RX11) (T := TX11) (N := 9) hx hb hts iw_X11_wholly_X11 hown hK hP 0 rfl rfl 5 (by decide) (hts (.fieldLink RX11 60 "GoesInto" "whole" "LGoesInto$Whole;") (List.mem_of_getElem? (i := 3) rfl)) (fun _ h9 => h9) rfl dX11_wholly_25 ?_
      refine lv_iload_n hx hb dX11_wholly_28 rfl (lv_at hl 1 rfl) ?_
      refine lv_i2l (v := v1.toInt64) hx hb dX11_wholly_29 rfl ?_
      obtain ⟨b13z, h⟩ := xa h
      obtain ⟨r12z, hr12z, h⟩ := xb_at h
      have hPc := hP.sub (ws' := (wd28 cyI cyJ cyZ q_Pr q_Sp q_Wh u10z.2 q_prime q_times q_parts q_base q_power q_powerSum q_found q_Sc sp_unlike sp_number sp_partsKept sp_partsNumber wh_powers wh_many wh_told r8z.2.2.1 r8z.2.2.2 a_prime a_times a_parts a_base a_power a_powerSum a_found)) [2, 3, 4, 6, 7, 8, 9, 10, 11, 12, 13] rfl
      have hDc := hD.sub (ws' := (wd28 cyI cyJ cyZ q_Pr q_Sp q_Wh u10z.2 q_prime q_times q_parts q_base q_power q_powerSum q_found q_Sc sp_unlike sp_number sp_partsKept sp_partsNumber wh_powers wh_many wh_told r8z.2.2.1 r8z.2.2.2 a_prime a_times a_parts a_base a_power a_powerSum a_found)) [2, 3, 4, 6, 7, 8, 9, 10, 11, 12, 13] (by decide) rfl
      refine cal_v [2, 3, 4, 6, 7, 8, 9, 10, 11, 12, 13] [0, 1, 5] (va_runV (As := [.long v1.toInt64]) (rest := []) ⟨hx, hb, hml, hown, hts⟩ (c_X9_seek l dC dI cyI cyJ cyZ N r12z H.size q_Pr q_Sp q_Wh u10z.2 q_prime q_times q_parts q_base q_power q_powerSum q_found q_Sc v1.toInt64 sp_unlike sp_number sp_partsKept sp_partsNumber wh_powers wh_many wh_told r8z.2.2.1 r8z.2.2.2 a_prime a_times a_parts a_base a_power a_powerSum a_found hr12z) (cwV 1 hts gX11_wholly_X9_seek rfl rfl rfl ⟨rfl, hd_X9_seek⟩ ⟨Nat.le_of_ble_eq_true rfl, Nat.le_of_ble_eq_true rfl⟩) ⟨pC.blind, va_recv hK hPc (ci := 9) (q0 := 2) rfl rfl, pC.pre hPc hG hDc⟩ rfl rfl hl.1 rfl (lv_room (Nat.le_of_ble_eq_true rfl)) dX11_wholly_30 ⟨b13z.1, b13z.2⟩) hP hD hS hA rfl rfl rfl (by decide) (fun u14z H locs _ hP hD hS => ?_)
      have hP : va_P (dC, dI) vwCl (wd47 cyI cyJ cyZ q_G q_Sc q_Pr q_Sp q_Wh u10z.1 u10z.2 q_prime q_times q_parts q_base q_power q_powerSum q_found q_Ch q_Tb q_Sk q_Mk q_Tr q_Ws r12z.1 r12z.2.1 r12z.2.2.1 r12z.2.2.2.1 r12z.2.2.2.2.1 r12z.2.2.2.2.2.1 r12z.2.2.2.2.2.2.1 r8z.1 r8z.2.1 r8z.2.2.1 r8z.2.2.2 r12z.2.2.2.2.2.2.2.1 r12z.2.2.2.2.2.2.2.2.1 r12z.2.2.2.2.2.2.2.2.2.1 r12z.2.2.2.2.2.2.2.2.2.2.1 r12z.2.2.2.2.2.2.2.2.2.2.2.1 r12z.2.2.2.2.2.2.2.2.2.2.2.2.1 r12z.2.2.2.2.2.2.2.2.2.2.2.2.2) H := hP.sub [0, 1, 3, 4, 5, 2, 6, 7, 8, 9, 10, 11, 12, 13] rfl
      have hD : va_D A (wd47 cyI cyJ cyZ q_G q_Sc q_Pr q_Sp q_Wh u10z.1 u10z.2 q_prime q_times q_parts q_base q_power q_powerSum q_found q_Ch q_Tb q_Sk q_Mk q_Tr q_Ws r12z.1 r12z.2.1 r12z.2.2.1 r12z.2.2.2.1 r12z.2.2.2.2.1 r12z.2.2.2.2.2.1 r12z.2.2.2.2.2.2.1 r8z.1 r8z.2.1 r8z.2.2.1 r8z.2.2.2 r12z.2.2.2.2.2.2.2.1 r12z.2.2.2.2.2.2.2.2.1 r12z.2.2.2.2.2.2.2.2.2.1 r12z.2.2.2.2.2.2.2.2.2.2.1 r12z.2.2.2.2.2.2.2.2.2.2.2.1 r12z.2.2.2.2.2.2.2.2.2.2.2.2.1 r12z.2.2.2.2.2.2.2.2.2.2.2.2.2) := hD.sub [0, 1, 3, 4, 5, 2, 6, 7, 8, 9, 10, 11, 12, 13] (by decide) rfl
      refine lv_iload_n hx hb dX11_wholly_33 rfl (lv_at hl 2 rfl) ?_
      refine lv_iconst (v := (-1 : Int32)) hx hb dX11_wholly_34 (by decide) ?_
      refine lv_icmp_ne (tgt := 48) hx hb dX11_wholly_35 (by decide) (fun c16z => ?_) (fun c16z => ?_)
      · have h := xf h c16z
        refine lv_aload_n hx hb dX11_wholly_48 rfl (lv_at hl 0 rfl) ?_
        refine va_get (D := (dC, dI)) (ci := 11) (v := .ref q_Wh) (C := RX11) (T := TX11) (N := 9) hx hb hts iw_X11_wholly_X11 hown hK hP 0 rfl rfl 5 (by decide) (hts (.fieldLink RX11 60 "GoesInto" "whole" "LGoesInto$Whole;") (List.mem_of_getElem? (i := 3) rfl)) (fun _ h9 => h9) rfl dX11_wholly_49 ?_
        refine lv_iload_n hx hb dX11_wholly_52 rfl (lv_at hl 2 rfl) ?_
        obtain ⟨b18z, h⟩ := xa h
        obtain ⟨r17z, hr17z, h⟩ := xb_at h
        have hPc := hP.sub (ws' := (wd22 cyI cyJ cyZ q_Wh q_found q_Sp q_Pr q_base q_power q_powerSum r12z.2.2.2.2.1 r12z.2.2.2.2.2.1 r12z.2.2.2.2.2.2.1 r12z.2.2.2.2.2.2.2.2.2.2.2.2.2)) [4, 13] rfl
        have hDc := hD.sub (ws' := (wd22 cyI cyJ cyZ q_Wh q_found q_Sp q_Pr q_base q_power q_powerSum r12z.2.2.2.2.1 r12z.2.2.2.2.2.1 r12z.2.2.2.2.2.2.1 r12z.2.2.2.2.2.2.2.2.2.2.2.2.2)) [4, 13] (by decide) rfl
        refine cal_i [4, 13] [0, 1, 2, 3, 5, 6, 7, 8, 9, 10, 11, 12] (va_runV (As := [.int v2]) (rest := []) ⟨hx, hb, hml, hown, hts⟩ (c_X9_numberAt l dC dI cyI cyJ cyZ N r17z H.size q_Wh q_found q_Sp q_Pr q_base q_power q_powerSum v2 r12z.2.2.2.2.1 r12z.2.2.2.2.2.1 r12z.2.2.2.2.2.2.1 r12z.2.2.2.2.2.2.2.2.2.2.2.2.2 hr17z) (cwV 1 hts gX11_wholly_X9_numberAt rfl rfl rfl ⟨rfl, hd_X9_numberAt⟩ ⟨Nat.le_of_ble_eq_true rfl, Nat.le_of_ble_eq_true rfl⟩) ⟨pC.blind, va_recv hK hPc (ci := 9) (q0 := 0) rfl rfl, pC.pre hPc hG hDc⟩ rfl rfl hl.1 rfl (lv_room (Nat.le_of_ble_eq_true rfl)) dX11_wholly_53 ⟨b18z.1, b18z.2⟩) hP hD hS hA rfl rfl rfl (by decide) (fun x20z u19z H locs hw hP hD hS => ?_)
        obtain rfl := hw.symm
        have hP : va_P (dC, dI) vwCl (wd47 cyI cyJ cyZ q_G q_Sc q_Pr q_Sp q_Wh u10z.1 u10z.2 q_prime q_times q_parts q_base q_power q_powerSum q_found q_Ch q_Tb q_Sk q_Mk q_Tr q_Ws r12z.1 r12z.2.1 r12z.2.2.1 r12z.2.2.2.1 r12z.2.2.2.2.1 r12z.2.2.2.2.2.1 r12z.2.2.2.2.2.2.1 r8z.1 r8z.2.1 r8z.2.2.1 r8z.2.2.2 r12z.2.2.2.2.2.2.2.1 r12z.2.2.2.2.2.2.2.2.1 r12z.2.2.2.2.2.2.2.2.2.1 r12z.2.2.2.2.2.2.2.2.2.2.1 r12z.2.2.2.2.2.2.2.2.2.2.2.1 r12z.2.2.2.2.2.2.2.2.2.2.2.2.1 r12z.2.2.2.2.2.2.2.2.2.2.2.2.2) H := hP.sub [0, 1, 2, 3, 12, 4, 5, 6, 7, 8, 9, 10, 11, 13] rfl
        have hD : va_D A (wd47 cyI cyJ cyZ q_G q_Sc q_Pr q_Sp q_Wh u10z.1 u10z.2 q_prime q_times q_parts q_base q_power q_powerSum q_found q_Ch q_Tb q_Sk q_Mk q_Tr q_Ws r12z.1 r12z.2.1 r12z.2.2.1 r12z.2.2.2.1 r12z.2.2.2.2.1 r12z.2.2.2.2.2.1 r12z.2.2.2.2.2.2.1 r8z.1 r8z.2.1 r8z.2.2.1 r8z.2.2.2 r12z.2.2.2.2.2.2.2.1 r12z.2.2.2.2.2.2.2.2.1 r12z.2.2.2.2.2.2.2.2.2.1 r12z.2.2.2.2.2.2.2.2.2.2.1 r12z.2.2.2.2.2.2.2.2.2.2.2.1 r12z.2.2.2.2.2.2.2.2.2.2.2.2.1 r12z.2.2.2.2.2.2.2.2.2.2.2.2.2) := hD.sub [0, 1, 2, 3, 12, 4, 5, 6, 7, 8, 9, 10, 11, 13] (by decide) rfl
        obtain ⟨b21z, h⟩ := xa h
        refine W.widen (k := MC) (n := MS) b21z.1 b21z.2 ?_
        obtain rfl := Option.some.inj h
        exact W.iret (v := r17z) hx hb hr (fun t ht hW => ⟨⟨_, (u10z.1, u10z.2), rfl, rfl, by rw [ht]; exact hP, hD⟩, hS.F ht⟩) hS.2.2 dX11_wholly_56 hlocks
      · have h := xt h c16z
        refine lv_aload_n hx hb dX11_wholly_38 rfl (lv_at hl 0 rfl) ?_
        refine va_get (D := (dC, dI)) (ci := 11) (v := .ref q_Wh) (C := RX11) (T := TX11) (N := 9) hx hb hts iw_X11_wholly_X11 hown hK hP 0 rfl rfl 5 (by decide) (hts (.fieldLink RX11 60 "GoesInto" "whole" "LGoesInto$Whole;") (List.mem_of_getElem? (i := 3) rfl)) (fun _ h9 => h9) rfl dX11_wholly_39 ?_
        obtain ⟨b23z, h⟩ := xa h
        obtain ⟨r22z, hr22z, h⟩ := xb_at h
        have hPc := hP.sub (ws' := (wd21 cyI cyJ cyZ q_Wh q_Sp q_Pr q_base q_power q_powerSum q_found r12z.2.2.2.2.1 r12z.2.2.2.2.2.1 r12z.2.2.2.2.2.2.1)) [4] rfl
        have hDc := hD.sub (ws' := (wd21 cyI cyJ cyZ q_Wh q_Sp q_Pr q_base q_power q_powerSum q_found r12z.2.2.2.2.1 r12z.2.2.2.2.2.1 r12z.2.2.2.2.2.2.1)) [4] (by decide) rfl
        refine cal_i [4] [0, 1, 2, 3, 5, 6, 7, 8, 9, 10, 11, 12, 13] (va_runV (As := []) (rest := []) ⟨hx, hb, hml, hown, hts⟩ (c_X9_howMany l dC dI cyI cyJ cyZ N r22z H.size q_Wh q_Sp q_Pr q_base q_power q_powerSum q_found  r12z.2.2.2.2.1 r12z.2.2.2.2.2.1 r12z.2.2.2.2.2.2.1 hr22z) (cwV 0 hts gX11_wholly_X9_howMany rfl rfl rfl ⟨rfl, hd_X9_howMany⟩ ⟨Nat.le_of_ble_eq_true rfl, Nat.le_of_ble_eq_true rfl⟩) ⟨pC.blind, va_recv hK hPc (ci := 9) (q0 := 0) rfl rfl, pC.pre hPc hG hDc⟩ rfl rfl hl.1 rfl (lv_room (Nat.le_of_ble_eq_true rfl)) dX11_wholly_42 ⟨b23z.1, b23z.2⟩) hP hD hS hA rfl rfl rfl (by decide) (fun x25z u24z H locs hw hP hD hS => ?_)
        obtain rfl := hw.symm
        have hP : va_P (dC, dI) vwCl (wd47 cyI cyJ cyZ q_G q_Sc q_Pr q_Sp q_Wh u10z.1 u10z.2 q_prime q_times q_parts q_base q_power q_powerSum q_found q_Ch q_Tb q_Sk q_Mk q_Tr q_Ws r12z.1 r12z.2.1 r12z.2.2.1 r12z.2.2.2.1 r12z.2.2.2.2.1 r12z.2.2.2.2.2.1 r12z.2.2.2.2.2.2.1 r8z.1 r8z.2.1 r8z.2.2.1 r8z.2.2.2 r12z.2.2.2.2.2.2.2.1 r12z.2.2.2.2.2.2.2.2.1 r12z.2.2.2.2.2.2.2.2.2.1 r12z.2.2.2.2.2.2.2.2.2.2.1 r12z.2.2.2.2.2.2.2.2.2.2.2.1 r12z.2.2.2.2.2.2.2.2.2.2.2.2.1 r12z.2.2.2.2.2.2.2.2.2.2.2.2.2) H := hP.sub [0, 1, 2, 3, 13, 4, 5, 6, 7, 8, 9, 10, 11, 12] rfl
        have hD : va_D A (wd47 cyI cyJ cyZ q_G q_Sc q_Pr q_Sp q_Wh u10z.1 u10z.2 q_prime q_times q_parts q_base q_power q_powerSum q_found q_Ch q_Tb q_Sk q_Mk q_Tr q_Ws r12z.1 r12z.2.1 r12z.2.2.1 r12z.2.2.2.1 r12z.2.2.2.2.1 r12z.2.2.2.2.2.1 r12z.2.2.2.2.2.2.1 r8z.1 r8z.2.1 r8z.2.2.1 r8z.2.2.2 r12z.2.2.2.2.2.2.2.1 r12z.2.2.2.2.2.2.2.2.1 r12z.2.2.2.2.2.2.2.2.2.1 r12z.2.2.2.2.2.2.2.2.2.2.1 r12z.2.2.2.2.2.2.2.2.2.2.2.1 r12z.2.2.2.2.2.2.2.2.2.2.2.2.1 r12z.2.2.2.2.2.2.2.2.2.2.2.2.2) := hD.sub [0, 1, 2, 3, 13, 4, 5, 6, 7, 8, 9, 10, 11, 12] (by decide) rfl
        refine lv_goto (tgt := 56) hx hb dX11_wholly_45 (by decide) ?_
        obtain ⟨b26z, h⟩ := xa h
        refine W.widen (k := MC) (n := MS) b26z.1 b26z.2 ?_
        obtain rfl := Option.some.inj h
        exact W.iret (v := r22z) hx hb hr (fun t ht hW => ⟨⟨_, (u10z.1, u10z.2), rfl, rfl, by rw [ht]; exact hP, hD⟩, hS.F ht⟩) hS.2.2 dX11_wholly_56 hlocks
    · have h := xf h c7z
      refine lv_iconst (v := (-1 : Int32)) hx hb dX11_wholly_15 (by decide) ?_
      obtain ⟨b27z, h⟩ := xa h
      refine W.widen (k := MC) (n := MS) b27z.1 b27z.2 ?_
      obtain rfl := Option.some.inj h
      exact W.iret (v := (-1 : Int32)) hx hb hr (fun t ht hW => ⟨⟨_, (q_row, q_list), rfl, rfl, by rw [ht]; exact hP, hD⟩, hS.F ht⟩) hS.2.2 dX11_wholly_16 hlocks
set_option maxRecDepth 100000 in
set_option maxHeartbeats 4000000 in
theorem c_X11_wholly (l : Launch) (dC : Nat → ClassId) (dI : Nat → Nat → Nat) (cyI cyJ cyZ : ClassId) (N : Nat) (MC MS : Nat) (res : Int32 × Int32 × Int64 × Int32 × Int64 × Int32 × Int32 × Int64 × Nat × (Nat → Int32) × Nat × (Nat → Int32) × (Nat → Int64) × (Nat → Int32) × (Nat → Int64) × (Nat → Int64) × (Nat → Int64) × (Nat → Int64) × (Nat → Int64)) (sz : Nat) (q_G : Nat) (q_Sc : Nat) (q_Pr : Nat) (q_Sp : Nat) (q_Wh : Nat) (q_row : Nat) (q_list : Nat) (q_prime : Nat) (q_times : Nat) (q_parts : Nat) (q_base : Nat) (q_power : Nat) (q_powerSum : Nat) (q_found : Nat) (q_Ch : Nat) (q_Tb : Nat) (q_Sk : Nat) (q_Mk : Nat) (q_Tr : Nat) (q_Ws : Nat) (v1 : Int32) (v2 : Int32) (sp_unlike : Int32) (sp_number : Int64) (sp_partsKept : Int32) (sp_partsNumber : Int64) (wh_powers : Int32) (wh_many : Int32) (wh_told : Int64) (n_row : Nat) (a_row : Nat → Int32) (n_list : Nat) (a_list : Nat → Int32) (a_prime : Nat → Int64) (a_times : Nat → Int32) (a_parts : Nat → Int64) (a_base : Nat → Int64) (a_power : Nat → Int64) (a_powerSum : Nat → Int64) (a_found : Nat → Int64) (h : f_X11_wholly N MC MS v1 v2 sp_unlike sp_number sp_partsKept sp_partsNumber wh_powers wh_many wh_told n_row a_row n_list a_list a_prime a_times a_parts a_base a_power a_powerSum a_found = some res) : Met l yX11_wholly wsX11_wholly (rm_X11_wholly MC MS) (pC dC dI cyI cyJ cyZ [.ref q_G, .int v1, .int v2] sz (wd47 cyI cyJ cyZ q_G q_Sc q_Pr q_Sp q_Wh q_row q_list q_prime q_times q_parts q_base q_power q_powerSum q_found q_Ch q_Tb q_Sk q_Mk q_Tr q_Ws sp_unlike sp_number sp_partsKept sp_partsNumber wh_powers wh_many wh_told n_row a_row n_list a_list a_prime a_times a_parts a_base a_power a_powerSum a_found)) (va_Qi (fun (r : Int32) (_ : Nat × Nat) => r = res.1) (bW dC dI (fun (u : Nat × Nat) => (wd47 cyI cyJ cyZ q_G q_Sc q_Pr q_Sp q_Wh u.1 u.2 q_prime q_times q_parts q_base q_power q_powerSum q_found q_Ch q_Tb q_Sk q_Mk q_Tr q_Ws res.2.1 res.2.2.1 res.2.2.2.1 res.2.2.2.2.1 res.2.2.2.2.2.1 res.2.2.2.2.2.2.1 res.2.2.2.2.2.2.2.1 res.2.2.2.2.2.2.2.2.1 res.2.2.2.2.2.2.2.2.2.1 res.2.2.2.2.2.2.2.2.2.2.1 res.2.2.2.2.2.2.2.2.2.2.2.1 res.2.2.2.2.2.2.2.2.2.2.2.2.1 res.2.2.2.2.2.2.2.2.2.2.2.2.2.1 res.2.2.2.2.2.2.2.2.2.2.2.2.2.2.1 res.2.2.2.2.2.2.2.2.2.2.2.2.2.2.2.1 res.2.2.2.2.2.2.2.2.2.2.2.2.2.2.2.2.1 res.2.2.2.2.2.2.2.2.2.2.2.2.2.2.2.2.2.1 res.2.2.2.2.2.2.2.2.2.2.2.2.2.2.2.2.2.2)) (va_A (wd47 cyI cyJ cyZ q_G q_Sc q_Pr q_Sp q_Wh q_row q_list q_prime q_times q_parts q_base q_power q_powerSum q_found q_Ch q_Tb q_Sk q_Mk q_Tr q_Ws sp_unlike sp_number sp_partsKept sp_partsNumber wh_powers wh_many wh_told n_row a_row n_list a_list a_prime a_times a_parts a_base a_power a_powerSum a_found) sz)) (va_A (wd47 cyI cyJ cyZ q_G q_Sc q_Pr q_Sp q_Wh q_row q_list q_prime q_times q_parts q_base q_power q_powerSum q_found q_Ch q_Tb q_Sk q_Mk q_Tr q_Ws sp_unlike sp_number sp_partsKept sp_partsNumber wh_powers wh_many wh_told n_row a_row n_list a_list a_prime a_times a_parts a_base a_power a_powerSum a_found) sz)) MC MS (va_A (wd47 cyI cyJ cyZ q_G q_Sc q_Pr q_Sp q_Wh q_row q_list q_prime q_times q_parts q_base q_power q_powerSum q_found q_Ch q_Tb q_Sk q_Mk q_Tr q_Ws sp_unlike sp_number sp_partsKept sp_partsNumber wh_powers wh_many wh_told n_row a_row n_list a_list a_prime a_times a_parts a_base a_power a_powerSum a_found) sz) := by
  refine Met.ofW (cc := cX11_wholly) (maxL := 3) (ret := (some .int)) (by decide) rfl ?_
  intro p e s m args below meth c s₁ B hml hv
  obtain ⟨rfl, hsz, hP, hG, hD0⟩ := hv
  have hx := B.exec
  have hb := B.bytes
  have hr := B.returns
  have hts := atoms_spec (ws := wsX11_wholly) B.pre
  have hown : s.vm.findClass RX11 = some m.cls := findClass_of_methodNamed B.named
  have hlocks := B.notSynchronized
  subst hsz
  have hD := hD0.self (sz := s.heap.size)
  generalize hAe : va_A (wd47 cyI cyJ cyZ q_G q_Sc q_Pr q_Sp q_Wh q_row q_list q_prime q_times q_parts q_base q_power q_powerSum q_found q_Ch q_Tb q_Sk q_Mk q_Tr q_Ws sp_unlike sp_number sp_partsKept sp_partsNumber wh_powers wh_many wh_told n_row a_row n_list a_list a_prime a_times a_parts a_base a_power a_powerSum a_found) s.heap.size = A at hD ⊢
  have hA : ∀ q : Nat, s.heap.size ≤ q → A q := fun q h => by rw [← hAe]; exact Or.inr h
  have hS : va_S A s.heap s.heap [] := va_S.rf
  have hl := lv_entry ([.ref q_G, .int v1, .int v2]) (n := 3) (Nat.le_of_ble_eq_true rfl)
  rw [lg_entry_eq]
  generalize (lg_sl ([.ref q_G, .int v1, .int v2]) ++ List.replicate (3 - (lg_sl ([.ref q_G, .int v1, .int v2])).length) Slot.unset).toArray = ls at hl ⊢
  have hl : lv_has ls 3 [(0, .ref q_G), (1, .int v1), (2, .int v2)] := hl
  exact k_X11_wholly_0 ⟨hx, hb, hr, hml, hown, hts, hlocks, hG, hA⟩ N MC MS res q_G q_Sc q_Pr q_Sp q_Wh q_prime q_times q_parts q_base q_power q_powerSum q_found q_Ch q_Tb q_Sk q_Mk q_Tr q_Ws v1 v2 sp_unlike sp_number sp_partsKept sp_partsNumber wh_powers wh_many wh_told n_row a_row n_list a_list a_prime a_times a_parts a_base a_power a_powerSum a_found q_row q_list h _ _ hP hD hS _ hl
abbrev rm_X11_bare (MC MS : Nat) : Room := { frames := 4, cells := MC, slots := MS, locals := 87 }
theorem hd_X11_bare : yX11_bare.cls ≠ "java/lang/invoke/MethodHandle" ∧ yX11_bare.cls ≠ "java/lang/invoke/VarHandle" ∧ (parseMethodDescriptor yX11_bare.desc).map (fun d => d.parameters.length) = some 1 := by decide +kernel
theorem iw_X11_bare_X11 : ∀ w ∈ wsX110, w ∈ wsX11_bare := List.forall_mem_cons.mpr ⟨List.mem_of_getElem? (i := 66) rfl, List.forall_mem_cons.mpr ⟨List.mem_of_getElem? (i := 67) rfl, List.forall_mem_cons.mpr ⟨List.mem_of_getElem? (i := 68) rfl, List.forall_mem_cons.mpr ⟨List.mem_of_getElem? (i := 69) rfl, List.forall_mem_cons.mpr ⟨List.mem_of_getElem? (i := 70) rfl, List.forall_mem_cons.mpr ⟨List.mem_of_getElem? (i := 71) rfl, List.forall_mem_cons.mpr ⟨List.mem_of_getElem? (i := 72) rfl, List.forall_mem_cons.mpr ⟨List.mem_of_getElem? (i := 73) rfl, List.forall_mem_cons.mpr ⟨List.mem_of_getElem? (i := 74) rfl, fun _ h => absurd h List.not_mem_nil⟩⟩⟩⟩⟩⟩⟩⟩⟩
theorem iw_X11_bare_X4 : ∀ w ∈ wsX40, w ∈ wsX11_bare := List.forall_mem_cons.mpr ⟨List.mem_of_getElem? (i := 78) rfl, fun _ h => absurd h List.not_mem_nil⟩
theorem iw_X11_bare_X7 : ∀ w ∈ wsX70, w ∈ wsX11_bare := List.forall_mem_cons.mpr ⟨List.mem_of_getElem? (i := 75) rfl, List.forall_mem_cons.mpr ⟨List.mem_of_getElem? (i := 76) rfl, List.forall_mem_cons.mpr ⟨List.mem_of_getElem? (i := 77) rfl, fun _ h => absurd h List.not_mem_nil⟩⟩⟩
theorem iw_X11_bare_X5 : ∀ w ∈ wsX50, w ∈ wsX11_bare := List.forall_mem_cons.mpr ⟨List.mem_of_getElem? (i := 79) rfl, List.forall_mem_cons.mpr ⟨List.mem_of_getElem? (i := 80) rfl, List.forall_mem_cons.mpr ⟨List.mem_of_getElem? (i := 81) rfl, fun _ h => absurd h List.not_mem_nil⟩⟩⟩
theorem iw_X11_bare_X2 : ∀ w ∈ wsX20, w ∈ wsX11_bare := List.forall_mem_cons.mpr ⟨List.mem_of_getElem? (i := 82) rfl, List.forall_mem_cons.mpr ⟨List.mem_of_getElem? (i := 83) rfl, fun _ h => absurd h List.not_mem_nil⟩⟩
def f_X11_bare (N : Nat) (MC : Nat) (MS : Nat) (v1 : Int32) (pk1_wanted : Int32) (pk1_seen : Int32) (n_row : Nat) (a_row : Nat → Int32) (n_all : Nat) (a_all : Nat → Int32) (n_apart : Nat) (a_apart : Nat → Int32) : Option (Int32 × Int32 × Int32 × Nat × (Nat → Int32) × Nat × (Nat → Int32) × Nat × (Nat → Int32)) :=
  if 0 ≤ MC ∧ 0 ≤ MS then
    Option.bind (f_X11_within N v1 (2 : Int32) (200 : Int32)) fun r1z =>
    if r1z = 0 then
      if 0 ≤ MC ∧ 0 ≤ MS then
        some ((-1 : Int32), pk1_wanted, pk1_seen, n_row, a_row, n_all, a_all, n_apart, a_apart)
      else
        none
    else
      xl ((v1 - (1 : Int32)) * (v1 - (1 : Int32))) fun y6z =>
      if 0 + (if 0 < nI n_all then 0 else 2 + (if nI n_row = 0 then 1 else 0)) ≤ MC ∧ 0 + (if 0 < nI n_all then 0 else 100002 + (if nI n_row = 0 then 50001 else 0)) ≤ MS then
        Option.bind (f_X7_prepare N (if 0 < nI n_all then 0 else 2 + (if nI n_row = 0 then 1 else 0)) (if 0 < nI n_all then 0 else 100002 + (if nI n_row = 0 then 50001 else 0))  n_row a_row n_all a_all n_apart a_apart) fun r7z =>
        if 0 + (if 0 < nI n_all then 0 else 2 + (if nI n_row = 0 then 1 else 0)) ≤ MC ∧ 0 + (if 0 < nI n_all then 0 else 100002 + (if nI n_row = 0 then 50001 else 0)) ≤ MS then
          Option.bind (f_X5_havingAt N (1 : Int32) v1 y6z (0 : Int32) pk1_wanted pk1_seen r7z.2.2.1 r7z.2.2.2.1 r7z.2.2.2.2.1 r7z.2.2.2.2.2) fun r11z =>
          if r11z.1 = (-4 : Int32) then
            if 0 + (if 0 < nI n_all then 0 else 2 + (if nI n_row = 0 then 1 else 0)) ≤ MC ∧ 0 + (if 0 < nI n_all then 0 else 100002 + (if nI n_row = 0 then 50001 else 0)) ≤ MS then
              some ((1 : Int32), r11z.2.1, r11z.2.2, r7z.1, r7z.2.1, r7z.2.2.1, r7z.2.2.2.1, r7z.2.2.2.2.1, r7z.2.2.2.2.2)
            else
              none
          else
            if 0 + (if 0 < nI n_all then 0 else 2 + (if nI n_row = 0 then 1 else 0)) ≤ MC ∧ 0 + (if 0 < nI n_all then 0 else 100002 + (if nI n_row = 0 then 50001 else 0)) ≤ MS then
              some ((0 : Int32), r11z.2.1, r11z.2.2, r7z.1, r7z.2.1, r7z.2.2.1, r7z.2.2.2.1, r7z.2.2.2.2.1, r7z.2.2.2.2.2)
            else
              none
        else
          none
      else
        none
  else
    none
set_option maxRecDepth 100000 in
set_option maxHeartbeats 4000000 in
theorem k_X11_bare_0 {p : Program} {l : Launch} {e : Env} {s : State} {m : MethodId} {args : Array Value} {below : List Frame} {meth : Method} {c : Code} {dC : Nat → ClassId} {dI : Nat → Nat → Nat} {cyI cyJ cyZ : ClassId} {A : Nat → Prop} (C0 : mC p s m meth c args cX11_bare (some .int) 3 RX11 wsX11_bare (gK dC dI cyI cyJ cyZ) A) (N : Nat) (MC MS : Nat) (res : Int32 × Int32 × Int32 × Nat × (Nat → Int32) × Nat × (Nat → Int32) × Nat × (Nat → Int32)) (q_G : Nat) (q_Sc : Nat) (q_Tb : Nat) (q_Sk : Nat) (q_Pk1 : Nat) (q_Pr : Nat) (q_Sp : Nat) (q_Ch : Nat) (q_Wh : Nat) (q_Mk : Nat) (q_Tr : Nat) (q_Ws : Nat) (v1 : Int32) (pk1_wanted : Int32) (pk1_seen : Int32) (n_row : Nat) (a_row : Nat → Int32) (n_all : Nat) (a_all : Nat → Int32) (n_apart : Nat) (a_apart : Nat → Int32) (q_row : Nat) (q_all : Nat) (q_apart : Nat) (h : f_X11_bare N MC MS v1 pk1_wanted pk1_seen n_row a_row n_all a_all n_apart a_apart = some res) : ∀ (H : Heap) (locs : List Loc), va_P (dC, dI) vwCl (wd46 cyI cyJ cyZ q_G q_Sc q_Tb q_Sk q_Pk1 q_row q_all q_apart q_Pr q_Sp q_Ch q_Wh q_Mk q_Tr q_Ws pk1_wanted pk1_seen n_row a_row n_all a_all n_apart a_apart) H → va_D A (wd46 cyI cyJ cyZ q_G q_Sc q_Tb q_Sk q_Pk1 q_row q_all q_apart q_Pr q_Sp q_Ch q_Wh q_Mk q_Tr q_Ws pk1_wanted pk1_seen n_row a_row n_all a_all n_apart a_apart) → va_S A s.heap H locs → ∀ (ls : Array Slot), lv_has ls 3 [(0, .ref q_G), (1, .int v1)] → W p l e (headSpec wsX11_bare (rm_X11_bare MC MS)).room s m args below meth c H locs 0 0 (MQ below (va_Qi (fun (r : Int32) (_ : Nat × Nat × Nat) => r = res.1) (bW dC dI (fun (u : Nat × Nat × Nat) => (wd46 cyI cyJ cyZ q_G q_Sc q_Tb q_Sk q_Pk1 u.1 u.2.1 u.2.2 q_Pr q_Sp q_Ch q_Wh q_Mk q_Tr q_Ws res.2.1 res.2.2.1 res.2.2.2.1 res.2.2.2.2.1 res.2.2.2.2.2.1 res.2.2.2.2.2.2.1 res.2.2.2.2.2.2.2.1 res.2.2.2.2.2.2.2.2)) A) A) args s MC MS A) (F0 m 0 ls []) := by
  obtain ⟨hx, hb, hr, hml, hown, hts, hlocks, hG, hA⟩ := id C0
  have hK := hG.1
  intro H locs hP hD hS ls hl
  unfold f_X11_bare at h
  refine lv_iload_n hx hb dX11_bare_0 rfl (lv_at hl 1 rfl) ?_
  refine lv_iconst (v := (2 : Int32)) hx hb dX11_bare_1 (by decide) ?_
  refine lv_sipush (v := (200 : Int32)) hx hb dX11_bare_2 (by decide) ?_
  obtain ⟨b2z, h⟩ := xa h
  obtain ⟨r1z, hr1z, h⟩ := xb_at h
  have hPc := hP.sub (ws' := (wd37 cyI cyJ cyZ)) [] rfl
  have hDc := hD.sub (ws' := (wd37 cyI cyJ cyZ)) [] (by decide) rfl
  refine cal_i [] [0, 1, 2, 3, 4, 5, 6, 7] (va_runS (As := [.int v1, .int (2 : Int32), .int (200 : Int32)]) (rest := []) ⟨hx, hb, hml, hown, hts⟩ (c_X11_within l dC dI cyI cyJ cyZ N r1z H.size  v1 (2 : Int32) (200 : Int32)  hr1z) (va_cwS 3 hts gX11_bare_X11_within rfl rfl rfl hd_X11_within ⟨Nat.le_of_ble_eq_true rfl, Nat.le_of_ble_eq_true rfl⟩) ⟨pC.blind, pC.pre hPc hG hDc⟩ rfl rfl hl.1 rfl (lv_room (Nat.le_of_ble_eq_true rfl)) dX11_bare_5 ⟨b2z.1, b2z.2⟩) hP hD hS hA rfl rfl rfl (by decide) (fun x4z u3z H locs hw hP hD hS => ?_)
  obtain rfl := hw.symm
  have hP : va_P (dC, dI) vwCl (wd46 cyI cyJ cyZ q_G q_Sc q_Tb q_Sk q_Pk1 q_row q_all q_apart q_Pr q_Sp q_Ch q_Wh q_Mk q_Tr q_Ws pk1_wanted pk1_seen n_row a_row n_all a_all n_apart a_apart) H := hP.sub [0, 1, 2, 3, 4, 5, 6, 7] rfl
  have hD : va_D A (wd46 cyI cyJ cyZ q_G q_Sc q_Tb q_Sk q_Pk1 q_row q_all q_apart q_Pr q_Sp q_Ch q_Wh q_Mk q_Tr q_Ws pk1_wanted pk1_seen n_row a_row n_all a_all n_apart a_apart) := hD.sub [0, 1, 2, 3, 4, 5, 6, 7] (by decide) rfl
  refine lv_if_ne (tgt := 13) hx hb dX11_bare_8 (by decide) (fun c5z => ?_) (fun c5z => ?_)
  · have h := xf h c5z
    refine lv_iload_n hx hb dX11_bare_13 rfl (lv_at hl 1 rfl) ?_
    refine lv_iconst (v := (1 : Int32)) hx hb dX11_bare_14 (by decide) ?_
    refine lv_isub hx hb dX11_bare_15 ?_
    refine lv_iload_n hx hb dX11_bare_16 rfl (lv_at hl 1 rfl) ?_
    refine lv_iconst (v := (1 : Int32)) hx hb dX11_bare_17 (by decide) ?_
    refine lv_isub hx hb dX11_bare_18 ?_
    refine lv_imul hx hb dX11_bare_19 ?_
    refine lv_topi (fun y6z ey6z => ?_)
    have h := xl_at h ey6z
    refine lv_istore_n (lv' := [(2, .int y6z), (0, .ref q_G), (1, .int v1)]) hx hb dX11_bare_20 rfl hl (by decide) rfl (fun ls hl => ?_)
    refine lv_aload_n hx hb dX11_bare_21 rfl (lv_at hl 1 rfl) ?_
    refine va_get (D := (dC, dI)) (ci := 11) (v := .ref q_Tb) (C := RX11) (T := TX11) (N := 9) hx hb hts iw_X11_bare_X11 hown hK hP 0 rfl rfl 3 (by decide) (hts (.fieldLink RX11 42 "GoesInto" "tables" "LGoesInto$Tables;") (List.mem_of_getElem? (i := 1) rfl)) (fun _ h9 => h9) rfl dX11_bare_22 ?_
    obtain ⟨b8z, h⟩ := xa h
    obtain ⟨r7z, hr7z, h⟩ := xb_at h
    have hPc := hP.sub (ws' := (wd14 cyI cyJ cyZ q_Sc q_Tb q_row q_all q_apart n_row a_row n_all a_all n_apart a_apart)) [1, 2, 5, 6, 7] rfl
    have hDc := hD.sub (ws' := (wd14 cyI cyJ cyZ q_Sc q_Tb q_row q_all q_apart n_row a_row n_all a_all n_apart a_apart)) [1, 2, 5, 6, 7] (by decide) rfl
    refine cal_v [1, 2, 5, 6, 7] [0, 3, 4] (va_runV (As := []) (rest := []) ⟨hx, hb, hml, hown, hts⟩ (c_X7_prepare l dC dI cyI cyJ cyZ N (if 0 < nI n_all then 0 else 2 + (if nI n_row = 0 then 1 else 0)) (if 0 < nI n_all then 0 else 100002 + (if nI n_row = 0 then 50001 else 0)) r7z H.size q_Sc q_Tb q_row q_all q_apart  n_row a_row n_all a_all n_apart a_apart hr7z) (cwV 0 hts gX11_bare_X7_prepare rfl rfl rfl ⟨rfl, hd_X7_prepare⟩ ⟨Nat.le_of_ble_eq_true rfl, Nat.le_of_ble_eq_true rfl⟩) ⟨pC.blind, va_recv hK hPc (ci := 7) (q0 := 1) rfl rfl, pC.pre hPc hG hDc⟩ rfl rfl hl.1 rfl (lv_room (Nat.le_of_ble_eq_true rfl)) dX11_bare_25 ⟨b8z.1, b8z.2⟩) hP hD hS hA rfl rfl rfl (by decide) (fun u9z H locs _ hP hD hS => ?_)
    have hP : va_P (dC, dI) vwCl (wd46 cyI cyJ cyZ q_G q_Sc q_Tb q_Sk q_Pk1 u9z.1 u9z.2.1 u9z.2.2 q_Pr q_Sp q_Ch q_Wh q_Mk q_Tr q_Ws pk1_wanted pk1_seen r7z.1 r7z.2.1 r7z.2.2.1 r7z.2.2.2.1 r7z.2.2.2.2.1 r7z.2.2.2.2.2) H := hP.sub [0, 3, 4, 1, 2, 5, 6, 7] rfl
    have hD : va_D A (wd46 cyI cyJ cyZ q_G q_Sc q_Tb q_Sk q_Pk1 u9z.1 u9z.2.1 u9z.2.2 q_Pr q_Sp q_Ch q_Wh q_Mk q_Tr q_Ws pk1_wanted pk1_seen r7z.1 r7z.2.1 r7z.2.2.1 r7z.2.2.2.1 r7z.2.2.2.2.1 r7z.2.2.2.2.2) := hD.sub [0, 3, 4, 1, 2, 5, 6, 7] (by decide) rfl
    refine lv_aload_n hx hb dX11_bare_28 rfl (lv_at hl 1 rfl) ?_
    refine va_get (D := (dC, dI)) (ci := 11) (v := .ref q_Sk) (C := RX11) (T := TX11) (N := 9) hx hb hts iw_X11_bare_X11 hown hK hP 0 rfl rfl 4 (by decide) (hts (.fieldLink RX11 51 "GoesInto" "seeker" "LGoesInto$Seeker;") (List.mem_of_getElem? (i := 2) rfl)) (fun _ h9 => h9) rfl dX11_bare_29 ?_
    refine lv_iconst (v := (1 : Int32)) hx hb dX11_bare_32 (by decide) ?_
    refine lv_iload_n hx hb dX11_bare_33 rfl (lv_at hl 2 rfl) ?_
    refine lv_iload_n hx hb dX11_bare_34 rfl (lv_at hl 0 rfl) ?_
    refine lv_iconst (v := (0 : Int32)) hx hb dX11_bare_35 (by decide) ?_
    obtain ⟨b12z, h⟩ := xa h
    obtain ⟨r11z, hr11z, h⟩ := xb_at h
    have hPc := hP.sub (ws' := (wd18 cyI cyJ cyZ q_Tb q_Sk q_Pk1 u9z.2.1 u9z.2.2 q_Sc pk1_wanted pk1_seen r7z.2.2.1 r7z.2.2.2.1 r7z.2.2.2.2.1 r7z.2.2.2.2.2)) [2, 3, 4, 6, 7] rfl
    have hDc := hD.sub (ws' := (wd18 cyI cyJ cyZ q_Tb q_Sk q_Pk1 u9z.2.1 u9z.2.2 q_Sc pk1_wanted pk1_seen r7z.2.2.1 r7z.2.2.2.1 r7z.2.2.2.2.1 r7z.2.2.2.2.2)) [2, 3, 4, 6, 7] (by decide) rfl
    refine cal_i [2, 3, 4, 6, 7] [0, 1, 5] (va_runV (As := [.int (1 : Int32), .int v1, .int y6z, .int (0 : Int32)]) (rest := []) ⟨hx, hb, hml, hown, hts⟩ (c_X5_havingAt l dC dI cyI cyJ cyZ N r11z H.size q_Tb q_Sk q_Pk1 u9z.2.1 u9z.2.2 q_Sc (1 : Int32) v1 y6z (0 : Int32) pk1_wanted pk1_seen r7z.2.2.1 r7z.2.2.2.1 r7z.2.2.2.2.1 r7z.2.2.2.2.2 hr11z) (cwV 4 hts gX11_bare_X5_havingAt rfl rfl rfl ⟨rfl, hd_X5_havingAt⟩ ⟨Nat.le_of_ble_eq_true rfl, Nat.le_of_ble_eq_true rfl⟩) ⟨pC.blind, va_recv hK hPc (ci := 5) (q0 := 1) rfl rfl, pC.pre hPc hG hDc⟩ rfl rfl hl.1 rfl (lv_room (Nat.le_of_ble_eq_true rfl)) dX11_bare_36 ⟨b12z.1, b12z.2⟩) hP hD hS hA rfl rfl rfl (by decide) (fun x14z u13z H locs hw hP hD hS => ?_)
    obtain rfl := hw.symm
    have hP : va_P (dC, dI) vwCl (wd46 cyI cyJ cyZ q_G q_Sc q_Tb q_Sk q_Pk1 u9z.1 u9z.2.1 u9z.2.2 q_Pr q_Sp q_Ch q_Wh q_Mk q_Tr q_Ws r11z.2.1 r11z.2.2 r7z.1 r7z.2.1 r7z.2.2.1 r7z.2.2.2.1 r7z.2.2.2.2.1 r7z.2.2.2.2.2) H := hP.sub [0, 1, 3, 4, 5, 2, 6, 7] rfl
    have hD : va_D A (wd46 cyI cyJ cyZ q_G q_Sc q_Tb q_Sk q_Pk1 u9z.1 u9z.2.1 u9z.2.2 q_Pr q_Sp q_Ch q_Wh q_Mk q_Tr q_Ws r11z.2.1 r11z.2.2 r7z.1 r7z.2.1 r7z.2.2.1 r7z.2.2.2.1 r7z.2.2.2.2.1 r7z.2.2.2.2.2) := hD.sub [0, 1, 3, 4, 5, 2, 6, 7] (by decide) rfl
    refine lv_bipush (v := (-4 : Int32)) hx hb dX11_bare_39 (by decide) ?_
    refine lv_icmp_ne (tgt := 48) hx hb dX11_bare_41 (by decide) (fun c15z => ?_) (fun c15z => ?_)
    · have h := xf h c15z
      refine lv_iconst (v := (0 : Int32)) hx hb dX11_bare_48 (by decide) ?_
      obtain ⟨b16z, h⟩ := xa h
      refine W.widen (k := MC) (n := MS) b16z.1 b16z.2 ?_
      obtain rfl := Option.some.inj h
      exact W.iret (v := (0 : Int32)) hx hb hr (fun t ht hW => ⟨⟨_, (u9z.1, u9z.2.1, u9z.2.2), rfl, rfl, by rw [ht]; exact hP, hD⟩, hS.F ht⟩) hS.2.2 dX11_bare_49 hlocks
    · have h := xt h c15z
      refine lv_iconst (v := (1 : Int32)) hx hb dX11_bare_44 (by decide) ?_
      refine lv_goto (tgt := 49) hx hb dX11_bare_45 (by decide) ?_
      obtain ⟨b17z, h⟩ := xa h
      refine W.widen (k := MC) (n := MS) b17z.1 b17z.2 ?_
      obtain rfl := Option.some.inj h
      exact W.iret (v := (1 : Int32)) hx hb hr (fun t ht hW => ⟨⟨_, (u9z.1, u9z.2.1, u9z.2.2), rfl, rfl, by rw [ht]; exact hP, hD⟩, hS.F ht⟩) hS.2.2 dX11_bare_49 hlocks
  · have h := xt h c5z
    refine lv_iconst (v := (-1 : Int32)) hx hb dX11_bare_11 (by decide) ?_
    obtain ⟨b18z, h⟩ := xa h
    refine W.widen (k := MC) (n := MS) b18z.1 b18z.2 ?_
    obtain rfl := Option.some.inj h
    exact W.iret (v := (-1 : Int32)) hx hb hr (fun t ht hW => ⟨⟨_, (q_row, q_all, q_apart), rfl, rfl, by rw [ht]; exact hP, hD⟩, hS.F ht⟩) hS.2.2 dX11_bare_12 hlocks
set_option maxRecDepth 100000 in
set_option maxHeartbeats 4000000 in
theorem c_X11_bare (l : Launch) (dC : Nat → ClassId) (dI : Nat → Nat → Nat) (cyI cyJ cyZ : ClassId) (N : Nat) (MC MS : Nat) (res : Int32 × Int32 × Int32 × Nat × (Nat → Int32) × Nat × (Nat → Int32) × Nat × (Nat → Int32)) (sz : Nat) (q_G : Nat) (q_Sc : Nat) (q_Tb : Nat) (q_Sk : Nat) (q_Pk1 : Nat) (q_row : Nat) (q_all : Nat) (q_apart : Nat) (q_Pr : Nat) (q_Sp : Nat) (q_Ch : Nat) (q_Wh : Nat) (q_Mk : Nat) (q_Tr : Nat) (q_Ws : Nat) (v1 : Int32) (pk1_wanted : Int32) (pk1_seen : Int32) (n_row : Nat) (a_row : Nat → Int32) (n_all : Nat) (a_all : Nat → Int32) (n_apart : Nat) (a_apart : Nat → Int32) (h : f_X11_bare N MC MS v1 pk1_wanted pk1_seen n_row a_row n_all a_all n_apart a_apart = some res) : Met l yX11_bare wsX11_bare (rm_X11_bare MC MS) (pC dC dI cyI cyJ cyZ [.ref q_G, .int v1] sz (wd46 cyI cyJ cyZ q_G q_Sc q_Tb q_Sk q_Pk1 q_row q_all q_apart q_Pr q_Sp q_Ch q_Wh q_Mk q_Tr q_Ws pk1_wanted pk1_seen n_row a_row n_all a_all n_apart a_apart)) (va_Qi (fun (r : Int32) (_ : Nat × Nat × Nat) => r = res.1) (bW dC dI (fun (u : Nat × Nat × Nat) => (wd46 cyI cyJ cyZ q_G q_Sc q_Tb q_Sk q_Pk1 u.1 u.2.1 u.2.2 q_Pr q_Sp q_Ch q_Wh q_Mk q_Tr q_Ws res.2.1 res.2.2.1 res.2.2.2.1 res.2.2.2.2.1 res.2.2.2.2.2.1 res.2.2.2.2.2.2.1 res.2.2.2.2.2.2.2.1 res.2.2.2.2.2.2.2.2)) (va_A (wd46 cyI cyJ cyZ q_G q_Sc q_Tb q_Sk q_Pk1 q_row q_all q_apart q_Pr q_Sp q_Ch q_Wh q_Mk q_Tr q_Ws pk1_wanted pk1_seen n_row a_row n_all a_all n_apart a_apart) sz)) (va_A (wd46 cyI cyJ cyZ q_G q_Sc q_Tb q_Sk q_Pk1 q_row q_all q_apart q_Pr q_Sp q_Ch q_Wh q_Mk q_Tr q_Ws pk1_wanted pk1_seen n_row a_row n_all a_all n_apart a_apart) sz)) MC MS (va_A (wd46 cyI cyJ cyZ q_G q_Sc q_Tb q_Sk q_Pk1 q_row q_all q_apart q_Pr q_Sp q_Ch q_Wh q_Mk q_Tr q_Ws pk1_wanted pk1_seen n_row a_row n_all a_all n_apart a_apart) sz) := by
  refine Met.ofW (cc := cX11_bare) (maxL := 3) (ret := (some .int)) (by decide) rfl ?_
  intro p e s m args below meth c s₁ B hml hv
  obtain ⟨rfl, hsz, hP, hG, hD0⟩ := hv
  have hx := B.exec
  have hb := B.bytes
  have hr := B.returns
  have hts := atoms_spec (ws := wsX11_bare) B.pre
  have hown : s.vm.findClass RX11 = some m.cls := findClass_of_methodNamed B.named
  have hlocks := B.notSynchronized
  subst hsz
  have hD := hD0.self (sz := s.heap.size)
  generalize hAe : va_A (wd46 cyI cyJ cyZ q_G q_Sc q_Tb q_Sk q_Pk1 q_row q_all q_apart q_Pr q_Sp q_Ch q_Wh q_Mk q_Tr q_Ws pk1_wanted pk1_seen n_row a_row n_all a_all n_apart a_apart) s.heap.size = A at hD ⊢
  have hA : ∀ q : Nat, s.heap.size ≤ q → A q := fun q h => by rw [← hAe]; exact Or.inr h
  have hS : va_S A s.heap s.heap [] := va_S.rf
  have hl := lv_entry ([.ref q_G, .int v1]) (n := 3) (Nat.le_of_ble_eq_true rfl)
  rw [lg_entry_eq]
  generalize (lg_sl ([.ref q_G, .int v1]) ++ List.replicate (3 - (lg_sl ([.ref q_G, .int v1])).length) Slot.unset).toArray = ls at hl ⊢
  have hl : lv_has ls 3 [(0, .ref q_G), (1, .int v1)] := hl
  exact k_X11_bare_0 ⟨hx, hb, hr, hml, hown, hts, hlocks, hG, hA⟩ N MC MS res q_G q_Sc q_Tb q_Sk q_Pk1 q_Pr q_Sp q_Ch q_Wh q_Mk q_Tr q_Ws v1 pk1_wanted pk1_seen n_row a_row n_all a_all n_apart a_apart q_row q_all q_apart h _ _ hP hD hS _ hl
abbrev rm_X11_share (MC MS : Nat) : Room := { frames := 3, cells := MC, slots := MS, locals := 79 }
theorem hd_X11_share : yX11_share.cls ≠ "java/lang/invoke/MethodHandle" ∧ yX11_share.cls ≠ "java/lang/invoke/VarHandle" ∧ (parseMethodDescriptor yX11_share.desc).map (fun d => d.parameters.length) = some 2 := by decide +kernel
theorem iw_X11_share_X11 : ∀ w ∈ wsX110, w ∈ wsX11_share := List.forall_mem_cons.mpr ⟨List.mem_of_getElem? (i := 69) rfl, List.forall_mem_cons.mpr ⟨List.mem_of_getElem? (i := 70) rfl, List.forall_mem_cons.mpr ⟨List.mem_of_getElem? (i := 71) rfl, List.forall_mem_cons.mpr ⟨List.mem_of_getElem? (i := 72) rfl, List.forall_mem_cons.mpr ⟨List.mem_of_getElem? (i := 73) rfl, List.forall_mem_cons.mpr ⟨List.mem_of_getElem? (i := 74) rfl, List.forall_mem_cons.mpr ⟨List.mem_of_getElem? (i := 75) rfl, List.forall_mem_cons.mpr ⟨List.mem_of_getElem? (i := 76) rfl, List.forall_mem_cons.mpr ⟨List.mem_of_getElem? (i := 77) rfl, fun _ h => absurd h List.not_mem_nil⟩⟩⟩⟩⟩⟩⟩⟩⟩
theorem iw_X11_share_X4 : ∀ w ∈ wsX40, w ∈ wsX11_share := List.forall_mem_cons.mpr ⟨List.mem_of_getElem? (i := 80) rfl, fun _ h => absurd h List.not_mem_nil⟩
theorem iw_X11_share_X3 : ∀ w ∈ wsX30, w ∈ wsX11_share := List.forall_mem_cons.mpr ⟨List.mem_of_getElem? (i := 78) rfl, List.forall_mem_cons.mpr ⟨List.mem_of_getElem? (i := 79) rfl, fun _ h => absurd h List.not_mem_nil⟩⟩
theorem iw_X11_share_X6 : ∀ w ∈ wsX60, w ∈ wsX11_share := List.forall_mem_cons.mpr ⟨List.mem_of_getElem? (i := 81) rfl, List.forall_mem_cons.mpr ⟨List.mem_of_getElem? (i := 82) rfl, List.forall_mem_cons.mpr ⟨List.mem_of_getElem? (i := 83) rfl, List.forall_mem_cons.mpr ⟨List.mem_of_getElem? (i := 84) rfl, List.forall_mem_cons.mpr ⟨List.mem_of_getElem? (i := 85) rfl, List.forall_mem_cons.mpr ⟨List.mem_of_getElem? (i := 86) rfl, List.forall_mem_cons.mpr ⟨List.mem_of_getElem? (i := 87) rfl, List.forall_mem_cons.mpr ⟨List.mem_of_getElem? (i := 88) rfl, fun _ h => absurd h List.not_mem_nil⟩⟩⟩⟩⟩⟩⟩⟩
def f_X11_share (N : Nat) (MC : Nat) (MS : Nat) (v1 : Int64) (v3 : Int32) (sp_unlike : Int32) (sp_number : Int64) (n_row : Nat) (a_row : Nat → Int32) (n_list : Nat) (a_list : Nat → Int32) (a_prime : Nat → Int64) (a_times : Nat → Int32) : Option (Int64 × Int32 × Int64 × Nat × (Nat → Int32) × Nat × (Nat → Int32) × (Nat → Int64) × (Nat → Int32)) :=
  if 0 ≤ MC ∧ 0 ≤ MS then
    Option.bind (f_X11_isNumber N v1) fun r1z =>
    if r1z = 0 then
      if 0 ≤ MC ∧ 0 ≤ MS then
        some ((-1 : Int64), sp_unlike, sp_number, n_row, a_row, n_list, a_list, a_prime, a_times)
      else
        none
    else
      if 0 ≤ MC ∧ 0 ≤ MS then
        Option.bind (f_X11_within N v3 (0 : Int32) (1 : Int32)) fun r7z =>
        if r7z = 0 then
          if 0 ≤ MC ∧ 0 ≤ MS then
            some ((-1 : Int64), sp_unlike, sp_number, n_row, a_row, n_list, a_list, a_prime, a_times)
          else
            none
        else
          if 0 + (if 0 < nI n_list then 0 else 1 + (if nI n_row = 0 then 1 else 0)) ≤ MC ∧ 0 + (if 0 < nI n_list then 0 else 9592 + (if nI n_row = 0 then 50001 else 0)) ≤ MS then
            Option.bind (f_X3_prepare N (if 0 < nI n_list then 0 else 1 + (if nI n_row = 0 then 1 else 0)) (if 0 < nI n_list then 0 else 9592 + (if nI n_row = 0 then 50001 else 0))  n_row a_row n_list a_list) fun r12z =>
            if 0 + (if 0 < nI n_list then 0 else 1 + (if nI n_row = 0 then 1 else 0)) ≤ MC ∧ 0 + (if 0 < nI n_list then 0 else 9592 + (if nI n_row = 0 then 50001 else 0)) ≤ MS then
              Option.bind (f_X6_summed N (0 : Int32) v1 sp_unlike sp_number r12z.2.2.1 r12z.2.2.2 a_prime a_times) fun r16z =>
              if 0 + (if 0 < nI n_list then 0 else 1 + (if nI n_row = 0 then 1 else 0)) ≤ MC ∧ 0 + (if 0 < nI n_list then 0 else 9592 + (if nI n_row = 0 then 50001 else 0)) ≤ MS then
                Option.bind (f_X11_commonPart N r16z.1 v1) fun r20z =>
                if (1 : Int64) ≤ r20z then
                  if v3 = 0 then
                    if r20z = 0 then
                      none
                    else
                      if 0 + (if 0 < nI n_list then 0 else 1 + (if nI n_row = 0 then 1 else 0)) ≤ MC ∧ 0 + (if 0 < nI n_list then 0 else 9592 + (if nI n_row = 0 then 50001 else 0)) ≤ MS then
                        some (r16z.1 / r20z, r16z.2.1, r16z.2.2.1, r12z.1, r12z.2.1, r12z.2.2.1, r12z.2.2.2, r16z.2.2.2.1, r16z.2.2.2.2)
                      else
                        none
                  else
                    if r20z = 0 then
                      none
                    else
                      if 0 + (if 0 < nI n_list then 0 else 1 + (if nI n_row = 0 then 1 else 0)) ≤ MC ∧ 0 + (if 0 < nI n_list then 0 else 9592 + (if nI n_row = 0 then 50001 else 0)) ≤ MS then
                        some (v1 / r20z, r16z.2.1, r16z.2.2.1, r12z.1, r12z.2.1, r12z.2.2.1, r12z.2.2.2, r16z.2.2.2.1, r16z.2.2.2.2)
                      else
                        none
                else
                  if 0 + (if 0 < nI n_list then 0 else 1 + (if nI n_row = 0 then 1 else 0)) ≤ MC ∧ 0 + (if 0 < nI n_list then 0 else 9592 + (if nI n_row = 0 then 50001 else 0)) ≤ MS then
                    some ((-1 : Int64), r16z.2.1, r16z.2.2.1, r12z.1, r12z.2.1, r12z.2.2.1, r12z.2.2.2, r16z.2.2.2.1, r16z.2.2.2.2)
                  else
                    none
              else
                none
            else
              none
          else
            none
      else
        none
  else
    none
set_option maxRecDepth 100000 in
set_option maxHeartbeats 4000000 in
theorem k_X11_share_0 {p : Program} {l : Launch} {e : Env} {s : State} {m : MethodId} {args : Array Value} {below : List Frame} {meth : Method} {c : Code} {dC : Nat → ClassId} {dI : Nat → Nat → Nat} {cyI cyJ cyZ : ClassId} {A : Nat → Prop} (C0 : mC p s m meth c args cX11_share (some .long) 8 RX11 wsX11_share (gK dC dI cyI cyJ cyZ) A) (N : Nat) (MC MS : Nat) (res : Int64 × Int32 × Int64 × Nat × (Nat → Int32) × Nat × (Nat → Int32) × (Nat → Int64) × (Nat → Int32)) (q_G : Nat) (q_Sc : Nat) (q_Pr : Nat) (q_Sp : Nat) (q_prime : Nat) (q_times : Nat) (q_Ch : Nat) (q_Tb : Nat) (q_Sk : Nat) (q_Wh : Nat) (q_Mk : Nat) (q_Tr : Nat) (q_Ws : Nat) (q_parts : Nat) (v1 : Int64) (v3 : Int32) (sp_unlike : Int32) (sp_number : Int64) (sp_partsKept : Int32) (sp_partsNumber : Int64) (n_row : Nat) (a_row : Nat → Int32) (n_list : Nat) (a_list : Nat → Int32) (a_prime : Nat → Int64) (a_times : Nat → Int32) (q_row : Nat) (q_list : Nat) (h : f_X11_share N MC MS v1 v3 sp_unlike sp_number n_row a_row n_list a_list a_prime a_times = some res) : ∀ (H : Heap) (locs : List Loc), va_P (dC, dI) vwCl (wd43 cyI cyJ cyZ q_G q_Sc q_Pr q_Sp q_row q_list q_prime q_times q_Ch q_Tb q_Sk q_Wh q_Mk q_Tr q_Ws q_parts sp_unlike sp_number sp_partsKept sp_partsNumber n_row a_row n_list a_list a_prime a_times) H → va_D A (wd43 cyI cyJ cyZ q_G q_Sc q_Pr q_Sp q_row q_list q_prime q_times q_Ch q_Tb q_Sk q_Wh q_Mk q_Tr q_Ws q_parts sp_unlike sp_number sp_partsKept sp_partsNumber n_row a_row n_list a_list a_prime a_times) → va_S A s.heap H locs → ∀ (ls : Array Slot), lv_has ls 8 [(0, .ref q_G), (1, .long v1), (3, .int v3)] → W p l e (headSpec wsX11_share (rm_X11_share MC MS)).room s m args below meth c H locs 0 0 (MQ below (va_Ql (fun (r : Int64) (_ : Nat × Nat) => r = res.1) (bW dC dI (fun (u : Nat × Nat) => (wd43 cyI cyJ cyZ q_G q_Sc q_Pr q_Sp u.1 u.2 q_prime q_times q_Ch q_Tb q_Sk q_Wh q_Mk q_Tr q_Ws q_parts res.2.1 res.2.2.1 sp_partsKept sp_partsNumber res.2.2.2.1 res.2.2.2.2.1 res.2.2.2.2.2.1 res.2.2.2.2.2.2.1 res.2.2.2.2.2.2.2.1 res.2.2.2.2.2.2.2.2)) A) A) args s MC MS A) (F0 m 0 ls []) := by
  obtain ⟨hx, hb, hr, hml, hown, hts, hlocks, hG, hA⟩ := id C0
  have hK := hG.1
  intro H locs hP hD hS ls hl
  unfold f_X11_share at h
  refine lv_lload_n hx hb dX11_share_0 rfl (lv_at hl 1 rfl) ?_
  obtain ⟨b2z, h⟩ := xa h
  obtain ⟨r1z, hr1z, h⟩ := xb_at h
  have hPc := hP.sub (ws' := (wd37 cyI cyJ cyZ)) [] rfl
  have hDc := hD.sub (ws' := (wd37 cyI cyJ cyZ)) [] (by decide) rfl
  refine cal_i [] [0, 1, 2, 3, 4, 5, 6, 7] (va_runS (As := [.long v1]) (rest := []) ⟨hx, hb, hml, hown, hts⟩ (c_X11_isNumber l dC dI cyI cyJ cyZ N r1z H.size  v1  hr1z) (va_cwS 1 hts gX11_share_X11_isNumber rfl rfl rfl hd_X11_isNumber ⟨Nat.le_of_ble_eq_true rfl, Nat.le_of_ble_eq_true rfl⟩) ⟨pC.blind, pC.pre hPc hG hDc⟩ rfl rfl hl.1 rfl (lv_room (Nat.le_of_ble_eq_true rfl)) dX11_share_1 ⟨b2z.1, b2z.2⟩) hP hD hS hA rfl rfl rfl (by decide) (fun x4z u3z H locs hw hP hD hS => ?_)
  obtain rfl := hw.symm
  have hP : va_P (dC, dI) vwCl (wd43 cyI cyJ cyZ q_G q_Sc q_Pr q_Sp q_row q_list q_prime q_times q_Ch q_Tb q_Sk q_Wh q_Mk q_Tr q_Ws q_parts sp_unlike sp_number sp_partsKept sp_partsNumber n_row a_row n_list a_list a_prime a_times) H := hP.sub [0, 1, 2, 3, 4, 5, 6, 7] rfl
  have hD : va_D A (wd43 cyI cyJ cyZ q_G q_Sc q_Pr q_Sp q_row q_list q_prime q_times q_Ch q_Tb q_Sk q_Wh q_Mk q_Tr q_Ws q_parts sp_unlike sp_number sp_partsKept sp_partsNumber n_row a_row n_list a_list a_prime a_times) := hD.sub [0, 1, 2, 3, 4, 5, 6, 7] (by decide) rfl
  refine lv_if_eq (tgt := 16) hx hb dX11_share_4 (by decide) (fun c5z => ?_) (fun c5z => ?_)
  · have h := xt h c5z
    refine lv_ldc2 (v := (-1 : Int64)) hx hb hown (hts (.constantLong RX11 99 (-1)) (List.mem_of_getElem? (i := 1) rfl)) dX11_share_16 ?_
    obtain ⟨b6z, h⟩ := xa h
    refine W.widen (k := MC) (n := MS) b6z.1 b6z.2 ?_
    obtain rfl := Option.some.inj h
    exact W.lret (v := (-1 : Int64)) hx hb hr (fun t ht hW => ⟨⟨_, (q_row, q_list), rfl, rfl, by rw [ht]; exact hP, hD⟩, hS.F ht⟩) hS.2.2 dX11_share_19 hlocks
  · have h := xf h c5z
    refine lv_iload_n hx hb dX11_share_7 rfl (lv_at hl 2 rfl) ?_
    refine lv_iconst (v := (0 : Int32)) hx hb dX11_share_8 (by decide) ?_
    refine lv_iconst (v := (1 : Int32)) hx hb dX11_share_9 (by decide) ?_
    obtain ⟨b8z, h⟩ := xa h
    obtain ⟨r7z, hr7z, h⟩ := xb_at h
    have hPc := hP.sub (ws' := (wd37 cyI cyJ cyZ)) [] rfl
    have hDc := hD.sub (ws' := (wd37 cyI cyJ cyZ)) [] (by decide) rfl
    refine cal_i [] [0, 1, 2, 3, 4, 5, 6, 7] (va_runS (As := [.int v3, .int (0 : Int32), .int (1 : Int32)]) (rest := []) ⟨hx, hb, hml, hown, hts⟩ (c_X11_within l dC dI cyI cyJ cyZ N r7z H.size  v3 (0 : Int32) (1 : Int32)  hr7z) (va_cwS 3 hts gX11_share_X11_within rfl rfl rfl hd_X11_within ⟨Nat.le_of_ble_eq_true rfl, Nat.le_of_ble_eq_true rfl⟩) ⟨pC.blind, pC.pre hPc hG hDc⟩ rfl rfl hl.1 rfl (lv_room (Nat.le_of_ble_eq_true rfl)) dX11_share_10 ⟨b8z.1, b8z.2⟩) hP hD hS hA rfl rfl rfl (by decide) (fun x10z u9z H locs hw hP hD hS => ?_)
    obtain rfl := hw.symm
    have hP : va_P (dC, dI) vwCl (wd43 cyI cyJ cyZ q_G q_Sc q_Pr q_Sp q_row q_list q_prime q_times q_Ch q_Tb q_Sk q_Wh q_Mk q_Tr q_Ws q_parts sp_unlike sp_number sp_partsKept sp_partsNumber n_row a_row n_list a_list a_prime a_times) H := hP.sub [0, 1, 2, 3, 4, 5, 6, 7] rfl
    have hD : va_D A (wd43 cyI cyJ cyZ q_G q_Sc q_Pr q_Sp q_row q_list q_prime q_times q_Ch q_Tb q_Sk q_Wh q_Mk q_Tr q_Ws q_parts sp_unlike sp_number sp_partsKept sp_partsNumber n_row a_row n_list a_list a_prime a_times) := hD.sub [0, 1, 2, 3, 4, 5, 6, 7] (by decide) rfl
    refine lv_if_ne (tgt := 20) hx hb dX11_share_13 (by decide) (fun c11z => ?_) (fun c11z => ?_)
    · have h := xf h c11z
      refine lv_aload_n hx hb dX11_share_20 rfl (lv_at hl 0 rfl) ?_
      refine va_get (D := (dC, dI)) (ci := 11) (v := .ref q_Pr) (C := RX11) (T := TX11) (N := 9) hx hb hts iw_X11_share_X11 hown hK hP 0 rfl rfl 0 (by decide) (hts (.fieldLink RX11 15 "GoesInto" "primes" "LGoesInto$Primes;") (List.mem_of_getElem? (i := 2) rfl)) (fun _ h9 => h9) rfl dX11_share_21 ?_
      obtain ⟨b13z, h⟩ := xa h
      obtain ⟨r12z, hr12z, h⟩ := xb_at h
      have hPc := hP.sub (ws' := (wd11 cyI cyJ cyZ q_Sc q_Pr q_row q_list n_row a_row n_list a_list)) [1, 2, 4, 5] rfl
      have hDc := hD.sub (ws' := (wd11 cyI cyJ cyZ q_Sc q_Pr q_row q_list n_row a_row n_list a_list)) [1, 2, 4, 5] (by decide) rfl
      refine cal_v [1, 2, 4, 5] [0, 3, 6, 7] (va_runV (As := []) (rest := []) ⟨hx, hb, hml, hown, hts⟩ (c_X3_prepare l dC dI cyI cyJ cyZ N (if 0 < nI n_list then 0 else 1 + (if nI n_row = 0 then 1 else 0)) (if 0 < nI n_list then 0 else 9592 + (if nI n_row = 0 then 50001 else 0)) r12z H.size q_Sc q_Pr q_row q_list  n_row a_row n_list a_list hr12z) (cwV 0 hts gX11_share_X3_prepare rfl rfl rfl ⟨rfl, hd_X3_prepare⟩ ⟨Nat.le_of_ble_eq_true rfl, Nat.le_of_ble_eq_true rfl⟩) ⟨pC.blind, va_recv hK hPc (ci := 3) (q0 := 1) rfl rfl, pC.pre hPc hG hDc⟩ rfl rfl hl.1 rfl (lv_room (Nat.le_of_ble_eq_true rfl)) dX11_share_24 ⟨b13z.1, b13z.2⟩) hP hD hS hA rfl rfl rfl (by decide) (fun u14z H locs _ hP hD hS => ?_)
      have hP : va_P (dC, dI) vwCl (wd43 cyI cyJ cyZ q_G q_Sc q_Pr q_Sp u14z.1 u14z.2 q_prime q_times q_Ch q_Tb q_Sk q_Wh q_Mk q_Tr q_Ws q_parts sp_unlike sp_number sp_partsKept sp_partsNumber r12z.1 r12z.2.1 r12z.2.2.1 r12z.2.2.2 a_prime a_times) H := hP.sub [0, 4, 5, 1, 6, 7, 2, 3] rfl
      have hD : va_D A (wd43 cyI cyJ cyZ q_G q_Sc q_Pr q_Sp u14z.1 u14z.2 q_prime q_times q_Ch q_Tb q_Sk q_Wh q_Mk q_Tr q_Ws q_parts sp_unlike sp_number sp_partsKept sp_partsNumber r12z.1 r12z.2.1 r12z.2.2.1 r12z.2.2.2 a_prime a_times) := hD.sub [0, 4, 5, 1, 6, 7, 2, 3] (by decide) rfl
      refine lv_aload_n hx hb dX11_share_27 rfl (lv_at hl 0 rfl) ?_
      refine va_get (D := (dC, dI)) (ci := 11) (v := .ref q_Sp) (C := RX11) (T := TX11) (N := 9) hx hb hts iw_X11_share_X11 hown hK hP 0 rfl rfl 1 (by decide) (hts (.fieldLink RX11 26 "GoesInto" "split" "LGoesInto$Split;") (List.mem_of_getElem? (i := 3) rfl)) (fun _ h9 => h9) rfl dX11_share_28 ?_
      refine lv_iconst (v := (0 : Int32)) hx hb dX11_share_31 (by decide) ?_
      refine lv_lload_n hx hb dX11_share_32 rfl (lv_at hl 1 rfl) ?_
      obtain ⟨b17z, h⟩ := xa h
      obtain ⟨r16z, hr16z, h⟩ := xb_at h
      have hPc := hP.sub (ws' := (wd1 cyI cyJ cyZ q_Pr q_Sp u14z.2 q_prime q_times q_Sc q_parts sp_unlike sp_number sp_partsKept sp_partsNumber r12z.2.2.1 r12z.2.2.2 a_prime a_times)) [2, 3, 5, 6, 7] rfl
      have hDc := hD.sub (ws' := (wd1 cyI cyJ cyZ q_Pr q_Sp u14z.2 q_prime q_times q_Sc q_parts sp_unlike sp_number sp_partsKept sp_partsNumber r12z.2.2.1 r12z.2.2.2 a_prime a_times)) [2, 3, 5, 6, 7] (by decide) rfl
      refine cal_l [2, 3, 5, 6, 7] [0, 1, 4] (va_runV (As := [.int (0 : Int32), .long v1]) (rest := []) ⟨hx, hb, hml, hown, hts⟩ (c_X6_summed l dC dI cyI cyJ cyZ N r16z H.size q_Pr q_Sp u14z.2 q_prime q_times q_Sc q_parts (0 : Int32) v1 sp_unlike sp_number sp_partsKept sp_partsNumber r12z.2.2.1 r12z.2.2.2 a_prime a_times hr16z) (cwV 2 hts gX11_share_X6_summed rfl rfl rfl ⟨rfl, hd_X6_summed⟩ ⟨Nat.le_of_ble_eq_true rfl, Nat.le_of_ble_eq_true rfl⟩) ⟨pC.blind, va_recv hK hPc (ci := 6) (q0 := 1) rfl rfl, pC.pre hPc hG hDc⟩ rfl rfl hl.1 rfl (lv_room (Nat.le_of_ble_eq_true rfl)) dX11_share_33 ⟨b17z.1, b17z.2⟩) hP hD hS hA rfl rfl rfl (by decide) (fun x19z u18z H locs hw hP hD hS => ?_)
      obtain rfl := hw.symm
      have hP : va_P (dC, dI) vwCl (wd43 cyI cyJ cyZ q_G q_Sc q_Pr q_Sp u14z.1 u14z.2 q_prime q_times q_Ch q_Tb q_Sk q_Wh q_Mk q_Tr q_Ws q_parts r16z.2.1 r16z.2.2.1 sp_partsKept sp_partsNumber r12z.1 r12z.2.1 r12z.2.2.1 r12z.2.2.2 r16z.2.2.2.1 r16z.2.2.2.2) H := hP.sub [0, 1, 3, 4, 2, 5, 6, 7] rfl
      have hD : va_D A (wd43 cyI cyJ cyZ q_G q_Sc q_Pr q_Sp u14z.1 u14z.2 q_prime q_times q_Ch q_Tb q_Sk q_Wh q_Mk q_Tr q_Ws q_parts r16z.2.1 r16z.2.2.1 sp_partsKept sp_partsNumber r12z.1 r12z.2.1 r12z.2.2.1 r12z.2.2.2 r16z.2.2.2.1 r16z.2.2.2.2) := hD.sub [0, 1, 3, 4, 2, 5, 6, 7] (by decide) rfl
      refine lv_lstore (lv' := [(4, .long r16z.1), (0, .ref q_G), (1, .long v1), (3, .int v3)]) hx hb dX11_share_36 hl (by decide) rfl (fun ls hl => ?_)
      refine lv_lload hx hb dX11_share_38 (lv_at hl 0 rfl) ?_
      refine lv_lload_n hx hb dX11_share_40 rfl (lv_at hl 2 rfl) ?_
      obtain ⟨b21z, h⟩ := xa h
      obtain ⟨r20z, hr20z, h⟩ := xb_at h
      have hPc := hP.sub (ws' := (wd37 cyI cyJ cyZ)) [] rfl
      have hDc := hD.sub (ws' := (wd37 cyI cyJ cyZ)) [] (by decide) rfl
      refine cal_l [] [0, 1, 2, 3, 4, 5, 6, 7] (va_runS (As := [.long r16z.1, .long v1]) (rest := []) ⟨hx, hb, hml, hown, hts⟩ (c_X11_commonPart l dC dI cyI cyJ cyZ N r20z H.size  r16z.1 v1  hr20z) (va_cwS 2 hts gX11_share_X11_commonPart rfl rfl rfl hd_X11_commonPart ⟨Nat.le_of_ble_eq_true rfl, Nat.le_of_ble_eq_true rfl⟩) ⟨pC.blind, pC.pre hPc hG hDc⟩ rfl rfl hl.1 rfl (lv_room (Nat.le_of_ble_eq_true rfl)) dX11_share_41 ⟨b21z.1, b21z.2⟩) hP hD hS hA rfl rfl rfl (by decide) (fun x23z u22z H locs hw hP hD hS => ?_)
      obtain rfl := hw.symm
      have hP : va_P (dC, dI) vwCl (wd43 cyI cyJ cyZ q_G q_Sc q_Pr q_Sp u14z.1 u14z.2 q_prime q_times q_Ch q_Tb q_Sk q_Wh q_Mk q_Tr q_Ws q_parts r16z.2.1 r16z.2.2.1 sp_partsKept sp_partsNumber r12z.1 r12z.2.1 r12z.2.2.1 r12z.2.2.2 r16z.2.2.2.1 r16z.2.2.2.2) H := hP.sub [0, 1, 2, 3, 4, 5, 6, 7] rfl
      have hD : va_D A (wd43 cyI cyJ cyZ q_G q_Sc q_Pr q_Sp u14z.1 u14z.2 q_prime q_times q_Ch q_Tb q_Sk q_Wh q_Mk q_Tr q_Ws q_parts r16z.2.1 r16z.2.2.1 sp_partsKept sp_partsNumber r12z.1 r12z.2.1 r12z.2.2.1 r12z.2.2.2 r16z.2.2.2.1 r16z.2.2.2.2) := hD.sub [0, 1, 2, 3, 4, 5, 6, 7] (by decide) rfl
      refine lv_lstore (lv' := [(6, .long r20z), (4, .long r16z.1), (0, .ref q_G), (1, .long v1), (3, .int v3)]) hx hb dX11_share_44 hl (by decide) rfl (fun ls hl => ?_)
      refine lv_lload hx hb dX11_share_46 (lv_at hl 0 rfl) ?_
      refine lv_lconst (v := (1 : Int64)) hx hb dX11_share_48 (by decide) ?_
      refine W.lcmp hx hb dX11_share_49 ?_
      refine lv_if_ge (tgt := 57) hx hb dX11_share_50 (by decide) (fun c24z => ?_) (fun c24z => ?_)
      · have c24z := (lg_cmp_ge _ _).mp c24z
        have h := xt h c24z
        refine lv_iload_n hx hb dX11_share_57 rfl (lv_at hl 4 rfl) ?_
        refine lv_if_ne (tgt := 69) hx hb dX11_share_58 (by decide) (fun c25z => ?_) (fun c25z => ?_)
        · have h := xf h c25z
          refine lv_lload_n hx hb dX11_share_69 rfl (lv_at hl 3 rfl) ?_
          refine lv_lload hx hb dX11_share_70 (lv_at hl 0 rfl) ?_
          obtain ⟨b26z, h⟩ := xn h
          refine lv_ldiv hx hb dX11_share_72 b26z ?_
          obtain ⟨b27z, h⟩ := xa h
          refine W.widen (k := MC) (n := MS) b27z.1 b27z.2 ?_
          obtain rfl := Option.some.inj h
          exact W.lret (v := v1 / r20z) hx hb hr (fun t ht hW => ⟨⟨_, (u14z.1, u14z.2), rfl, rfl, by rw [ht]; exact hP, hD⟩, hS.F ht⟩) hS.2.2 dX11_share_73 hlocks
        · have h := xt h c25z
          refine lv_lload hx hb dX11_share_61 (lv_at hl 1 rfl) ?_
          refine lv_lload hx hb dX11_share_63 (lv_at hl 0 rfl) ?_
          obtain ⟨b28z, h⟩ := xn h
          refine lv_ldiv hx hb dX11_share_65 b28z ?_
          refine lv_goto (tgt := 73) hx hb dX11_share_66 (by decide) ?_
          obtain ⟨b29z, h⟩ := xa h
          refine W.widen (k := MC) (n := MS) b29z.1 b29z.2 ?_
          obtain rfl := Option.some.inj h
          exact W.lret (v := r16z.1 / r20z) hx hb hr (fun t ht hW => ⟨⟨_, (u14z.1, u14z.2), rfl, rfl, by rw [ht]; exact hP, hD⟩, hS.F ht⟩) hS.2.2 dX11_share_73 hlocks
      · have c24z := fun z => c24z ((lg_cmp_ge _ _).mpr z)
        have h := xf h c24z
        refine lv_ldc2 (v := (-1 : Int64)) hx hb hown (hts (.constantLong RX11 99 (-1)) (List.mem_of_getElem? (i := 1) rfl)) dX11_share_53 ?_
        obtain ⟨b30z, h⟩ := xa h
        refine W.widen (k := MC) (n := MS) b30z.1 b30z.2 ?_
        obtain rfl := Option.some.inj h
        exact W.lret (v := (-1 : Int64)) hx hb hr (fun t ht hW => ⟨⟨_, (u14z.1, u14z.2), rfl, rfl, by rw [ht]; exact hP, hD⟩, hS.F ht⟩) hS.2.2 dX11_share_56 hlocks
    · have h := xt h c11z
      refine lv_ldc2 (v := (-1 : Int64)) hx hb hown (hts (.constantLong RX11 99 (-1)) (List.mem_of_getElem? (i := 1) rfl)) dX11_share_16 ?_
      obtain ⟨b31z, h⟩ := xa h
      refine W.widen (k := MC) (n := MS) b31z.1 b31z.2 ?_
      obtain rfl := Option.some.inj h
      exact W.lret (v := (-1 : Int64)) hx hb hr (fun t ht hW => ⟨⟨_, (q_row, q_list), rfl, rfl, by rw [ht]; exact hP, hD⟩, hS.F ht⟩) hS.2.2 dX11_share_19 hlocks
set_option maxRecDepth 100000 in
set_option maxHeartbeats 4000000 in
theorem c_X11_share (l : Launch) (dC : Nat → ClassId) (dI : Nat → Nat → Nat) (cyI cyJ cyZ : ClassId) (N : Nat) (MC MS : Nat) (res : Int64 × Int32 × Int64 × Nat × (Nat → Int32) × Nat × (Nat → Int32) × (Nat → Int64) × (Nat → Int32)) (sz : Nat) (q_G : Nat) (q_Sc : Nat) (q_Pr : Nat) (q_Sp : Nat) (q_row : Nat) (q_list : Nat) (q_prime : Nat) (q_times : Nat) (q_Ch : Nat) (q_Tb : Nat) (q_Sk : Nat) (q_Wh : Nat) (q_Mk : Nat) (q_Tr : Nat) (q_Ws : Nat) (q_parts : Nat) (v1 : Int64) (v3 : Int32) (sp_unlike : Int32) (sp_number : Int64) (sp_partsKept : Int32) (sp_partsNumber : Int64) (n_row : Nat) (a_row : Nat → Int32) (n_list : Nat) (a_list : Nat → Int32) (a_prime : Nat → Int64) (a_times : Nat → Int32) (h : f_X11_share N MC MS v1 v3 sp_unlike sp_number n_row a_row n_list a_list a_prime a_times = some res) : Met l yX11_share wsX11_share (rm_X11_share MC MS) (pC dC dI cyI cyJ cyZ [.ref q_G, .long v1, .int v3] sz (wd43 cyI cyJ cyZ q_G q_Sc q_Pr q_Sp q_row q_list q_prime q_times q_Ch q_Tb q_Sk q_Wh q_Mk q_Tr q_Ws q_parts sp_unlike sp_number sp_partsKept sp_partsNumber n_row a_row n_list a_list a_prime a_times)) (va_Ql (fun (r : Int64) (_ : Nat × Nat) => r = res.1) (bW dC dI (fun (u : Nat × Nat) => (wd43 cyI cyJ cyZ q_G q_Sc q_Pr q_Sp u.1 u.2 q_prime q_times q_Ch q_Tb q_Sk q_Wh q_Mk q_Tr q_Ws q_parts res.2.1 res.2.2.1 sp_partsKept sp_partsNumber res.2.2.2.1 res.2.2.2.2.1 res.2.2.2.2.2.1 res.2.2.2.2.2.2.1 res.2.2.2.2.2.2.2.1 res.2.2.2.2.2.2.2.2)) (va_A (wd43 cyI cyJ cyZ q_G q_Sc q_Pr q_Sp q_row q_list q_prime q_times q_Ch q_Tb q_Sk q_Wh q_Mk q_Tr q_Ws q_parts sp_unlike sp_number sp_partsKept sp_partsNumber n_row a_row n_list a_list a_prime a_times) sz)) (va_A (wd43 cyI cyJ cyZ q_G q_Sc q_Pr q_Sp q_row q_list q_prime q_times q_Ch q_Tb q_Sk q_Wh q_Mk q_Tr q_Ws q_parts sp_unlike sp_number sp_partsKept sp_partsNumber n_row a_row n_list a_list a_prime a_times) sz)) MC MS (va_A (wd43 cyI cyJ cyZ q_G q_Sc q_Pr q_Sp q_row q_list q_prime q_times q_Ch q_Tb q_Sk q_Wh q_Mk q_Tr q_Ws q_parts sp_unlike sp_number sp_partsKept sp_partsNumber n_row a_row n_list a_list a_prime a_times) sz) := by
  refine Met.ofW (cc := cX11_share) (maxL := 8) (ret := (some .long)) (by decide) rfl ?_
  intro p e s m args below meth c s₁ B hml hv
  obtain ⟨rfl, hsz, hP, hG, hD0⟩ := hv
  have hx := B.exec
  have hb := B.bytes
  have hr := B.returns
  have hts := atoms_spec (ws := wsX11_share) B.pre
  have hown : s.vm.findClass RX11 = some m.cls := findClass_of_methodNamed B.named
  have hlocks := B.notSynchronized
  subst hsz
  have hD := hD0.self (sz := s.heap.size)
  generalize hAe : va_A (wd43 cyI cyJ cyZ q_G q_Sc q_Pr q_Sp q_row q_list q_prime q_times q_Ch q_Tb q_Sk q_Wh q_Mk q_Tr q_Ws q_parts sp_unlike sp_number sp_partsKept sp_partsNumber n_row a_row n_list a_list a_prime a_times) s.heap.size = A at hD ⊢
  have hA : ∀ q : Nat, s.heap.size ≤ q → A q := fun q h => by rw [← hAe]; exact Or.inr h
  have hS : va_S A s.heap s.heap [] := va_S.rf
  have hl := lv_entry ([.ref q_G, .long v1, .int v3]) (n := 8) (Nat.le_of_ble_eq_true rfl)
  rw [lg_entry_eq]
  generalize (lg_sl ([.ref q_G, .long v1, .int v3]) ++ List.replicate (8 - (lg_sl ([.ref q_G, .long v1, .int v3])).length) Slot.unset).toArray = ls at hl ⊢
  have hl : lv_has ls 8 [(0, .ref q_G), (1, .long v1), (3, .int v3)] := hl
  exact k_X11_share_0 ⟨hx, hb, hr, hml, hown, hts, hlocks, hG, hA⟩ N MC MS res q_G q_Sc q_Pr q_Sp q_prime q_times q_Ch q_Tb q_Sk q_Wh q_Mk q_Tr q_Ws q_parts v1 v3 sp_unlike sp_number sp_partsKept sp_partsNumber n_row a_row n_list a_list a_prime a_times q_row q_list h _ _ hP hD hS _ hl
abbrev rm_X11_friends (MC MS : Nat) : Room := { frames := 4, cells := MC, slots := MS, locals := 87 }
theorem hd_X11_friends : yX11_friends.cls ≠ "java/lang/invoke/MethodHandle" ∧ yX11_friends.cls ≠ "java/lang/invoke/VarHandle" ∧ (parseMethodDescriptor yX11_friends.desc).map (fun d => d.parameters.length) = some 3 := by decide +kernel
theorem iw_X11_friends_X11 : ∀ w ∈ wsX110, w ∈ wsX11_friends := List.forall_mem_cons.mpr ⟨List.mem_of_getElem? (i := 70) rfl, List.forall_mem_cons.mpr ⟨List.mem_of_getElem? (i := 71) rfl, List.forall_mem_cons.mpr ⟨List.mem_of_getElem? (i := 72) rfl, List.forall_mem_cons.mpr ⟨List.mem_of_getElem? (i := 73) rfl, List.forall_mem_cons.mpr ⟨List.mem_of_getElem? (i := 74) rfl, List.forall_mem_cons.mpr ⟨List.mem_of_getElem? (i := 75) rfl, List.forall_mem_cons.mpr ⟨List.mem_of_getElem? (i := 76) rfl, List.forall_mem_cons.mpr ⟨List.mem_of_getElem? (i := 77) rfl, List.forall_mem_cons.mpr ⟨List.mem_of_getElem? (i := 78) rfl, fun _ h => absurd h List.not_mem_nil⟩⟩⟩⟩⟩⟩⟩⟩⟩
theorem iw_X11_friends_X4 : ∀ w ∈ wsX40, w ∈ wsX11_friends := List.forall_mem_cons.mpr ⟨List.mem_of_getElem? (i := 82) rfl, fun _ h => absurd h List.not_mem_nil⟩
theorem iw_X11_friends_X7 : ∀ w ∈ wsX70, w ∈ wsX11_friends := List.forall_mem_cons.mpr ⟨List.mem_of_getElem? (i := 79) rfl, List.forall_mem_cons.mpr ⟨List.mem_of_getElem? (i := 80) rfl, List.forall_mem_cons.mpr ⟨List.mem_of_getElem? (i := 81) rfl, fun _ h => absurd h List.not_mem_nil⟩⟩⟩
theorem iw_X11_friends_X5 : ∀ w ∈ wsX50, w ∈ wsX11_friends := List.forall_mem_cons.mpr ⟨List.mem_of_getElem? (i := 83) rfl, List.forall_mem_cons.mpr ⟨List.mem_of_getElem? (i := 84) rfl, List.forall_mem_cons.mpr ⟨List.mem_of_getElem? (i := 85) rfl, fun _ h => absurd h List.not_mem_nil⟩⟩⟩
theorem iw_X11_friends_X2 : ∀ w ∈ wsX20, w ∈ wsX11_friends := List.forall_mem_cons.mpr ⟨List.mem_of_getElem? (i := 86) rfl, List.forall_mem_cons.mpr ⟨List.mem_of_getElem? (i := 87) rfl, fun _ h => absurd h List.not_mem_nil⟩⟩
def f_X11_friends (N : Nat) (MC : Nat) (MS : Nat) (v1 : Int32) (v2 : Int32) (v3 : Int32) (pk1_wanted : Int32) (pk1_seen : Int32) (n_row : Nat) (a_row : Nat → Int32) (n_all : Nat) (a_all : Nat → Int32) (n_apart : Nat) (a_apart : Nat → Int32) : Option (Int32 × Int32 × Int32 × Nat × (Nat → Int32) × Nat × (Nat → Int32) × Nat × (Nat → Int32)) :=
  if 0 ≤ MC ∧ 0 ≤ MS then
    Option.bind (f_X11_isBound N v1) fun r1z =>
    if r1z = 0 then
      if 0 ≤ MC ∧ 0 ≤ MS then
        some ((-1 : Int32), pk1_wanted, pk1_seen, n_row, a_row, n_all, a_all, n_apart, a_apart)
      else
        none
    else
      if 0 ≤ MC ∧ 0 ≤ MS then
        Option.bind (f_X11_isBound N v2) fun r7z =>
        if r7z = 0 then
          if 0 ≤ MC ∧ 0 ≤ MS then
            some ((-1 : Int32), pk1_wanted, pk1_seen, n_row, a_row, n_all, a_all, n_apart, a_apart)
          else
            none
        else
          if (-1 : Int32) ≤ v3 then
            if 0 + (if 0 < nI n_all then 0 else 2 + (if nI n_row = 0 then 1 else 0)) ≤ MC ∧ 0 + (if 0 < nI n_all then 0 else 100002 + (if nI n_row = 0 then 50001 else 0)) ≤ MS then
              Option.bind (f_X7_prepare N (if 0 < nI n_all then 0 else 2 + (if nI n_row = 0 then 1 else 0)) (if 0 < nI n_all then 0 else 100002 + (if nI n_row = 0 then 50001 else 0))  n_row a_row n_all a_all n_apart a_apart) fun r14z =>
              if 0 + (if 0 < nI n_all then 0 else 2 + (if nI n_row = 0 then 1 else 0)) ≤ MC ∧ 0 + (if 0 < nI n_all then 0 else 100002 + (if nI n_row = 0 then 50001 else 0)) ≤ MS then
                Option.bind (f_X5_friendAt N v1 v2 v3 pk1_wanted pk1_seen r14z.2.2.1 r14z.2.2.2.1 r14z.2.2.2.2.1 r14z.2.2.2.2.2) fun r18z =>
                if 0 + (if 0 < nI n_all then 0 else 2 + (if nI n_row = 0 then 1 else 0)) ≤ MC ∧ 0 + (if 0 < nI n_all then 0 else 100002 + (if nI n_row = 0 then 50001 else 0)) ≤ MS then
                  some (r18z.1, r18z.2.1, r18z.2.2, r14z.1, r14z.2.1, r14z.2.2.1, r14z.2.2.2.1, r14z.2.2.2.2.1, r14z.2.2.2.2.2)
                else
                  none
              else
                none
            else
              none
          else
            if 0 ≤ MC ∧ 0 ≤ MS then
              some ((-1 : Int32), pk1_wanted, pk1_seen, n_row, a_row, n_all, a_all, n_apart, a_apart)
            else
              none
      else
        none
  else
    none
set_option maxRecDepth 100000 in
set_option maxHeartbeats 4000000 in
theorem k_X11_friends_0 {p : Program} {l : Launch} {e : Env} {s : State} {m : MethodId} {args : Array Value} {below : List Frame} {meth : Method} {c : Code} {dC : Nat → ClassId} {dI : Nat → Nat → Nat} {cyI cyJ cyZ : ClassId} {A : Nat → Prop} (C0 : mC p s m meth c args cX11_friends (some .int) 4 RX11 wsX11_friends (gK dC dI cyI cyJ cyZ) A) (N : Nat) (MC MS : Nat) (res : Int32 × Int32 × Int32 × Nat × (Nat → Int32) × Nat × (Nat → Int32) × Nat × (Nat → Int32)) (q_G : Nat) (q_Sc : Nat) (q_Tb : Nat) (q_Sk : Nat) (q_Pk1 : Nat) (q_Pr : Nat) (q_Sp : Nat) (q_Ch : Nat) (q_Wh : Nat) (q_Mk : Nat) (q_Tr : Nat) (q_Ws : Nat) (v1 : Int32) (v2 : Int32) (v3 : Int32) (pk1_wanted : Int32) (pk1_seen : Int32) (n_row : Nat) (a_row : Nat → Int32) (n_all : Nat) (a_all : Nat → Int32) (n_apart : Nat) (a_apart : Nat → Int32) (q_row : Nat) (q_all : Nat) (q_apart : Nat) (h : f_X11_friends N MC MS v1 v2 v3 pk1_wanted pk1_seen n_row a_row n_all a_all n_apart a_apart = some res) : ∀ (H : Heap) (locs : List Loc), va_P (dC, dI) vwCl (wd46 cyI cyJ cyZ q_G q_Sc q_Tb q_Sk q_Pk1 q_row q_all q_apart q_Pr q_Sp q_Ch q_Wh q_Mk q_Tr q_Ws pk1_wanted pk1_seen n_row a_row n_all a_all n_apart a_apart) H → va_D A (wd46 cyI cyJ cyZ q_G q_Sc q_Tb q_Sk q_Pk1 q_row q_all q_apart q_Pr q_Sp q_Ch q_Wh q_Mk q_Tr q_Ws pk1_wanted pk1_seen n_row a_row n_all a_all n_apart a_apart) → va_S A s.heap H locs → ∀ (ls : Array Slot), lv_has ls 4 [(0, .ref q_G), (1, .int v1), (2, .int v2), (3, .int v3)] → W p l e (headSpec wsX11_friends (rm_X11_friends MC MS)).room s m args below meth c H locs 0 0 (MQ below (va_Qi (fun (r : Int32) (_ : Nat × Nat × Nat) => r = res.1) (bW dC dI (fun (u : Nat × Nat × Nat) => (wd46 cyI cyJ cyZ q_G q_Sc q_Tb q_Sk q_Pk1 u.1 u.2.1 u.2.2 q_Pr q_Sp q_Ch q_Wh q_Mk q_Tr q_Ws res.2.1 res.2.2.1 res.2.2.2.1 res.2.2.2.2.1 res.2.2.2.2.2.1 res.2.2.2.2.2.2.1 res.2.2.2.2.2.2.2.1 res.2.2.2.2.2.2.2.2)) A) A) args s MC MS A) (F0 m 0 ls []) := by
  obtain ⟨hx, hb, hr, hml, hown, hts, hlocks, hG, hA⟩ := id C0
  have hK := hG.1
  intro H locs hP hD hS ls hl
  unfold f_X11_friends at h
  refine lv_iload_n hx hb dX11_friends_0 rfl (lv_at hl 1 rfl) ?_
  obtain ⟨b2z, h⟩ := xa h
  obtain ⟨r1z, hr1z, h⟩ := xb_at h
  have hPc := hP.sub (ws' := (wd37 cyI cyJ cyZ)) [] rfl
  have hDc := hD.sub (ws' := (wd37 cyI cyJ cyZ)) [] (by decide) rfl
  refine cal_i [] [0, 1, 2, 3, 4, 5, 6, 7] (va_runS (As := [.int v1]) (rest := []) ⟨hx, hb, hml, hown, hts⟩ (c_X11_isBound l dC dI cyI cyJ cyZ N r1z H.size  v1  hr1z) (va_cwS 1 hts gX11_friends_X11_isBound rfl rfl rfl hd_X11_isBound ⟨Nat.le_of_ble_eq_true rfl, Nat.le_of_ble_eq_true rfl⟩) ⟨pC.blind, pC.pre hPc hG hDc⟩ rfl rfl hl.1 rfl (lv_room (Nat.le_of_ble_eq_true rfl)) dX11_friends_1 ⟨b2z.1, b2z.2⟩) hP hD hS hA rfl rfl rfl (by decide) (fun x4z u3z H locs hw hP hD hS => ?_)
  obtain rfl := hw.symm
  have hP : va_P (dC, dI) vwCl (wd46 cyI cyJ cyZ q_G q_Sc q_Tb q_Sk q_Pk1 q_row q_all q_apart q_Pr q_Sp q_Ch q_Wh q_Mk q_Tr q_Ws pk1_wanted pk1_seen n_row a_row n_all a_all n_apart a_apart) H := hP.sub [0, 1, 2, 3, 4, 5, 6, 7] rfl
  have hD : va_D A (wd46 cyI cyJ cyZ q_G q_Sc q_Tb q_Sk q_Pk1 q_row q_all q_apart q_Pr q_Sp q_Ch q_Wh q_Mk q_Tr q_Ws pk1_wanted pk1_seen n_row a_row n_all a_all n_apart a_apart) := hD.sub [0, 1, 2, 3, 4, 5, 6, 7] (by decide) rfl
  refine lv_if_eq (tgt := 19) hx hb dX11_friends_4 (by decide) (fun c5z => ?_) (fun c5z => ?_)
  · have h := xt h c5z
    refine lv_iconst (v := (-1 : Int32)) hx hb dX11_friends_19 (by decide) ?_
    obtain ⟨b6z, h⟩ := xa h
    refine W.widen (k := MC) (n := MS) b6z.1 b6z.2 ?_
    obtain rfl := Option.some.inj h
    exact W.iret (v := (-1 : Int32)) hx hb hr (fun t ht hW => ⟨⟨_, (q_row, q_all, q_apart), rfl, rfl, by rw [ht]; exact hP, hD⟩, hS.F ht⟩) hS.2.2 dX11_friends_20 hlocks
  · have h := xf h c5z
    refine lv_iload_n hx hb dX11_friends_7 rfl (lv_at hl 2 rfl) ?_
    obtain ⟨b8z, h⟩ := xa h
    obtain ⟨r7z, hr7z, h⟩ := xb_at h
    have hPc := hP.sub (ws' := (wd37 cyI cyJ cyZ)) [] rfl
    have hDc := hD.sub (ws' := (wd37 cyI cyJ cyZ)) [] (by decide) rfl
    refine cal_i [] [0, 1, 2, 3, 4, 5, 6, 7] (va_runS (As := [.int v2]) (rest := []) ⟨hx, hb, hml, hown, hts⟩ (c_X11_isBound l dC dI cyI cyJ cyZ N r7z H.size  v2  hr7z) (va_cwS 1 hts gX11_friends_X11_isBound rfl rfl rfl hd_X11_isBound ⟨Nat.le_of_ble_eq_true rfl, Nat.le_of_ble_eq_true rfl⟩) ⟨pC.blind, pC.pre hPc hG hDc⟩ rfl rfl hl.1 rfl (lv_room (Nat.le_of_ble_eq_true rfl)) dX11_friends_8 ⟨b8z.1, b8z.2⟩) hP hD hS hA rfl rfl rfl (by decide) (fun x10z u9z H locs hw hP hD hS => ?_)
    obtain rfl := hw.symm
    have hP : va_P (dC, dI) vwCl (wd46 cyI cyJ cyZ q_G q_Sc q_Tb q_Sk q_Pk1 q_row q_all q_apart q_Pr q_Sp q_Ch q_Wh q_Mk q_Tr q_Ws pk1_wanted pk1_seen n_row a_row n_all a_all n_apart a_apart) H := hP.sub [0, 1, 2, 3, 4, 5, 6, 7] rfl
    have hD : va_D A (wd46 cyI cyJ cyZ q_G q_Sc q_Tb q_Sk q_Pk1 q_row q_all q_apart q_Pr q_Sp q_Ch q_Wh q_Mk q_Tr q_Ws pk1_wanted pk1_seen n_row a_row n_all a_all n_apart a_apart) := hD.sub [0, 1, 2, 3, 4, 5, 6, 7] (by decide) rfl
    refine lv_if_eq (tgt := 19) hx hb dX11_friends_11 (by decide) (fun c11z => ?_) (fun c11z => ?_)
    · have h := xt h c11z
      refine lv_iconst (v := (-1 : Int32)) hx hb dX11_friends_19 (by decide) ?_
      obtain ⟨b12z, h⟩ := xa h
      refine W.widen (k := MC) (n := MS) b12z.1 b12z.2 ?_
      obtain rfl := Option.some.inj h
      exact W.iret (v := (-1 : Int32)) hx hb hr (fun t ht hW => ⟨⟨_, (q_row, q_all, q_apart), rfl, rfl, by rw [ht]; exact hP, hD⟩, hS.F ht⟩) hS.2.2 dX11_friends_20 hlocks
    · have h := xf h c11z
      refine lv_iload_n hx hb dX11_friends_14 rfl (lv_at hl 3 rfl) ?_
      refine lv_iconst (v := (-1 : Int32)) hx hb dX11_friends_15 (by decide) ?_
      refine lv_icmp_ge (tgt := 21) hx hb dX11_friends_16 (by decide) (fun c13z => ?_) (fun c13z => ?_)
      · have h := xt h c13z
        refine lv_aload_n hx hb dX11_friends_21 rfl (lv_at hl 0 rfl) ?_
        refine va_get (D := (dC, dI)) (ci := 11) (v := .ref q_Tb) (C := RX11) (T := TX11) (N := 9) hx hb hts iw_X11_friends_X11 hown hK hP 0 rfl rfl 3 (by decide) (hts (.fieldLink RX11 42 "GoesInto" "tables" "LGoesInto$Tables;") (List.mem_of_getElem? (i := 1) rfl)) (fun _ h9 => h9) rfl dX11_friends_22 ?_
        obtain ⟨b15z, h⟩ := xa h
        obtain ⟨r14z, hr14z, h⟩ := xb_at h
        have hPc := hP.sub (ws' := (wd14 cyI cyJ cyZ q_Sc q_Tb q_row q_all q_apart n_row a_row n_all a_all n_apart a_apart)) [1, 2, 5, 6, 7] rfl
        have hDc := hD.sub (ws' := (wd14 cyI cyJ cyZ q_Sc q_Tb q_row q_all q_apart n_row a_row n_all a_all n_apart a_apart)) [1, 2, 5, 6, 7] (by decide) rfl
        refine cal_v [1, 2, 5, 6, 7] [0, 3, 4] (va_runV (As := []) (rest := []) ⟨hx, hb, hml, hown, hts⟩ (c_X7_prepare l dC dI cyI cyJ cyZ N (if 0 < nI n_all then 0 else 2 + (if nI n_row = 0 then 1 else 0)) (if 0 < nI n_all then 0 else 100002 + (if nI n_row = 0 then 50001 else 0)) r14z H.size q_Sc q_Tb q_row q_all q_apart  n_row a_row n_all a_all n_apart a_apart hr14z) (cwV 0 hts gX11_friends_X7_prepare rfl rfl rfl ⟨rfl, hd_X7_prepare⟩ ⟨Nat.le_of_ble_eq_true rfl, Nat.le_of_ble_eq_true rfl⟩) ⟨pC.blind, va_recv hK hPc (ci := 7) (q0 := 1) rfl rfl, pC.pre hPc hG hDc⟩ rfl rfl hl.1 rfl (lv_room (Nat.le_of_ble_eq_true rfl)) dX11_friends_25 ⟨b15z.1, b15z.2⟩) hP hD hS hA rfl rfl rfl (by decide) (fun u16z H locs _ hP hD hS => ?_)
        have hP : va_P (dC, dI) vwCl (wd46 cyI cyJ cyZ q_G q_Sc q_Tb q_Sk q_Pk1 u16z.1 u16z.2.1 u16z.2.2 q_Pr q_Sp q_Ch q_Wh q_Mk q_Tr q_Ws pk1_wanted pk1_seen r14z.1 r14z.2.1 r14z.2.2.1 r14z.2.2.2.1 r14z.2.2.2.2.1 r14z.2.2.2.2.2) H := hP.sub [0, 3, 4, 1, 2, 5, 6, 7] rfl
        have hD : va_D A (wd46 cyI cyJ cyZ q_G q_Sc q_Tb q_Sk q_Pk1 u16z.1 u16z.2.1 u16z.2.2 q_Pr q_Sp q_Ch q_Wh q_Mk q_Tr q_Ws pk1_wanted pk1_seen r14z.1 r14z.2.1 r14z.2.2.1 r14z.2.2.2.1 r14z.2.2.2.2.1 r14z.2.2.2.2.2) := hD.sub [0, 3, 4, 1, 2, 5, 6, 7] (by decide) rfl
        refine lv_aload_n hx hb dX11_friends_28 rfl (lv_at hl 0 rfl) ?_
        refine va_get (D := (dC, dI)) (ci := 11) (v := .ref q_Sk) (C := RX11) (T := TX11) (N := 9) hx hb hts iw_X11_friends_X11 hown hK hP 0 rfl rfl 4 (by decide) (hts (.fieldLink RX11 51 "GoesInto" "seeker" "LGoesInto$Seeker;") (List.mem_of_getElem? (i := 2) rfl)) (fun _ h9 => h9) rfl dX11_friends_29 ?_
        refine lv_iload_n hx hb dX11_friends_32 rfl (lv_at hl 1 rfl) ?_
        refine lv_iload_n hx hb dX11_friends_33 rfl (lv_at hl 2 rfl) ?_
        refine lv_iload_n hx hb dX11_friends_34 rfl (lv_at hl 3 rfl) ?_
        obtain ⟨b19z, h⟩ := xa h
        obtain ⟨r18z, hr18z, h⟩ := xb_at h
        have hPc := hP.sub (ws' := (wd18 cyI cyJ cyZ q_Tb q_Sk q_Pk1 u16z.2.1 u16z.2.2 q_Sc pk1_wanted pk1_seen r14z.2.2.1 r14z.2.2.2.1 r14z.2.2.2.2.1 r14z.2.2.2.2.2)) [2, 3, 4, 6, 7] rfl
        have hDc := hD.sub (ws' := (wd18 cyI cyJ cyZ q_Tb q_Sk q_Pk1 u16z.2.1 u16z.2.2 q_Sc pk1_wanted pk1_seen r14z.2.2.1 r14z.2.2.2.1 r14z.2.2.2.2.1 r14z.2.2.2.2.2)) [2, 3, 4, 6, 7] (by decide) rfl
        refine cal_i [2, 3, 4, 6, 7] [0, 1, 5] (va_runV (As := [.int v1, .int v2, .int v3]) (rest := []) ⟨hx, hb, hml, hown, hts⟩ (c_X5_friendAt l dC dI cyI cyJ cyZ N r18z H.size q_Tb q_Sk q_Pk1 u16z.2.1 u16z.2.2 q_Sc v1 v2 v3 pk1_wanted pk1_seen r14z.2.2.1 r14z.2.2.2.1 r14z.2.2.2.2.1 r14z.2.2.2.2.2 hr18z) (cwV 3 hts gX11_friends_X5_friendAt rfl rfl rfl ⟨rfl, hd_X5_friendAt⟩ ⟨Nat.le_of_ble_eq_true rfl, Nat.le_of_ble_eq_true rfl⟩) ⟨pC.blind, va_recv hK hPc (ci := 5) (q0 := 1) rfl rfl, pC.pre hPc hG hDc⟩ rfl rfl hl.1 rfl (lv_room (Nat.le_of_ble_eq_true rfl)) dX11_friends_35 ⟨b19z.1, b19z.2⟩) hP hD hS hA rfl rfl rfl (by decide) (fun x21z u20z H locs hw hP hD hS => ?_)
        obtain rfl := hw.symm
        have hP : va_P (dC, dI) vwCl (wd46 cyI cyJ cyZ q_G q_Sc q_Tb q_Sk q_Pk1 u16z.1 u16z.2.1 u16z.2.2 q_Pr q_Sp q_Ch q_Wh q_Mk q_Tr q_Ws r18z.2.1 r18z.2.2 r14z.1 r14z.2.1 r14z.2.2.1 r14z.2.2.2.1 r14z.2.2.2.2.1 r14z.2.2.2.2.2) H := hP.sub [0, 1, 3, 4, 5, 2, 6, 7] rfl
        have hD : va_D A (wd46 cyI cyJ cyZ q_G q_Sc q_Tb q_Sk q_Pk1 u16z.1 u16z.2.1 u16z.2.2 q_Pr q_Sp q_Ch q_Wh q_Mk q_Tr q_Ws r18z.2.1 r18z.2.2 r14z.1 r14z.2.1 r14z.2.2.1 r14z.2.2.2.1 r14z.2.2.2.2.1 r14z.2.2.2.2.2) := hD.sub [0, 1, 3, 4, 5, 2, 6, 7] (by decide) rfl
        obtain ⟨b22z, h⟩ := xa h
        refine W.widen (k := MC) (n := MS) b22z.1 b22z.2 ?_
        obtain rfl := Option.some.inj h
        exact W.iret (v := r18z.1) hx hb hr (fun t ht hW => ⟨⟨_, (u16z.1, u16z.2.1, u16z.2.2), rfl, rfl, by rw [ht]; exact hP, hD⟩, hS.F ht⟩) hS.2.2 dX11_friends_38 hlocks
      · have h := xf h c13z
        refine lv_iconst (v := (-1 : Int32)) hx hb dX11_friends_19 (by decide) ?_
        obtain ⟨b23z, h⟩ := xa h
        refine W.widen (k := MC) (n := MS) b23z.1 b23z.2 ?_
        obtain rfl := Option.some.inj h
        exact W.iret (v := (-1 : Int32)) hx hb hr (fun t ht hW => ⟨⟨_, (q_row, q_all, q_apart), rfl, rfl, by rw [ht]; exact hP, hD⟩, hS.F ht⟩) hS.2.2 dX11_friends_20 hlocks
set_option maxRecDepth 100000 in
set_option maxHeartbeats 4000000 in
theorem c_X11_friends (l : Launch) (dC : Nat → ClassId) (dI : Nat → Nat → Nat) (cyI cyJ cyZ : ClassId) (N : Nat) (MC MS : Nat) (res : Int32 × Int32 × Int32 × Nat × (Nat → Int32) × Nat × (Nat → Int32) × Nat × (Nat → Int32)) (sz : Nat) (q_G : Nat) (q_Sc : Nat) (q_Tb : Nat) (q_Sk : Nat) (q_Pk1 : Nat) (q_row : Nat) (q_all : Nat) (q_apart : Nat) (q_Pr : Nat) (q_Sp : Nat) (q_Ch : Nat) (q_Wh : Nat) (q_Mk : Nat) (q_Tr : Nat) (q_Ws : Nat) (v1 : Int32) (v2 : Int32) (v3 : Int32) (pk1_wanted : Int32) (pk1_seen : Int32) (n_row : Nat) (a_row : Nat → Int32) (n_all : Nat) (a_all : Nat → Int32) (n_apart : Nat) (a_apart : Nat → Int32) (h : f_X11_friends N MC MS v1 v2 v3 pk1_wanted pk1_seen n_row a_row n_all a_all n_apart a_apart = some res) : Met l yX11_friends wsX11_friends (rm_X11_friends MC MS) (pC dC dI cyI cyJ cyZ [.ref q_G, .int v1, .int v2, .int v3] sz (wd46 cyI cyJ cyZ q_G q_Sc q_Tb q_Sk q_Pk1 q_row q_all q_apart q_Pr q_Sp q_Ch q_Wh q_Mk q_Tr q_Ws pk1_wanted pk1_seen n_row a_row n_all a_all n_apart a_apart)) (va_Qi (fun (r : Int32) (_ : Nat × Nat × Nat) => r = res.1) (bW dC dI (fun (u : Nat × Nat × Nat) => (wd46 cyI cyJ cyZ q_G q_Sc q_Tb q_Sk q_Pk1 u.1 u.2.1 u.2.2 q_Pr q_Sp q_Ch q_Wh q_Mk q_Tr q_Ws res.2.1 res.2.2.1 res.2.2.2.1 res.2.2.2.2.1 res.2.2.2.2.2.1 res.2.2.2.2.2.2.1 res.2.2.2.2.2.2.2.1 res.2.2.2.2.2.2.2.2)) (va_A (wd46 cyI cyJ cyZ q_G q_Sc q_Tb q_Sk q_Pk1 q_row q_all q_apart q_Pr q_Sp q_Ch q_Wh q_Mk q_Tr q_Ws pk1_wanted pk1_seen n_row a_row n_all a_all n_apart a_apart) sz)) (va_A (wd46 cyI cyJ cyZ q_G q_Sc q_Tb q_Sk q_Pk1 q_row q_all q_apart q_Pr q_Sp q_Ch q_Wh q_Mk q_Tr q_Ws pk1_wanted pk1_seen n_row a_row n_all a_all n_apart a_apart) sz)) MC MS (va_A (wd46 cyI cyJ cyZ q_G q_Sc q_Tb q_Sk q_Pk1 q_row q_all q_apart q_Pr q_Sp q_Ch q_Wh q_Mk q_Tr q_Ws pk1_wanted pk1_seen n_row a_row n_all a_all n_apart a_apart) sz) := by
  refine Met.ofW (cc := cX11_friends) (maxL := 4) (ret := (some .int)) (by decide) rfl ?_
  intro p e s m args below meth c s₁ B hml hv
  obtain ⟨rfl, hsz, hP, hG, hD0⟩ := hv
  have hx := B.exec
  have hb := B.bytes
  have hr := B.returns
  have hts := atoms_spec (ws := wsX11_friends) B.pre
  have hown : s.vm.findClass RX11 = some m.cls := findClass_of_methodNamed B.named
  have hlocks := B.notSynchronized
  subst hsz
  have hD := hD0.self (sz := s.heap.size)
  generalize hAe : va_A (wd46 cyI cyJ cyZ q_G q_Sc q_Tb q_Sk q_Pk1 q_row q_all q_apart q_Pr q_Sp q_Ch q_Wh q_Mk q_Tr q_Ws pk1_wanted pk1_seen n_row a_row n_all a_all n_apart a_apart) s.heap.size = A at hD ⊢
  have hA : ∀ q : Nat, s.heap.size ≤ q → A q := fun q h => by rw [← hAe]; exact Or.inr h
  have hS : va_S A s.heap s.heap [] := va_S.rf
  have hl := lv_entry ([.ref q_G, .int v1, .int v2, .int v3]) (n := 4) (Nat.le_of_ble_eq_true rfl)
  rw [lg_entry_eq]
  generalize (lg_sl ([.ref q_G, .int v1, .int v2, .int v3]) ++ List.replicate (4 - (lg_sl ([.ref q_G, .int v1, .int v2, .int v3])).length) Slot.unset).toArray = ls at hl ⊢
  have hl : lv_has ls 4 [(0, .ref q_G), (1, .int v1), (2, .int v2), (3, .int v3)] := hl
  exact k_X11_friends_0 ⟨hx, hb, hr, hml, hown, hts, hlocks, hG, hA⟩ N MC MS res q_G q_Sc q_Tb q_Sk q_Pk1 q_Pr q_Sp q_Ch q_Wh q_Mk q_Tr q_Ws v1 v2 v3 pk1_wanted pk1_seen n_row a_row n_all a_all n_apart a_apart q_row q_all q_apart h _ _ hP hD hS _ hl
/-- the cells G, Sc, Tb, Sk, row, all, apart -/
abbrev wd48 (cyI cyJ cyZ : ClassId) (q_G : Nat) (q_Sc : Nat) (q_Tb : Nat) (q_Sk : Nat) (q_row : Nat) (q_all : Nat) (q_apart : Nat) (q_Pr : Nat) (q_Sp : Nat) (q_Ch : Nat) (q_Wh : Nat) (q_Mk : Nat) (q_Tr : Nat) (q_Ws : Nat) (q_Pk1 : Nat) (n_row : Nat) (a_row : Nat → Int32) (n_all : Nat) (a_all : Nat → Int32) (n_apart : Nat) (a_apart : Nat → Int32) : va_W := [(q_G, .inr (11, [.ref q_Pr, .ref q_Sp, .ref q_Ch, .ref q_Tb, .ref q_Sk, .ref q_Wh, .ref q_Mk, .ref q_Tr, .ref q_Ws])), (q_Sc, .inr (4, [.ref q_row])), (q_Tb, .inr (7, [.ref q_Sc, .ref q_all, .ref q_apart])), (q_Sk, .inr (5, [.ref q_Tb, .ref q_Sc, .ref q_Pk1])), (q_row, .inl (cyI, n_row, .inl a_row)), (q_all, .inl (cyI, n_all, .inl a_all)), (q_apart, .inl (cyI, n_apart, .inl a_apart))]
abbrev rm_X11_reached (MC MS : Nat) : Room := { frames := 4, cells := MC, slots := MS, locals := 87 }
theorem hd_X11_reached : yX11_reached.cls ≠ "java/lang/invoke/MethodHandle" ∧ yX11_reached.cls ≠ "java/lang/invoke/VarHandle" ∧ (parseMethodDescriptor yX11_reached.desc).map (fun d => d.parameters.length) = some 3 := by decide +kernel
theorem iw_X11_reached_X11 : ∀ w ∈ wsX110, w ∈ wsX11_reached := List.forall_mem_cons.mpr ⟨List.mem_of_getElem? (i := 54) rfl, List.forall_mem_cons.mpr ⟨List.mem_of_getElem? (i := 55) rfl, List.forall_mem_cons.mpr ⟨List.mem_of_getElem? (i := 56) rfl, List.forall_mem_cons.mpr ⟨List.mem_of_getElem? (i := 57) rfl, List.forall_mem_cons.mpr ⟨List.mem_of_getElem? (i := 58) rfl, List.forall_mem_cons.mpr ⟨List.mem_of_getElem? (i := 59) rfl, List.forall_mem_cons.mpr ⟨List.mem_of_getElem? (i := 60) rfl, List.forall_mem_cons.mpr ⟨List.mem_of_getElem? (i := 61) rfl, List.forall_mem_cons.mpr ⟨List.mem_of_getElem? (i := 62) rfl, fun _ h => absurd h List.not_mem_nil⟩⟩⟩⟩⟩⟩⟩⟩⟩
theorem iw_X11_reached_X4 : ∀ w ∈ wsX40, w ∈ wsX11_reached := List.forall_mem_cons.mpr ⟨List.mem_of_getElem? (i := 66) rfl, fun _ h => absurd h List.not_mem_nil⟩
theorem iw_X11_reached_X7 : ∀ w ∈ wsX70, w ∈ wsX11_reached := List.forall_mem_cons.mpr ⟨List.mem_of_getElem? (i := 63) rfl, List.forall_mem_cons.mpr ⟨List.mem_of_getElem? (i := 64) rfl, List.forall_mem_cons.mpr ⟨List.mem_of_getElem? (i := 65) rfl, fun _ h => absurd h List.not_mem_nil⟩⟩⟩
theorem iw_X11_reached_X5 : ∀ w ∈ wsX50, w ∈ wsX11_reached := List.forall_mem_cons.mpr ⟨List.mem_of_getElem? (i := 67) rfl, List.forall_mem_cons.mpr ⟨List.mem_of_getElem? (i := 68) rfl, List.forall_mem_cons.mpr ⟨List.mem_of_getElem? (i := 69) rfl, fun _ h => absurd h List.not_mem_nil⟩⟩⟩
def f_X11_reached (N : Nat) (MC : Nat) (MS : Nat) (v1 : Int32) (v2 : Int32) (v3 : Int32) (n_row : Nat) (a_row : Nat → Int32) (n_all : Nat) (a_all : Nat → Int32) (n_apart : Nat) (a_apart : Nat → Int32) : Option (Int32 × Nat × (Nat → Int32) × Nat × (Nat → Int32) × Nat × (Nat → Int32)) :=
  if 0 ≤ MC ∧ 0 ≤ MS then
    Option.bind (f_X11_within N v1 (1 : Int32) (1000 : Int32)) fun r1z =>
    if r1z = 0 then
      if 0 ≤ MC ∧ 0 ≤ MS then
        some ((-1 : Int32), n_row, a_row, n_all, a_all, n_apart, a_apart)
      else
        none
    else
      if 0 ≤ MC ∧ 0 ≤ MS then
        Option.bind (f_X11_within N v2 (1 : Int32) (1000 : Int32)) fun r7z =>
        if r7z = 0 then
          if 0 ≤ MC ∧ 0 ≤ MS then
            some ((-1 : Int32), n_row, a_row, n_all, a_all, n_apart, a_apart)
          else
            none
        else
          if 0 ≤ MC ∧ 0 ≤ MS then
            Option.bind (f_X11_isBound N v3) fun r13z =>
            if r13z = 0 then
              if 0 ≤ MC ∧ 0 ≤ MS then
                some ((-1 : Int32), n_row, a_row, n_all, a_all, n_apart, a_apart)
              else
                none
            else
              if 0 + (if 0 < nI n_all then 0 else 2 + (if nI n_row = 0 then 1 else 0)) ≤ MC ∧ 0 + (if 0 < nI n_all then 0 else 100002 + (if nI n_row = 0 then 50001 else 0)) ≤ MS then
                Option.bind (f_X7_prepare N (if 0 < nI n_all then 0 else 2 + (if nI n_row = 0 then 1 else 0)) (if 0 < nI n_all then 0 else 100002 + (if nI n_row = 0 then 50001 else 0))  n_row a_row n_all a_all n_apart a_apart) fun r18z =>
                if 0 + (if 0 < nI n_all then 0 else 2 + (if nI n_row = 0 then 1 else 0)) ≤ MC ∧ 0 + (if 0 < nI n_all then 0 else 100002 + (if nI n_row = 0 then 50001 else 0)) ≤ MS then
                  Option.bind (f_X5_firstReaching N v1 v2 v3 r18z.2.2.1 r18z.2.2.2.1 r18z.2.2.2.2.1 r18z.2.2.2.2.2) fun r22z =>
                  if 0 + (if 0 < nI n_all then 0 else 2 + (if nI n_row = 0 then 1 else 0)) ≤ MC ∧ 0 + (if 0 < nI n_all then 0 else 100002 + (if nI n_row = 0 then 50001 else 0)) ≤ MS then
                    some (r22z, r18z.1, r18z.2.1, r18z.2.2.1, r18z.2.2.2.1, r18z.2.2.2.2.1, r18z.2.2.2.2.2)
                  else
                    none
                else
                  none
              else
                none
          else
            none
      else
        none
  else
    none
set_option maxRecDepth 100000 in
set_option maxHeartbeats 4000000 in
theorem k_X11_reached_0 {p : Program} {l : Launch} {e : Env} {s : State} {m : MethodId} {args : Array Value} {below : List Frame} {meth : Method} {c : Code} {dC : Nat → ClassId} {dI : Nat → Nat → Nat} {cyI cyJ cyZ : ClassId} {A : Nat → Prop} (C0 : mC p s m meth c args cX11_reached (some .int) 4 RX11 wsX11_reached (gK dC dI cyI cyJ cyZ) A) (N : Nat) (MC MS : Nat) (res : Int32 × Nat × (Nat → Int32) × Nat × (Nat → Int32) × Nat × (Nat → Int32)) (q_G : Nat) (q_Sc : Nat) (q_Tb : Nat) (q_Sk : Nat) (q_Pr : Nat) (q_Sp : Nat) (q_Ch : Nat) (q_Wh : Nat) (q_Mk : Nat) (q_Tr : Nat) (q_Ws : Nat) (q_Pk1 : Nat) (v1 : Int32) (v2 : Int32) (v3 : Int32) (n_row : Nat) (a_row : Nat → Int32) (n_all : Nat) (a_all : Nat → Int32) (n_apart : Nat) (a_apart : Nat → Int32) (q_row : Nat) (q_all : Nat) (q_apart : Nat) (h : f_X11_reached N MC MS v1 v2 v3 n_row a_row n_all a_all n_apart a_apart = some res) : ∀ (H : Heap) (locs : List Loc), va_P (dC, dI) vwCl (wd48 cyI cyJ cyZ q_G q_Sc q_Tb q_Sk q_row q_all q_apart q_Pr q_Sp q_Ch q_Wh q_Mk q_Tr q_Ws q_Pk1 n_row a_row n_all a_all n_apart a_apart) H → va_D A (wd48 cyI cyJ cyZ q_G q_Sc q_Tb q_Sk q_row q_all q_apart q_Pr q_Sp q_Ch q_Wh q_Mk q_Tr q_Ws q_Pk1 n_row a_row n_all a_all n_apart a_apart) → va_S A s.heap H locs → ∀ (ls : Array Slot), lv_has ls 4 [(0, .ref q_G), (1, .int v1), (2, .int v2), (3, .int v3)] → W p l e (headSpec wsX11_reached (rm_X11_reached MC MS)).room s m args below meth c H locs 0 0 (MQ below (va_Qi (fun (r : Int32) (_ : Nat × Nat × Nat) => r = res.1) (bW dC dI (fun (u : Nat × Nat × Nat) => (wd48 cyI cyJ cyZ q_G q_Sc q_Tb q_Sk u.1 u.2.1 u.2.2 q_Pr q_Sp q_Ch q_Wh q_Mk q_Tr q_Ws q_Pk1 res.2.1 res.2.2.1 res.2.2.2.1 res.2.2.2.2.1 res.2.2.2.2.2.1 res.2.2.2.2.2.2)) A) A) args s MC MS A) (F0 m 0 ls []) := by
  obtain ⟨hx, hb, hr, hml, hown, hts, hlocks, hG, hA⟩ := id C0
  have hK := hG.1
  intro H locs hP hD hS ls hl
  unfold f_X11_reached at h
  refine lv_iload_n hx hb dX11_reached_0 rfl (lv_at hl 1 rfl) ?_
  refine lv_iconst (v := (1 : Int32)) hx hb dX11_reached_1 (by decide) ?_
  refine lv_sipush (v := (1000 : Int32)) hx hb dX11_reached_2 (by decide) ?_
  obtain ⟨b2z, h⟩ := xa h
  obtain ⟨r1z, hr1z, h⟩ := xb_at h
  have hPc := hP.sub (ws' := (wd37 cyI cyJ cyZ)) [] rfl
  have hDc := hD.sub (ws' := (wd37 cyI cyJ cyZ)) [] (by decide) rfl
  refine cal_i [] [0, 1, 2, 3, 4, 5, 6] (va_runS (As := [.int v1, .int (1 : Int32), .int (1000 : Int32)]) (rest := []) ⟨hx, hb, hml, hown, hts⟩ (c_X11_within l dC dI cyI cyJ cyZ N r1z H.size  v1 (1 : Int32) (1000 : Int32)  hr1z) (va_cwS 3 hts gX11_reached_X11_within rfl rfl rfl hd_X11_within ⟨Nat.le_of_ble_eq_true rfl, Nat.le_of_ble_eq_true rfl⟩) ⟨pC.blind, pC.pre hPc hG hDc⟩ rfl rfl hl.1 rfl (lv_room (Nat.le_of_ble_eq_true rfl)) dX11_reached_5 ⟨b2z.1, b2z.2⟩) hP hD hS hA rfl rfl rfl (by decide) (fun x4z u3z H locs hw hP hD hS => ?_)
  obtain rfl := hw.symm
  have hP : va_P (dC, dI) vwCl (wd48 cyI cyJ cyZ q_G q_Sc q_Tb q_Sk q_row q_all q_apart q_Pr q_Sp q_Ch q_Wh q_Mk q_Tr q_Ws q_Pk1 n_row a_row n_all a_all n_apart a_apart) H := hP.sub [0, 1, 2, 3, 4, 5, 6] rfl
  have hD : va_D A (wd48 cyI cyJ cyZ q_G q_Sc q_Tb q_Sk q_row q_all q_apart q_Pr q_Sp q_Ch q_Wh q_Mk q_Tr q_Ws q_Pk1 n_row a_row n_all a_all n_apart a_apart) := hD.sub [0, 1, 2, 3, 4, 5, 6] (by decide) rfl
  refine lv_if_eq (tgt := 29) hx hb dX11_reached_8 (by decide) (fun c5z => ?_) (fun c5z => ?_)
  · have h := xt h c5z
    refine lv_iconst (v := (-1 : Int32)) hx hb dX11_reached_29 (by decide) ?_
    obtain ⟨b6z, h⟩ := xa h
    refine W.widen (k := MC) (n := MS) b6z.1 b6z.2 ?_
    obtain rfl := Option.some.inj h
    exact W.iret (v := (-1 : Int32)) hx hb hr (fun t ht hW => ⟨⟨_, (q_row, q_all, q_apart), rfl, rfl, by rw [ht]; exact hP, hD⟩, hS.F ht⟩) hS.2.2 dX11_reached_30 hlocks
  · have h := xf h c5z
    refine lv_iload_n hx hb dX11_reached_11 rfl (lv_at hl 2 rfl) ?_
    refine lv_iconst (v := (1 : Int32)) hx hb dX11_reached_12 (by decide) ?_
    refine lv_sipush (v := (1000 : Int32)) hx hb dX11_reached_13 (by decide) ?_
    obtain ⟨b8z, h⟩ := xa h
    obtain ⟨r7z, hr7z, h⟩ := xb_at h
    have hPc := hP.sub (ws' := (wd37 cyI cyJ cyZ)) [] rfl
    have hDc := hD.sub (ws' := (wd37 cyI cyJ cyZ)) [] (by decide) rfl
    refine cal_i [] [0, 1, 2, 3, 4, 5, 6] (va_runS (As := [.int v2, .int (1 : Int32), .int (1000 : Int32)]) (rest := []) ⟨hx, hb, hml, hown, hts⟩ (c_X11_within l dC dI cyI cyJ cyZ N r7z H.size  v2 (1 : Int32) (1000 : Int32)  hr7z) (va_cwS 3 hts gX11_reached_X11_within rfl rfl rfl hd_X11_within ⟨Nat.le_of_ble_eq_true rfl, Nat.le_of_ble_eq_true rfl⟩) ⟨pC.blind, pC.pre hPc hG hDc⟩ rfl rfl hl.1 rfl (lv_room (Nat.le_of_ble_eq_true rfl)) dX11_reached_16 ⟨b8z.1, b8z.2⟩) hP hD hS hA rfl rfl rfl (by decide) (fun x10z u9z H locs hw hP hD hS => ?_)
    obtain rfl := hw.symm
    have hP : va_P (dC, dI) vwCl (wd48 cyI cyJ cyZ q_G q_Sc q_Tb q_Sk q_row q_all q_apart q_Pr q_Sp q_Ch q_Wh q_Mk q_Tr q_Ws q_Pk1 n_row a_row n_all a_all n_apart a_apart) H := hP.sub [0, 1, 2, 3, 4, 5, 6] rfl
    have hD : va_D A (wd48 cyI cyJ cyZ q_G q_Sc q_Tb q_Sk q_row q_all q_apart q_Pr q_Sp q_Ch q_Wh q_Mk q_Tr q_Ws q_Pk1 n_row a_row n_all a_all n_apart a_apart) := hD.sub [0, 1, 2, 3, 4, 5, 6] (by decide) rfl
    refine lv_if_eq (tgt := 29) hx hb dX11_reached_19 (by decide) (fun c11z => ?_) (fun c11z => ?_)
    · have h := xt h c11z
      refine lv_iconst (v := (-1 : Int32)) hx hb dX11_reached_29 (by decide) ?_
      obtain ⟨b12z, h⟩ := xa h
      refine W.widen (k := MC) (n := MS) b12z.1 b12z.2 ?_
      obtain rfl := Option.some.inj h
      exact W.iret (v := (-1 : Int32)) hx hb hr (fun t ht hW => ⟨⟨_, (q_row, q_all, q_apart), rfl, rfl, by rw [ht]; exact hP, hD⟩, hS.F ht⟩) hS.2.2 dX11_reached_30 hlocks
    · have h := xf h c11z
      refine lv_iload_n hx hb dX11_reached_22 rfl (lv_at hl 3 rfl) ?_
      obtain ⟨b14z, h⟩ := xa h
      obtain ⟨r13z, hr13z, h⟩ := xb_at h
      have hPc := hP.sub (ws' := (wd37 cyI cyJ cyZ)) [] rfl
      have hDc := hD.sub (ws' := (wd37 cyI cyJ cyZ)) [] (by decide) rfl
      refine cal_i [] [0, 1, 2, 3, 4, 5, 6] (va_runS (As := [.int v3]) (rest := []) ⟨hx, hb, hml, hown, hts⟩ (c_X11_isBound l dC dI cyI cyJ cyZ N r13z H.size  v3  hr13z) (va_cwS 1 hts gX11_reached_X11_isBound rfl rfl rfl hd_X11_isBound ⟨Nat.le_of_ble_eq_true rfl, Nat.le_of_ble_eq_true rfl⟩) ⟨pC.blind, pC.pre hPc hG hDc⟩ rfl rfl hl.1 rfl (lv_room (Nat.le_of_ble_eq_true rfl)) dX11_reached_23 ⟨b14z.1, b14z.2⟩) hP hD hS hA rfl rfl rfl (by decide) (fun x16z u15z H locs hw hP hD hS => ?_)
      obtain rfl := hw.symm
      have hP : va_P (dC, dI) vwCl (wd48 cyI cyJ cyZ q_G q_Sc q_Tb q_Sk q_row q_all q_apart q_Pr q_Sp q_Ch q_Wh q_Mk q_Tr q_Ws q_Pk1 n_row a_row n_all a_all n_apart a_apart) H := hP.sub [0, 1, 2, 3, 4, 5, 6] rfl
      have hD : va_D A (wd48 cyI cyJ cyZ q_G q_Sc q_Tb q_Sk q_row q_all q_apart q_Pr q_Sp q_Ch q_Wh q_Mk q_Tr q_Ws q_Pk1 n_row a_row n_all a_all n_apart a_apart) := hD.sub [0, 1, 2, 3, 4, 5, 6] (by decide) rfl
      refine lv_if_ne (tgt := 31) hx hb dX11_reached_26 (by decide) (fun c17z => ?_) (fun c17z => ?_)
      · have h := xf h c17z
        refine lv_aload_n hx hb dX11_reached_31 rfl (lv_at hl 0 rfl) ?_
        refine va_get (D := (dC, dI)) (ci := 11) (v := .ref q_Tb) (C := RX11) (T := TX11) (N := 9) hx hb hts iw_X11_reached_X11 hown hK hP 0 rfl rfl 3 (by decide) (hts (.fieldLink RX11 42 "GoesInto" "tables" "LGoesInto$Tables;") (List.mem_of_getElem? (i := 1) rfl)) (fun _ h9 => h9) rfl dX11_reached_32 ?_
        obtain ⟨b19z, h⟩ := xa h
        obtain ⟨r18z, hr18z, h⟩ := xb_at h
        have hPc := hP.sub (ws' := (wd14 cyI cyJ cyZ q_Sc q_Tb q_row q_all q_apart n_row a_row n_all a_all n_apart a_apart)) [1, 2, 4, 5, 6] rfl
        have hDc := hD.sub (ws' := (wd14 cyI cyJ cyZ q_Sc q_Tb q_row q_all q_apart n_row a_row n_all a_all n_apart a_apart)) [1, 2, 4, 5, 6] (by decide) rfl
        refine cal_v [1, 2, 4, 5, 6] [0, 3] (va_runV (As := []) (rest := []) ⟨hx, hb, hml, hown, hts⟩ (c_X7_prepare l dC dI cyI cyJ cyZ N (if 0 < nI n_all then 0 else 2 + (if nI n_row = 0 then 1 else 0)) (if 0 < nI n_all then 0 else 100002 + (if nI n_row = 0 then 50001 else 0)) r18z H.size q_Sc q_Tb q_row q_all q_apart  n_row a_row n_all a_all n_apart a_apart hr18z) (cwV 0 hts gX11_reached_X7_prepare rfl rfl rfl ⟨rfl, hd_X7_prepare⟩ ⟨Nat.le_of_ble_eq_true rfl, Nat.le_of_ble_eq_true rfl⟩) ⟨pC.blind, va_recv hK hPc (ci := 7) (q0 := 1) rfl rfl, pC.pre hPc hG hDc⟩ rfl rfl hl.1 rfl (lv_room (Nat.le_of_ble_eq_true rfl)) dX11_reached_35 ⟨b19z.1, b19z.2⟩) hP hD hS hA rfl rfl rfl (by decide) (fun u20z H locs _ hP hD hS => ?_)
        have hP : va_P (dC, dI) vwCl (wd48 cyI cyJ cyZ q_G q_Sc q_Tb q_Sk u20z.1 u20z.2.1 u20z.2.2 q_Pr q_Sp q_Ch q_Wh q_Mk q_Tr q_Ws q_Pk1 r18z.1 r18z.2.1 r18z.2.2.1 r18z.2.2.2.1 r18z.2.2.2.2.1 r18z.2.2.2.2.2) H := hP.sub [0, 2, 3, 1, 4, 5, 6] rfl
        have hD : va_D A (wd48 cyI cyJ cyZ q_G q_Sc q_Tb q_Sk u20z.1 u20z.2.1 u20z.2.2 q_Pr q_Sp q_Ch q_Wh q_Mk q_Tr q_Ws q_Pk1 r18z.1 r18z.2.1 r18z.2.2.1 r18z.2.2.2.1 r18z.2.2.2.2.1 r18z.2.2.2.2.2) := hD.sub [0, 2, 3, 1, 4, 5, 6] (by decide) rfl
        refine lv_aload_n hx hb dX11_reached_38 rfl (lv_at hl 0 rfl) ?_
        refine va_get (D := (dC, dI)) (ci := 11) (v := .ref q_Sk) (C := RX11) (T := TX11) (N := 9) hx hb hts iw_X11_reached_X11 hown hK hP 0 rfl rfl 4 (by decide) (hts (.fieldLink RX11 51 "GoesInto" "seeker" "LGoesInto$Seeker;") (List.mem_of_getElem? (i := 2) rfl)) (fun _ h9 => h9) rfl dX11_reached_39 ?_
        refine lv_iload_n hx hb dX11_reached_42 rfl (lv_at hl 1 rfl) ?_
        refine lv_iload_n hx hb dX11_reached_43 rfl (lv_at hl 2 rfl) ?_
        refine lv_iload_n hx hb dX11_reached_44 rfl (lv_at hl 3 rfl) ?_
        obtain ⟨b23z, h⟩ := xa h
        obtain ⟨r22z, hr22z, h⟩ := xb_at h
        have hPc := hP.sub (ws' := (wd17 cyI cyJ cyZ q_Tb q_Sk u20z.2.1 u20z.2.2 q_Sc q_Pk1 r18z.2.2.1 r18z.2.2.2.1 r18z.2.2.2.2.1 r18z.2.2.2.2.2)) [2, 3, 5, 6] rfl
        have hDc := hD.sub (ws' := (wd17 cyI cyJ cyZ q_Tb q_Sk u20z.2.1 u20z.2.2 q_Sc q_Pk1 r18z.2.2.1 r18z.2.2.2.1 r18z.2.2.2.2.1 r18z.2.2.2.2.2)) [2, 3, 5, 6] (by decide) rfl
        refine cal_i [2, 3, 5, 6] [0, 1, 4] (va_runV (As := [.int v1, .int v2, .int v3]) (rest := []) ⟨hx, hb, hml, hown, hts⟩ (c_X5_firstReaching l dC dI cyI cyJ cyZ N r22z H.size q_Tb q_Sk u20z.2.1 u20z.2.2 q_Sc q_Pk1 v1 v2 v3 r18z.2.2.1 r18z.2.2.2.1 r18z.2.2.2.2.1 r18z.2.2.2.2.2 hr22z) (cwV 3 hts gX11_reached_X5_firstReaching rfl rfl rfl ⟨rfl, hd_X5_firstReaching⟩ ⟨Nat.le_of_ble_eq_true rfl, Nat.le_of_ble_eq_true rfl⟩) ⟨pC.blind, va_recv hK hPc (ci := 5) (q0 := 1) rfl rfl, pC.pre hPc hG hDc⟩ rfl rfl hl.1 rfl (lv_room (Nat.le_of_ble_eq_true rfl)) dX11_reached_45 ⟨b23z.1, b23z.2⟩) hP hD hS hA rfl rfl rfl (by decide) (fun x25z u24z H locs hw hP hD hS => ?_)
        obtain rfl := hw.symm
        have hP : va_P (dC, dI) vwCl (wd48 cyI cyJ cyZ q_G q_Sc q_Tb q_Sk u20z.1 u20z.2.1 u20z.2.2 q_Pr q_Sp q_Ch q_Wh q_Mk q_Tr q_Ws q_Pk1 r18z.1 r18z.2.1 r18z.2.2.1 r18z.2.2.2.1 r18z.2.2.2.2.1 r18z.2.2.2.2.2) H := hP.sub [0, 1, 3, 4, 2, 5, 6] rfl
        have hD : va_D A (wd48 cyI cyJ cyZ q_G q_Sc q_Tb q_Sk u20z.1 u20z.2.1 u20z.2.2 q_Pr q_Sp q_Ch q_Wh q_Mk q_Tr q_Ws q_Pk1 r18z.1 r18z.2.1 r18z.2.2.1 r18z.2.2.2.1 r18z.2.2.2.2.1 r18z.2.2.2.2.2) := hD.sub [0, 1, 3, 4, 2, 5, 6] (by decide) rfl
        obtain ⟨b26z, h⟩ := xa h
        refine W.widen (k := MC) (n := MS) b26z.1 b26z.2 ?_
        obtain rfl := Option.some.inj h
        exact W.iret (v := r22z) hx hb hr (fun t ht hW => ⟨⟨_, (u20z.1, u20z.2.1, u20z.2.2), rfl, rfl, by rw [ht]; exact hP, hD⟩, hS.F ht⟩) hS.2.2 dX11_reached_48 hlocks
      · have h := xt h c17z
        refine lv_iconst (v := (-1 : Int32)) hx hb dX11_reached_29 (by decide) ?_
        obtain ⟨b27z, h⟩ := xa h
        refine W.widen (k := MC) (n := MS) b27z.1 b27z.2 ?_
        obtain rfl := Option.some.inj h
        exact W.iret (v := (-1 : Int32)) hx hb hr (fun t ht hW => ⟨⟨_, (q_row, q_all, q_apart), rfl, rfl, by rw [ht]; exact hP, hD⟩, hS.F ht⟩) hS.2.2 dX11_reached_30 hlocks
set_option maxRecDepth 100000 in
set_option maxHeartbeats 4000000 in
theorem c_X11_reached (l : Launch) (dC : Nat → ClassId) (dI : Nat → Nat → Nat) (cyI cyJ cyZ : ClassId) (N : Nat) (MC MS : Nat) (res : Int32 × Nat × (Nat → Int32) × Nat × (Nat → Int32) × Nat × (Nat → Int32)) (sz : Nat) (q_G : Nat) (q_Sc : Nat) (q_Tb : Nat) (q_Sk : Nat) (q_row : Nat) (q_all : Nat) (q_apart : Nat) (q_Pr : Nat) (q_Sp : Nat) (q_Ch : Nat) (q_Wh : Nat) (q_Mk : Nat) (q_Tr : Nat) (q_Ws : Nat) (q_Pk1 : Nat) (v1 : Int32) (v2 : Int32) (v3 : Int32) (n_row : Nat) (a_row : Nat → Int32) (n_all : Nat) (a_all : Nat → Int32) (n_apart : Nat) (a_apart : Nat → Int32) (h : f_X11_reached N MC MS v1 v2 v3 n_row a_row n_all a_all n_apart a_apart = some res) : Met l yX11_reached wsX11_reached (rm_X11_reached MC MS) (pC dC dI cyI cyJ cyZ [.ref q_G, .int v1, .int v2, .int v3] sz (wd48 cyI cyJ cyZ q_G q_Sc q_Tb q_Sk q_row q_all q_apart q_Pr q_Sp q_Ch q_Wh q_Mk q_Tr q_Ws q_Pk1 n_row a_row n_all a_all n_apart a_apart)) (va_Qi (fun (r : Int32) (_ : Nat × Nat × Nat) => r = res.1) (bW dC dI (fun (u : Nat × Nat × Nat) => (wd48 cyI cyJ cyZ q_G q_Sc q_Tb q_Sk u.1 u.2.1 u.2.2 q_Pr q_Sp q_Ch q_Wh q_Mk q_Tr q_Ws q_Pk1 res.2.1 res.2.2.1 res.2.2.2.1 res.2.2.2.2.1 res.2.2.2.2.2.1 res.2.2.2.2.2.2)) (va_A (wd48 cyI cyJ cyZ q_G q_Sc q_Tb q_Sk q_row q_all q_apart q_Pr q_Sp q_Ch q_Wh q_Mk q_Tr q_Ws q_Pk1 n_row a_row n_all a_all n_apart a_apart) sz)) (va_A (wd48 cyI cyJ cyZ q_G q_Sc q_Tb q_Sk q_row q_all q_apart q_Pr q_Sp q_Ch q_Wh q_Mk q_Tr q_Ws q_Pk1 n_row a_row n_all a_all n_apart a_apart) sz)) MC MS (va_A (wd48 cyI cyJ cyZ q_G q_Sc q_Tb q_Sk q_row q_all q_apart q_Pr q_Sp q_Ch q_Wh q_Mk q_Tr q_Ws q_Pk1 n_row a_row n_all a_all n_apart a_apart) sz) := by
  refine Met.ofW (cc := cX11_reached) (maxL := 4) (ret := (some .int)) (by decide) rfl ?_
  intro p e s m args below meth c s₁ B hml hv
  obtain ⟨rfl, hsz, hP, hG, hD0⟩ := hv
  have hx := B.exec
  have hb := B.bytes
  have hr := B.returns
  have hts := atoms_spec (ws := wsX11_reached) B.pre
  have hown : s.vm.findClass RX11 = some m.cls := findClass_of_methodNamed B.named
  have hlocks := B.notSynchronized
  subst hsz
  have hD := hD0.self (sz := s.heap.size)
  generalize hAe : va_A (wd48 cyI cyJ cyZ q_G q_Sc q_Tb q_Sk q_row q_all q_apart q_Pr q_Sp q_Ch q_Wh q_Mk q_Tr q_Ws q_Pk1 n_row a_row n_all a_all n_apart a_apart) s.heap.size = A at hD ⊢
  have hA : ∀ q : Nat, s.heap.size ≤ q → A q := fun q h => by rw [← hAe]; exact Or.inr h
  have hS : va_S A s.heap s.heap [] := va_S.rf
  have hl := lv_entry ([.ref q_G, .int v1, .int v2, .int v3]) (n := 4) (Nat.le_of_ble_eq_true rfl)
  rw [lg_entry_eq]
  generalize (lg_sl ([.ref q_G, .int v1, .int v2, .int v3]) ++ List.replicate (4 - (lg_sl ([.ref q_G, .int v1, .int v2, .int v3])).length) Slot.unset).toArray = ls at hl ⊢
  have hl : lv_has ls 4 [(0, .ref q_G), (1, .int v1), (2, .int v2), (3, .int v3)] := hl
  exact k_X11_reached_0 ⟨hx, hb, hr, hml, hown, hts, hlocks, hG, hA⟩ N MC MS res q_G q_Sc q_Tb q_Sk q_Pr q_Sp q_Ch q_Wh q_Mk q_Tr q_Ws q_Pk1 v1 v2 v3 n_row a_row n_all a_all n_apart a_apart q_row q_all q_apart h _ _ hP hD hS _ hl
abbrev rm_X11_records (MC MS : Nat) : Room := { frames := 4, cells := MC, slots := MS, locals := 87 }
theorem hd_X11_records : yX11_records.cls ≠ "java/lang/invoke/MethodHandle" ∧ yX11_records.cls ≠ "java/lang/invoke/VarHandle" ∧ (parseMethodDescriptor yX11_records.desc).map (fun d => d.parameters.length) = some 3 := by decide +kernel
theorem iw_X11_records_X11 : ∀ w ∈ wsX110, w ∈ wsX11_records := List.forall_mem_cons.mpr ⟨List.mem_of_getElem? (i := 70) rfl, List.forall_mem_cons.mpr ⟨List.mem_of_getElem? (i := 71) rfl, List.forall_mem_cons.mpr ⟨List.mem_of_getElem? (i := 72) rfl, List.forall_mem_cons.mpr ⟨List.mem_of_getElem? (i := 73) rfl, List.forall_mem_cons.mpr ⟨List.mem_of_getElem? (i := 74) rfl, List.forall_mem_cons.mpr ⟨List.mem_of_getElem? (i := 75) rfl, List.forall_mem_cons.mpr ⟨List.mem_of_getElem? (i := 76) rfl, List.forall_mem_cons.mpr ⟨List.mem_of_getElem? (i := 77) rfl, List.forall_mem_cons.mpr ⟨List.mem_of_getElem? (i := 78) rfl, fun _ h => absurd h List.not_mem_nil⟩⟩⟩⟩⟩⟩⟩⟩⟩
theorem iw_X11_records_X4 : ∀ w ∈ wsX40, w ∈ wsX11_records := List.forall_mem_cons.mpr ⟨List.mem_of_getElem? (i := 82) rfl, fun _ h => absurd h List.not_mem_nil⟩
theorem iw_X11_records_X7 : ∀ w ∈ wsX70, w ∈ wsX11_records := List.forall_mem_cons.mpr ⟨List.mem_of_getElem? (i := 79) rfl, List.forall_mem_cons.mpr ⟨List.mem_of_getElem? (i := 80) rfl, List.forall_mem_cons.mpr ⟨List.mem_of_getElem? (i := 81) rfl, fun _ h => absurd h List.not_mem_nil⟩⟩⟩
theorem iw_X11_records_X5 : ∀ w ∈ wsX50, w ∈ wsX11_records := List.forall_mem_cons.mpr ⟨List.mem_of_getElem? (i := 83) rfl, List.forall_mem_cons.mpr ⟨List.mem_of_getElem? (i := 84) rfl, List.forall_mem_cons.mpr ⟨List.mem_of_getElem? (i := 85) rfl, fun _ h => absurd h List.not_mem_nil⟩⟩⟩
theorem iw_X11_records_X2 : ∀ w ∈ wsX20, w ∈ wsX11_records := List.forall_mem_cons.mpr ⟨List.mem_of_getElem? (i := 86) rfl, List.forall_mem_cons.mpr ⟨List.mem_of_getElem? (i := 87) rfl, fun _ h => absurd h List.not_mem_nil⟩⟩
def f_X11_records (N : Nat) (MC : Nat) (MS : Nat) (v1 : Int32) (v2 : Int32) (v3 : Int32) (pk1_wanted : Int32) (pk1_seen : Int32) (n_row : Nat) (a_row : Nat → Int32) (n_all : Nat) (a_all : Nat → Int32) (n_apart : Nat) (a_apart : Nat → Int32) : Option (Int32 × Int32 × Int32 × Nat × (Nat → Int32) × Nat × (Nat → Int32) × Nat × (Nat → Int32)) :=
  if 0 ≤ MC ∧ 0 ≤ MS then
    Option.bind (f_X11_within N v1 (0 : Int32) (1 : Int32)) fun r1z =>
    if r1z = 0 then
      if 0 ≤ MC ∧ 0 ≤ MS then
        some ((-1 : Int32), pk1_wanted, pk1_seen, n_row, a_row, n_all, a_all, n_apart, a_apart)
      else
        none
    else
      if 0 ≤ MC ∧ 0 ≤ MS then
        Option.bind (f_X11_isBound N v2) fun r7z =>
        if r7z = 0 then
          if 0 ≤ MC ∧ 0 ≤ MS then
            some ((-1 : Int32), pk1_wanted, pk1_seen, n_row, a_row, n_all, a_all, n_apart, a_apart)
          else
            none
        else
          if (-1 : Int32) ≤ v3 then
            if 0 + (if 0 < nI n_all then 0 else 2 + (if nI n_row = 0 then 1 else 0)) ≤ MC ∧ 0 + (if 0 < nI n_all then 0 else 100002 + (if nI n_row = 0 then 50001 else 0)) ≤ MS then
              Option.bind (f_X7_prepare N (if 0 < nI n_all then 0 else 2 + (if nI n_row = 0 then 1 else 0)) (if 0 < nI n_all then 0 else 100002 + (if nI n_row = 0 then 50001 else 0))  n_row a_row n_all a_all n_apart a_apart) fun r14z =>
              if 0 + (if 0 < nI n_all then 0 else 2 + (if nI n_row = 0 then 1 else 0)) ≤ MC ∧ 0 + (if 0 < nI n_all then 0 else 100002 + (if nI n_row = 0 then 50001 else 0)) ≤ MS then
                Option.bind (f_X5_recordAt N v1 v2 v3 pk1_wanted pk1_seen r14z.2.2.1 r14z.2.2.2.1 r14z.2.2.2.2.1 r14z.2.2.2.2.2) fun r18z =>
                if 0 + (if 0 < nI n_all then 0 else 2 + (if nI n_row = 0 then 1 else 0)) ≤ MC ∧ 0 + (if 0 < nI n_all then 0 else 100002 + (if nI n_row = 0 then 50001 else 0)) ≤ MS then
                  some (r18z.1, r18z.2.1, r18z.2.2, r14z.1, r14z.2.1, r14z.2.2.1, r14z.2.2.2.1, r14z.2.2.2.2.1, r14z.2.2.2.2.2)
                else
                  none
              else
                none
            else
              none
          else
            if 0 ≤ MC ∧ 0 ≤ MS then
              some ((-1 : Int32), pk1_wanted, pk1_seen, n_row, a_row, n_all, a_all, n_apart, a_apart)
            else
              none
      else
        none
  else
    none
set_option maxRecDepth 100000 in
set_option maxHeartbeats 4000000 in
theorem k_X11_records_0 {p : Program} {l : Launch} {e : Env} {s : State} {m : MethodId} {args : Array Value} {below : List Frame} {meth : Method} {c : Code} {dC : Nat → ClassId} {dI : Nat → Nat → Nat} {cyI cyJ cyZ : ClassId} {A : Nat → Prop} (C0 : mC p s m meth c args cX11_records (some .int) 4 RX11 wsX11_records (gK dC dI cyI cyJ cyZ) A) (N : Nat) (MC MS : Nat) (res : Int32 × Int32 × Int32 × Nat × (Nat → Int32) × Nat × (Nat → Int32) × Nat × (Nat → Int32)) (q_G : Nat) (q_Sc : Nat) (q_Tb : Nat) (q_Sk : Nat) (q_Pk1 : Nat) (q_Pr : Nat) (q_Sp : Nat) (q_Ch : Nat) (q_Wh : Nat) (q_Mk : Nat) (q_Tr : Nat) (q_Ws : Nat) (v1 : Int32) (v2 : Int32) (v3 : Int32) (pk1_wanted : Int32) (pk1_seen : Int32) (n_row : Nat) (a_row : Nat → Int32) (n_all : Nat) (a_all : Nat → Int32) (n_apart : Nat) (a_apart : Nat → Int32) (q_row : Nat) (q_all : Nat) (q_apart : Nat) (h : f_X11_records N MC MS v1 v2 v3 pk1_wanted pk1_seen n_row a_row n_all a_all n_apart a_apart = some res) : ∀ (H : Heap) (locs : List Loc), va_P (dC, dI) vwCl (wd46 cyI cyJ cyZ q_G q_Sc q_Tb q_Sk q_Pk1 q_row q_all q_apart q_Pr q_Sp q_Ch q_Wh q_Mk q_Tr q_Ws pk1_wanted pk1_seen n_row a_row n_all a_all n_apart a_apart) H → va_D A (wd46 cyI cyJ cyZ q_G q_Sc q_Tb q_Sk q_Pk1 q_row q_all q_apart q_Pr q_Sp q_Ch q_Wh q_Mk q_Tr q_Ws pk1_wanted pk1_seen n_row a_row n_all a_all n_apart a_apart) → va_S A s.heap H locs → ∀ (ls : Array Slot), lv_has ls 4 [(0, .ref q_G), (1, .int v1), (2, .int v2), (3, .int v3)] → W p l e (headSpec wsX11_records (rm_X11_records MC MS)).room s m args below meth c H locs 0 0 (MQ below (va_Qi (fun (r : Int32) (_ : Nat × Nat × Nat) => r = res.1) (bW dC dI (fun (u : Nat × Nat × Nat) => (wd46 cyI cyJ cyZ q_G q_Sc q_Tb q_Sk q_Pk1 u.1 u.2.1 u.2.2 q_Pr q_Sp q_Ch q_Wh q_Mk q_Tr q_Ws res.2.1 res.2.2.1 res.2.2.2.1 res.2.2.2.2.1 res.2.2.2.2.2.1 res.2.2.2.2.2.2.1 res.2.2.2.2.2.2.2.1 res.2.2.2.2.2.2.2.2)) A) A) args s MC MS A) (F0 m 0 ls []) := by
  obtain ⟨hx, hb, hr, hml, hown, hts, hlocks, hG, hA⟩ := id C0
  have hK := hG.1
  intro H locs hP hD hS ls hl
  unfold f_X11_records at h
  refine lv_iload_n hx hb dX11_records_0 rfl (lv_at hl 1 rfl) ?_
  refine lv_iconst (v := (0 : Int32)) hx hb dX11_records_1 (by decide) ?_
  refine lv_iconst (v := (1 : Int32)) hx hb dX11_records_2 (by decide) ?_
  obtain ⟨b2z, h⟩ := xa h
  obtain ⟨r1z, hr1z, h⟩ := xb_at h
  have hPc := hP.sub (ws' := (wd37 cyI cyJ cyZ)) [] rfl
  have hDc := hD.sub (ws' := (wd37 cyI cyJ cyZ)) [] (by decide) rfl
  refine cal_i [] [0, 1, 2, 3, 4, 5, 6, 7] (va_runS (As := [.int v1, .int (0 : Int32), .int (1 : Int32)]) (rest := []) ⟨hx, hb, hml, hown, hts⟩ (c_X11_within l dC dI cyI cyJ cyZ N r1z H.size  v1 (0 : Int32) (1 : Int32)  hr1z) (va_cwS 3 hts gX11_records_X11_within rfl rfl rfl hd_X11_within ⟨Nat.le_of_ble_eq_true rfl, Nat.le_of_ble_eq_true rfl⟩) ⟨pC.blind, pC.pre hPc hG hDc⟩ rfl rfl hl.1 rfl (lv_room (Nat.le_of_ble_eq_true rfl)) dX11_records_3 ⟨b2z.1, b2z.2⟩) hP hD hS hA rfl rfl rfl (by decide) (fun x4z u3z H locs hw hP hD hS => ?_)
  obtain rfl := hw.symm
  have hP : va_P (dC, dI) vwCl (wd46 cyI cyJ cyZ q_G q_Sc q_Tb q_Sk q_Pk1 q_row q_all q_apart q_Pr q_Sp q_Ch q_Wh q_Mk q_Tr q_Ws pk1_wanted pk1_seen n_row a_row n_all a_all n_apart a_apart) H := hP.sub [0, 1, 2, 3, 4, 5, 6, 7] rfl
  have hD : va_D A (wd46 cyI cyJ cyZ q_G q_Sc q_Tb q_Sk q_Pk1 q_row q_all q_apart q_Pr q_Sp q_Ch q_Wh q_Mk q_Tr q_Ws pk1_wanted pk1_seen n_row a_row n_all a_all n_apart a_apart) := hD.sub [0, 1, 2, 3, 4, 5, 6, 7] (by decide) rfl
  refine lv_if_eq (tgt := 21) hx hb dX11_records_6 (by decide) (fun c5z => ?_) (fun c5z => ?_)
  · have h := xt h c5z
    refine lv_iconst (v := (-1 : Int32)) hx hb dX11_records_21 (by decide) ?_
    obtain ⟨b6z, h⟩ := xa h
    refine W.widen (k := MC) (n := MS) b6z.1 b6z.2 ?_
    obtain rfl := Option.some.inj h
    exact W.iret (v := (-1 : Int32)) hx hb hr (fun t ht hW => ⟨⟨_, (q_row, q_all, q_apart), rfl, rfl, by rw [ht]; exact hP, hD⟩, hS.F ht⟩) hS.2.2 dX11_records_22 hlocks
  · have h := xf h c5z
    refine lv_iload_n hx hb dX11_records_9 rfl (lv_at hl 2 rfl) ?_
    obtain ⟨b8z, h⟩ := xa h
    obtain ⟨r7z, hr7z, h⟩ := xb_at h
    have hPc := hP.sub (ws' := (wd37 cyI cyJ cyZ)) [] rfl
    have hDc := hD.sub (ws' := (wd37 cyI cyJ cyZ)) [] (by decide) rfl
    refine cal_i [] [0, 1, 2, 3, 4, 5, 6, 7] (va_runS (As := [.int v2]) (rest := []) ⟨hx, hb, hml, hown, hts⟩ (c_X11_isBound l dC dI cyI cyJ cyZ N r7z H.size  v2  hr7z) (va_cwS 1 hts gX11_records_X11_isBound rfl rfl rfl hd_X11_isBound ⟨Nat.le_of_ble_eq_true rfl, Nat.le_of_ble_eq_true rfl⟩) ⟨pC.blind, pC.pre hPc hG hDc⟩ rfl rfl hl.1 rfl (lv_room (Nat.le_of_ble_eq_true rfl)) dX11_records_10 ⟨b8z.1, b8z.2⟩) hP hD hS hA rfl rfl rfl (by decide) (fun x10z u9z H locs hw hP hD hS => ?_)
    obtain rfl := hw.symm
    have hP : va_P (dC, dI) vwCl (wd46 cyI cyJ cyZ q_G q_Sc q_Tb q_Sk q_Pk1 q_row q_all q_apart q_Pr q_Sp q_Ch q_Wh q_Mk q_Tr q_Ws pk1_wanted pk1_seen n_row a_row n_all a_all n_apart a_apart) H := hP.sub [0, 1, 2, 3, 4, 5, 6, 7] rfl
    have hD : va_D A (wd46 cyI cyJ cyZ q_G q_Sc q_Tb q_Sk q_Pk1 q_row q_all q_apart q_Pr q_Sp q_Ch q_Wh q_Mk q_Tr q_Ws pk1_wanted pk1_seen n_row a_row n_all a_all n_apart a_apart) := hD.sub [0, 1, 2, 3, 4, 5, 6, 7] (by decide) rfl
    refine lv_if_eq (tgt := 21) hx hb dX11_records_13 (by decide) (fun c11z => ?_) (fun c11z => ?_)
    · have h := xt h c11z
      refine lv_iconst (v := (-1 : Int32)) hx hb dX11_records_21 (by decide) ?_
      obtain ⟨b12z, h⟩ := xa h
      refine W.widen (k := MC) (n := MS) b12z.1 b12z.2 ?_
      obtain rfl := Option.some.inj h
      exact W.iret (v := (-1 : Int32)) hx hb hr (fun t ht hW => ⟨⟨_, (q_row, q_all, q_apart), rfl, rfl, by rw [ht]; exact hP, hD⟩, hS.F ht⟩) hS.2.2 dX11_records_22 hlocks
    · have h := xf h c11z
      refine lv_iload_n hx hb dX11_records_16 rfl (lv_at hl 3 rfl) ?_
      refine lv_iconst (v := (-1 : Int32)) hx hb dX11_records_17 (by decide) ?_
      refine lv_icmp_ge (tgt := 23) hx hb dX11_records_18 (by decide) (fun c13z => ?_) (fun c13z => ?_)
      · have h := xt h c13z
        refine lv_aload_n hx hb dX11_records_23 rfl (lv_at hl 0 rfl) ?_
        refine va_get (D := (dC, dI)) (ci := 11) (v := .ref q_Tb) (C := RX11) (T := TX11) (N := 9) hx hb hts iw_X11_records_X11 hown hK hP 0 rfl rfl 3 (by decide) (hts (.fieldLink RX11 42 "GoesInto" "tables" "LGoesInto$Tables;") (List.mem_of_getElem? (i := 1) rfl)) (fun _ h9 => h9) rfl dX11_records_24 ?_
        obtain ⟨b15z, h⟩ := xa h
        obtain ⟨r14z, hr14z, h⟩ := xb_at h
        have hPc := hP.sub (ws' := (wd14 cyI cyJ cyZ q_Sc q_Tb q_row q_all q_apart n_row a_row n_all a_all n_apart a_apart)) [1, 2, 5, 6, 7] rfl
        have hDc := hD.sub (ws' := (wd14 cyI cyJ cyZ q_Sc q_Tb q_row q_all q_apart n_row a_row n_all a_all n_apart a_apart)) [1, 2, 5, 6, 7] (by decide) rfl
        refine cal_v [1, 2, 5, 6, 7] [0, 3, 4] (va_runV (As := []) (rest := []) ⟨hx, hb, hml, hown, hts⟩ (c_X7_prepare l dC dI cyI cyJ cyZ N (if 0 < nI n_all then 0 else 2 + (if nI n_row = 0 then 1 else 0)) (if 0 < nI n_all then 0 else 100002 + (if nI n_row = 0 then 50001 else 0)) r14z H.size q_Sc q_Tb q_row q_all q_apart  n_row a_row n_all a_all n_apart a_apart hr14z) (cwV 0 hts gX11_records_X7_prepare rfl rfl rfl ⟨rfl, hd_X7_prepare⟩ ⟨Nat.le_of_ble_eq_true rfl, Nat.le_of_ble_eq_true rfl⟩) ⟨pC.blind, va_recv hK hPc (ci := 7) (q0 := 1) rfl rfl, pC.pre hPc hG hDc⟩ rfl rfl hl.1 rfl (lv_room (Nat.le_of_ble_eq_true rfl)) dX11_records_27 ⟨b15z.1, b15z.2⟩) hP hD hS hA rfl rfl rfl (by decide) (fun u16z H locs _ hP hD hS => ?_)
        have hP : va_P (dC, dI) vwCl (wd46 cyI cyJ cyZ q_G q_Sc q_Tb q_Sk q_Pk1 u16z.1 u16z.2.1 u16z.2.2 q_Pr q_Sp q_Ch q_Wh q_Mk q_Tr q_Ws pk1_wanted pk1_seen r14z.1 r14z.2.1 r14z.2.2.1 r14z.2.2.2.1 r14z.2.2.2.2.1 r14z.2.2.2.2.2) H := hP.sub [0, 3, 4, 1, 2, 5, 6, 7] rfl
        have hD : va_D A (wd46 cyI cyJ cyZ q_G q_Sc q_Tb q_Sk q_Pk1 u16z.1 u16z.2.1 u16z.2.2 q_Pr q_Sp q_Ch q_Wh q_Mk q_Tr q_Ws pk1_wanted pk1_seen r14z.1 r14z.2.1 r14z.2.2.1 r14z.2.2.2.1 r14z.2.2.2.2.1 r14z.2.2.2.2.2) := hD.sub [0, 3, 4, 1, 2, 5, 6, 7] (by decide) rfl
        refine lv_aload_n hx hb dX11_records_30 rfl (lv_at hl 0 rfl) ?_
        refine va_get (D := (dC, dI)) (ci := 11) (v := .ref q_Sk) (C := RX11) (T := TX11) (N := 9) hx hb hts iw_X11_records_X11 hown hK hP 0 rfl rfl 4 (by decide) (hts (.fieldLink RX11 51 "GoesInto" "seeker" "LGoesInto$Seeker;") (List.mem_of_getElem? (i := 2) rfl)) (fun _ h9 => h9) rfl dX11_records_31 ?_
        refine lv_iload_n hx hb dX11_records_34 rfl (lv_at hl 1 rfl) ?_
        refine lv_iload_n hx hb dX11_records_35 rfl (lv_at hl 2 rfl) ?_
        refine lv_iload_n hx hb dX11_records_36 rfl (lv_at hl 3 rfl) ?_
        obtain ⟨b19z, h⟩ := xa h
        obtain ⟨r18z, hr18z, h⟩ := xb_at h
        have hPc := hP.sub (ws' := (wd18 cyI cyJ cyZ q_Tb q_Sk q_Pk1 u16z.2.1 u16z.2.2 q_Sc pk1_wanted pk1_seen r14z.2.2.1 r14z.2.2.2.1 r14z.2.2.2.2.1 r14z.2.2.2.2.2)) [2, 3, 4, 6, 7] rfl
        have hDc := hD.sub (ws' := (wd18 cyI cyJ cyZ q_Tb q_Sk q_Pk1 u16z.2.1 u16z.2.2 q_Sc pk1_wanted pk1_seen r14z.2.2.1 r14z.2.2.2.1 r14z.2.2.2.2.1 r14z.2.2.2.2.2)) [2, 3, 4, 6, 7] (by decide) rfl
        refine cal_i [2, 3, 4, 6, 7] [0, 1, 5] (va_runV (As := [.int v1, .int v2, .int v3]) (rest := []) ⟨hx, hb, hml, hown, hts⟩ (c_X5_recordAt l dC dI cyI cyJ cyZ N r18z H.size q_Tb q_Sk q_Pk1 u16z.2.1 u16z.2.2 q_Sc v1 v2 v3 pk1_wanted pk1_seen r14z.2.2.1 r14z.2.2.2.1 r14z.2.2.2.2.1 r14z.2.2.2.2.2 hr18z) (cwV 3 hts gX11_records_X5_recordAt rfl rfl rfl ⟨rfl, hd_X5_recordAt⟩ ⟨Nat.le_of_ble_eq_true rfl, Nat.le_of_ble_eq_true rfl⟩) ⟨pC.blind, va_recv hK hPc (ci := 5) (q0 := 1) rfl rfl, pC.pre hPc hG hDc⟩ rfl rfl hl.1 rfl (lv_room (Nat.le_of_ble_eq_true rfl)) dX11_records_37 ⟨b19z.1, b19z.2⟩) hP hD hS hA rfl rfl rfl (by decide) (fun x21z u20z H locs hw hP hD hS => ?_)
        obtain rfl := hw.symm
        have hP : va_P (dC, dI) vwCl (wd46 cyI cyJ cyZ q_G q_Sc q_Tb q_Sk q_Pk1 u16z.1 u16z.2.1 u16z.2.2 q_Pr q_Sp q_Ch q_Wh q_Mk q_Tr q_Ws r18z.2.1 r18z.2.2 r14z.1 r14z.2.1 r14z.2.2.1 r14z.2.2.2.1 r14z.2.2.2.2.1 r14z.2.2.2.2.2) H := hP.sub [0, 1, 3, 4, 5, 2, 6, 7] rfl
        have hD : va_D A (wd46 cyI cyJ cyZ q_G q_Sc q_Tb q_Sk q_Pk1 u16z.1 u16z.2.1 u16z.2.2 q_Pr q_Sp q_Ch q_Wh q_Mk q_Tr q_Ws r18z.2.1 r18z.2.2 r14z.1 r14z.2.1 r14z.2.2.1 r14z.2.2.2.1 r14z.2.2.2.2.1 r14z.2.2.2.2.2) := hD.sub [0, 1, 3, 4, 5, 2, 6, 7] (by decide) rfl
        obtain ⟨b22z, h⟩ := xa h
        refine W.widen (k := MC) (n := MS) b22z.1 b22z.2 ?_
        obtain rfl := Option.some.inj h
        exact W.iret (v := r18z.1) hx hb hr (fun t ht hW => ⟨⟨_, (u16z.1, u16z.2.1, u16z.2.2), rfl, rfl, by rw [ht]; exact hP, hD⟩, hS.F ht⟩) hS.2.2 dX11_records_40 hlocks
      · have h := xf h c13z
        refine lv_iconst (v := (-1 : Int32)) hx hb dX11_records_21 (by decide) ?_
        obtain ⟨b23z, h⟩ := xa h
        refine W.widen (k := MC) (n := MS) b23z.1 b23z.2 ?_
        obtain rfl := Option.some.inj h
        exact W.iret (v := (-1 : Int32)) hx hb hr (fun t ht hW => ⟨⟨_, (q_row, q_all, q_apart), rfl, rfl, by rw [ht]; exact hP, hD⟩, hS.F ht⟩) hS.2.2 dX11_records_22 hlocks
set_option maxRecDepth 100000 in
set_option maxHeartbeats 4000000 in
theorem c_X11_records (l : Launch) (dC : Nat → ClassId) (dI : Nat → Nat → Nat) (cyI cyJ cyZ : ClassId) (N : Nat) (MC MS : Nat) (res : Int32 × Int32 × Int32 × Nat × (Nat → Int32) × Nat × (Nat → Int32) × Nat × (Nat → Int32)) (sz : Nat) (q_G : Nat) (q_Sc : Nat) (q_Tb : Nat) (q_Sk : Nat) (q_Pk1 : Nat) (q_row : Nat) (q_all : Nat) (q_apart : Nat) (q_Pr : Nat) (q_Sp : Nat) (q_Ch : Nat) (q_Wh : Nat) (q_Mk : Nat) (q_Tr : Nat) (q_Ws : Nat) (v1 : Int32) (v2 : Int32) (v3 : Int32) (pk1_wanted : Int32) (pk1_seen : Int32) (n_row : Nat) (a_row : Nat → Int32) (n_all : Nat) (a_all : Nat → Int32) (n_apart : Nat) (a_apart : Nat → Int32) (h : f_X11_records N MC MS v1 v2 v3 pk1_wanted pk1_seen n_row a_row n_all a_all n_apart a_apart = some res) : Met l yX11_records wsX11_records (rm_X11_records MC MS) (pC dC dI cyI cyJ cyZ [.ref q_G, .int v1, .int v2, .int v3] sz (wd46 cyI cyJ cyZ q_G q_Sc q_Tb q_Sk q_Pk1 q_row q_all q_apart q_Pr q_Sp q_Ch q_Wh q_Mk q_Tr q_Ws pk1_wanted pk1_seen n_row a_row n_all a_all n_apart a_apart)) (va_Qi (fun (r : Int32) (_ : Nat × Nat × Nat) => r = res.1) (bW dC dI (fun (u : Nat × Nat × Nat) => (wd46 cyI cyJ cyZ q_G q_Sc q_Tb q_Sk q_Pk1 u.1 u.2.1 u.2.2 q_Pr q_Sp q_Ch q_Wh q_Mk q_Tr q_Ws res.2.1 res.2.2.1 res.2.2.2.1 res.2.2.2.2.1 res.2.2.2.2.2.1 res.2.2.2.2.2.2.1 res.2.2.2.2.2.2.2.1 res.2.2.2.2.2.2.2.2)) (va_A (wd46 cyI cyJ cyZ q_G q_Sc q_Tb q_Sk q_Pk1 q_row q_all q_apart q_Pr q_Sp q_Ch q_Wh q_Mk q_Tr q_Ws pk1_wanted pk1_seen n_row a_row n_all a_all n_apart a_apart) sz)) (va_A (wd46 cyI cyJ cyZ q_G q_Sc q_Tb q_Sk q_Pk1 q_row q_all q_apart q_Pr q_Sp q_Ch q_Wh q_Mk q_Tr q_Ws pk1_wanted pk1_seen n_row a_row n_all a_all n_apart a_apart) sz)) MC MS (va_A (wd46 cyI cyJ cyZ q_G q_Sc q_Tb q_Sk q_Pk1 q_row q_all q_apart q_Pr q_Sp q_Ch q_Wh q_Mk q_Tr q_Ws pk1_wanted pk1_seen n_row a_row n_all a_all n_apart a_apart) sz) := by
  refine Met.ofW (cc := cX11_records) (maxL := 4) (ret := (some .int)) (by decide) rfl ?_
  intro p e s m args below meth c s₁ B hml hv
  obtain ⟨rfl, hsz, hP, hG, hD0⟩ := hv
  have hx := B.exec
  have hb := B.bytes
  have hr := B.returns
  have hts := atoms_spec (ws := wsX11_records) B.pre
  have hown : s.vm.findClass RX11 = some m.cls := findClass_of_methodNamed B.named
  have hlocks := B.notSynchronized
  subst hsz
  have hD := hD0.self (sz := s.heap.size)
  generalize hAe : va_A (wd46 cyI cyJ cyZ q_G q_Sc q_Tb q_Sk q_Pk1 q_row q_all q_apart q_Pr q_Sp q_Ch q_Wh q_Mk q_Tr q_Ws pk1_wanted pk1_seen n_row a_row n_all a_all n_apart a_apart) s.heap.size = A at hD ⊢
  have hA : ∀ q : Nat, s.heap.size ≤ q → A q := fun q h => by rw [← hAe]; exact Or.inr h
  have hS : va_S A s.heap s.heap [] := va_S.rf
  have hl := lv_entry ([.ref q_G, .int v1, .int v2, .int v3]) (n := 4) (Nat.le_of_ble_eq_true rfl)
  rw [lg_entry_eq]
  generalize (lg_sl ([.ref q_G, .int v1, .int v2, .int v3]) ++ List.replicate (4 - (lg_sl ([.ref q_G, .int v1, .int v2, .int v3])).length) Slot.unset).toArray = ls at hl ⊢
  have hl : lv_has ls 4 [(0, .ref q_G), (1, .int v1), (2, .int v2), (3, .int v3)] := hl
  exact k_X11_records_0 ⟨hx, hb, hr, hml, hown, hts, hlocks, hG, hA⟩ N MC MS res q_G q_Sc q_Tb q_Sk q_Pk1 q_Pr q_Sp q_Ch q_Wh q_Mk q_Tr q_Ws v1 v2 v3 pk1_wanted pk1_seen n_row a_row n_all a_all n_apart a_apart q_row q_all q_apart h _ _ hP hD hS _ hl
/-- the cells G, Sc, Pr, Sp, Tb, row, list, prime, times, all, apart -/
abbrev wd49 (cyI cyJ cyZ : ClassId) (q_G : Nat) (q_Sc : Nat) (q_Pr : Nat) (q_Sp : Nat) (q_Tb : Nat) (q_row : Nat) (q_list : Nat) (q_prime : Nat) (q_times : Nat) (q_all : Nat) (q_apart : Nat) (q_Ch : Nat) (q_Sk : Nat) (q_Wh : Nat) (q_Mk : Nat) (q_Tr : Nat) (q_Ws : Nat) (q_parts : Nat) (sp_unlike : Int32) (sp_number : Int64) (sp_partsKept : Int32) (sp_partsNumber : Int64) (n_row : Nat) (a_row : Nat → Int32) (n_list : Nat) (a_list : Nat → Int32) (a_prime : Nat → Int64) (a_times : Nat → Int32) (n_all : Nat) (a_all : Nat → Int32) (n_apart : Nat) (a_apart : Nat → Int32) : va_W := [(q_G, .inr (11, [.ref q_Pr, .ref q_Sp, .ref q_Ch, .ref q_Tb, .ref q_Sk, .ref q_Wh, .ref q_Mk, .ref q_Tr, .ref q_Ws])), (q_Sc, .inr (4, [.ref q_row])), (q_Pr, .inr (3, [.ref q_Sc, .ref q_list])), (q_Sp, .inr (6, [.ref q_Pr, .ref q_prime, .ref q_times, .int sp_unlike, .long sp_number, .ref q_parts, .int sp_partsKept, .long sp_partsNumber])), (q_Tb, .inr (7, [.ref q_Sc, .ref q_all, .ref q_apart])), (q_row, .inl (cyI, n_row, .inl a_row)), (q_list, .inl (cyI, n_list, .inl a_list)), (q_prime, .inl (cyJ, 12, .inr (.inl a_prime))), (q_times, .inl (cyI, 12, .inl a_times)), (q_all, .inl (cyI, n_all, .inl a_all)), (q_apart, .inl (cyI, n_apart, .inl a_apart))]
abbrev rm_X11_sort (MC MS : Nat) : Room := { frames := 4, cells := MC, slots := MS, locals := 87 }
theorem hd_X11_sort : yX11_sort.cls ≠ "java/lang/invoke/MethodHandle" ∧ yX11_sort.cls ≠ "java/lang/invoke/VarHandle" ∧ (parseMethodDescriptor yX11_sort.desc).map (fun d => d.parameters.length) = some 1 := by decide +kernel
theorem iw_X11_sort_X11 : ∀ w ∈ wsX110, w ∈ wsX11_sort := List.forall_mem_cons.mpr ⟨List.mem_of_getElem? (i := 84) rfl, List.forall_mem_cons.mpr ⟨List.mem_of_getElem? (i := 85) rfl, List.forall_mem_cons.mpr ⟨List.mem_of_getElem? (i := 86) rfl, List.forall_mem_cons.mpr ⟨List.mem_of_getElem? (i := 87) rfl, List.forall_mem_cons.mpr ⟨List.mem_of_getElem? (i := 88) rfl, List.forall_mem_cons.mpr ⟨List.mem_of_getElem? (i := 89) rfl, List.forall_mem_cons.mpr ⟨List.mem_of_getElem? (i := 90) rfl, List.forall_mem_cons.mpr ⟨List.mem_of_getElem? (i := 91) rfl, List.forall_mem_cons.mpr ⟨List.mem_of_getElem? (i := 92) rfl, fun _ h => absurd h List.not_mem_nil⟩⟩⟩⟩⟩⟩⟩⟩⟩
theorem iw_X11_sort_X4 : ∀ w ∈ wsX40, w ∈ wsX11_sort := List.forall_mem_cons.mpr ⟨List.mem_of_getElem? (i := 95) rfl, fun _ h => absurd h List.not_mem_nil⟩
theorem iw_X11_sort_X3 : ∀ w ∈ wsX30, w ∈ wsX11_sort := List.forall_mem_cons.mpr ⟨List.mem_of_getElem? (i := 93) rfl, List.forall_mem_cons.mpr ⟨List.mem_of_getElem? (i := 94) rfl, fun _ h => absurd h List.not_mem_nil⟩⟩
theorem iw_X11_sort_X6 : ∀ w ∈ wsX60, w ∈ wsX11_sort := List.forall_mem_cons.mpr ⟨List.mem_of_getElem? (i := 99) rfl, List.forall_mem_cons.mpr ⟨List.mem_of_getElem? (i := 100) rfl, List.forall_mem_cons.mpr ⟨List.mem_of_getElem? (i := 101) rfl, List.forall_mem_cons.mpr ⟨List.mem_of_getElem? (i := 102) rfl, List.forall_mem_cons.mpr ⟨List.mem_of_getElem? (i := 103) rfl, List.forall_mem_cons.mpr ⟨List.mem_of_getElem? (i := 104) rfl, List.forall_mem_cons.mpr ⟨List.mem_of_getElem? (i := 105) rfl, List.forall_mem_cons.mpr ⟨List.mem_of_getElem? (i := 106) rfl, fun _ h => absurd h List.not_mem_nil⟩⟩⟩⟩⟩⟩⟩⟩
theorem iw_X11_sort_X7 : ∀ w ∈ wsX70, w ∈ wsX11_sort := List.forall_mem_cons.mpr ⟨List.mem_of_getElem? (i := 96) rfl, List.forall_mem_cons.mpr ⟨List.mem_of_getElem? (i := 97) rfl, List.forall_mem_cons.mpr ⟨List.mem_of_getElem? (i := 98) rfl, fun _ h => absurd h List.not_mem_nil⟩⟩⟩
def f_X11_sort (N : Nat) (MC : Nat) (MS : Nat) (v1 : Int32) (sp_unlike : Int32) (sp_number : Int64) (n_row : Nat) (a_row : Nat → Int32) (n_list : Nat) (a_list : Nat → Int32) (a_prime : Nat → Int64) (a_times : Nat → Int32) (n_all : Nat) (a_all : Nat → Int32) (n_apart : Nat) (a_apart : Nat → Int32) : Option (Int32 × Int32 × Int64 × Nat × (Nat → Int32) × Nat × (Nat → Int32) × (Nat → Int64) × (Nat → Int32) × Nat × (Nat → Int32) × Nat × (Nat → Int32)) :=
  if 0 ≤ MC ∧ 0 ≤ MS then
    Option.bind (f_X11_isBound N v1) fun r1z =>
    if r1z = 0 then
      if 0 ≤ MC ∧ 0 ≤ MS then
        some ((-1 : Int32), sp_unlike, sp_number, n_row, a_row, n_list, a_list, a_prime, a_times, n_all, a_all, n_apart, a_apart)
      else
        none
    else
      if 0 + (if 0 < nI n_list then 0 else 1 + (if nI n_row = 0 then 1 else 0)) ≤ MC ∧ 0 + (if 0 < nI n_list then 0 else 9592 + (if nI n_row = 0 then 50001 else 0)) ≤ MS then
        Option.bind (f_X3_prepare N (if 0 < nI n_list then 0 else 1 + (if nI n_row = 0 then 1 else 0)) (if 0 < nI n_list then 0 else 9592 + (if nI n_row = 0 then 50001 else 0))  n_row a_row n_list a_list) fun r6z =>
        if 0 + (if 0 < nI n_list then 0 else 1 + (if nI n_row = 0 then 1 else 0)) + (if 0 < nI n_all then 0 else 2 + (if nI r6z.1 = 0 then 1 else 0)) ≤ MC ∧ 0 + (if 0 < nI n_list then 0 else 9592 + (if nI n_row = 0 then 50001 else 0)) + (if 0 < nI n_all then 0 else 100002 + (if nI r6z.1 = 0 then 50001 else 0)) ≤ MS then
          Option.bind (f_X7_prepare N (if 0 < nI n_all then 0 else 2 + (if nI r6z.1 = 0 then 1 else 0)) (if 0 < nI n_all then 0 else 100002 + (if nI r6z.1 = 0 then 50001 else 0))  r6z.1 r6z.2.1 n_all a_all n_apart a_apart) fun r10z =>
          if 0 + (if 0 < nI n_list then 0 else 1 + (if nI n_row = 0 then 1 else 0)) + (if 0 < nI n_all then 0 else 2 + (if nI r6z.1 = 0 then 1 else 0)) ≤ MC ∧ 0 + (if 0 < nI n_list then 0 else 9592 + (if nI n_row = 0 then 50001 else 0)) + (if 0 < nI n_all then 0 else 100002 + (if nI r6z.1 = 0 then 50001 else 0)) ≤ MS then
            Option.bind (f_X7_summed N (1 : Int32) v1 r10z.2.2.1 r10z.2.2.2.1 r10z.2.2.2.2.1 r10z.2.2.2.2.2) fun r14z =>
            if v1 < r14z then
              if 0 + (if 0 < nI n_list then 0 else 1 + (if nI n_row = 0 then 1 else 0)) + (if 0 < nI n_all then 0 else 2 + (if nI r6z.1 = 0 then 1 else 0)) ≤ MC ∧ 0 + (if 0 < nI n_list then 0 else 9592 + (if nI n_row = 0 then 50001 else 0)) + (if 0 < nI n_all then 0 else 100002 + (if nI r6z.1 = 0 then 50001 else 0)) ≤ MS then
                Option.bind (f_X11_hasRichPart N v1 sp_unlike sp_number r6z.2.2.1 r6z.2.2.2 a_prime a_times r10z.2.2.1 r10z.2.2.2.1 r10z.2.2.2.2.1 r10z.2.2.2.2.2) fun r19z =>
                if r19z.1 = 0 then
                  if 0 + (if 0 < nI n_list then 0 else 1 + (if nI n_row = 0 then 1 else 0)) + (if 0 < nI n_all then 0 else 2 + (if nI r6z.1 = 0 then 1 else 0)) ≤ MC ∧ 0 + (if 0 < nI n_list then 0 else 9592 + (if nI n_row = 0 then 50001 else 0)) + (if 0 < nI n_all then 0 else 100002 + (if nI r6z.1 = 0 then 50001 else 0)) ≤ MS then
                    some ((3 : Int32), r19z.2.1, r19z.2.2.1, r10z.1, r10z.2.1, r6z.2.2.1, r6z.2.2.2, r19z.2.2.2.1, r19z.2.2.2.2, r10z.2.2.1, r10z.2.2.2.1, r10z.2.2.2.2.1, r10z.2.2.2.2.2)
                  else
                    none
                else
                  if 0 + (if 0 < nI n_list then 0 else 1 + (if nI n_row = 0 then 1 else 0)) + (if 0 < nI n_all then 0 else 2 + (if nI r6z.1 = 0 then 1 else 0)) ≤ MC ∧ 0 + (if 0 < nI n_list then 0 else 9592 + (if nI n_row = 0 then 50001 else 0)) + (if 0 < nI n_all then 0 else 100002 + (if nI r6z.1 = 0 then 50001 else 0)) ≤ MS then
                    some ((2 : Int32), r19z.2.1, r19z.2.2.1, r10z.1, r10z.2.1, r6z.2.2.1, r6z.2.2.2, r19z.2.2.2.1, r19z.2.2.2.2, r10z.2.2.1, r10z.2.2.2.1, r10z.2.2.2.2.1, r10z.2.2.2.2.2)
                  else
                    none
              else
                none
            else
              if v1 ≤ r14z then
                if 0 + (if 0 < nI n_list then 0 else 1 + (if nI n_row = 0 then 1 else 0)) + (if 0 < nI n_all then 0 else 2 + (if nI r6z.1 = 0 then 1 else 0)) ≤ MC ∧ 0 + (if 0 < nI n_list then 0 else 9592 + (if nI n_row = 0 then 50001 else 0)) + (if 0 < nI n_all then 0 else 100002 + (if nI r6z.1 = 0 then 50001 else 0)) ≤ MS then
                  some ((1 : Int32), sp_unlike, sp_number, r10z.1, r10z.2.1, r6z.2.2.1, r6z.2.2.2, a_prime, a_times, r10z.2.2.1, r10z.2.2.2.1, r10z.2.2.2.2.1, r10z.2.2.2.2.2)
                else
                  none
              else
                if 0 + (if 0 < nI n_list then 0 else 1 + (if nI n_row = 0 then 1 else 0)) + (if 0 < nI n_all then 0 else 2 + (if nI r6z.1 = 0 then 1 else 0)) ≤ MC ∧ 0 + (if 0 < nI n_list then 0 else 9592 + (if nI n_row = 0 then 50001 else 0)) + (if 0 < nI n_all then 0 else 100002 + (if nI r6z.1 = 0 then 50001 else 0)) ≤ MS then
                  some ((0 : Int32), sp_unlike, sp_number, r10z.1, r10z.2.1, r6z.2.2.1, r6z.2.2.2, a_prime, a_times, r10z.2.2.1, r10z.2.2.2.1, r10z.2.2.2.2.1, r10z.2.2.2.2.2)
                else
                  none
          else
            none
        else
          none
      else
        none
  else
    none
set_option maxRecDepth 100000 in
set_option maxHeartbeats 4000000 in
theorem k_X11_sort_0 {p : Program} {l : Launch} {e : Env} {s : State} {m : MethodId} {args : Array Value} {below : List Frame} {meth : Method} {c : Code} {dC : Nat → ClassId} {dI : Nat → Nat → Nat} {cyI cyJ cyZ : ClassId} {A : Nat → Prop} (C0 : mC p s m meth c args cX11_sort (some .int) 3 RX11 wsX11_sort (gK dC dI cyI cyJ cyZ) A) (N : Nat) (MC MS : Nat) (res : Int32 × Int32 × Int64 × Nat × (Nat → Int32) × Nat × (Nat → Int32) × (Nat → Int64) × (Nat → Int32) × Nat × (Nat → Int32) × Nat × (Nat → Int32)) (q_G : Nat) (q_Sc : Nat) (q_Pr : Nat) (q_Sp : Nat) (q_Tb : Nat) (q_prime : Nat) (q_times : Nat) (q_Ch : Nat) (q_Sk : Nat) (q_Wh : Nat) (q_Mk : Nat) (q_Tr : Nat) (q_Ws : Nat) (q_parts : Nat) (v1 : Int32) (sp_unlike : Int32) (sp_number : Int64) (sp_partsKept : Int32) (sp_partsNumber : Int64) (n_row : Nat) (a_row : Nat → Int32) (n_list : Nat) (a_list : Nat → Int32) (a_prime : Nat → Int64) (a_times : Nat → Int32) (n_all : Nat) (a_all : Nat → Int32) (n_apart : Nat) (a_apart : Nat → Int32) (q_row : Nat) (q_list : Nat) (q_all : Nat) (q_apart : Nat) (h : f_X11_sort N MC MS v1 sp_unlike sp_number n_row a_row n_list a_list a_prime a_times n_all a_all n_apart a_apart = some res) : ∀ (H : Heap) (locs : List Loc), va_P (dC, dI) vwCl (wd49 cyI cyJ cyZ q_G q_Sc q_Pr q_Sp q_Tb q_row q_list q_prime q_times q_all q_apart q_Ch q_Sk q_Wh q_Mk q_Tr q_Ws q_parts sp_unlike sp_number sp_partsKept sp_partsNumber n_row a_row n_list a_list a_prime a_times n_all a_all n_apart a_apart) H → va_D A (wd49 cyI cyJ cyZ q_G q_Sc q_Pr q_Sp q_Tb q_row q_list q_prime q_times q_all q_apart q_Ch q_Sk q_Wh q_Mk q_Tr q_Ws q_parts sp_unlike sp_number sp_partsKept sp_partsNumber n_row a_row n_list a_list a_prime a_times n_all a_all n_apart a_apart) → va_S A s.heap H locs → ∀ (ls : Array Slot), lv_has ls 3 [(0, .ref q_G), (1, .int v1)] → W p l e (headSpec wsX11_sort (rm_X11_sort MC MS)).room s m args below meth c H locs 0 0 (MQ below (va_Qi (fun (r : Int32) (_ : Nat × Nat × Nat × Nat) => r = res.1) (bW dC dI (fun (u : Nat × Nat × Nat × Nat) => (wd49 cyI cyJ cyZ q_G q_Sc q_Pr q_Sp q_Tb u.1 u.2.1 q_prime q_times u.2.2.1 u.2.2.2 q_Ch q_Sk q_Wh q_Mk q_Tr q_Ws q_parts res.2.1 res.2.2.1 sp_partsKept sp_partsNumber res.2.2.2.1 res.2.2.2.2.1 res.2.2.2.2.2.1 res.2.2.2.2.2.2.1 res.2.2.2.2.2.2.2.1 res.2.2.2.2.2.2.2.2.1 res.2.2.2.2.2.2.2.2.2.1 res.2.2.2.2.2.2.2.2.2.2.1 res.2.2.2.2.2.2.2.2.2.2.2.1 res.2.2.2.2.2.2.2.2.2.2.2.2)) A) A) args s MC MS A) (F0 m 0 ls []) := by
  obtain ⟨hx, hb, hr, hml, hown, hts, hlocks, hG, hA⟩ := id C0
  have hK := hG.1
  intro H locs hP hD hS ls hl
  unfold f_X11_sort at h
  refine lv_iload_n hx hb dX11_sort_0 rfl (lv_at hl 1 rfl) ?_
  obtain ⟨b2z, h⟩ := xa h
  obtain ⟨r1z, hr1z, h⟩ := xb_at h
  have hPc := hP.sub (ws' := (wd37 cyI cyJ cyZ)) [] rfl
  have hDc := hD.sub (ws' := (wd37 cyI cyJ cyZ)) [] (by decide) rfl
  refine cal_i [] [0, 1, 2, 3, 4, 5, 6, 7, 8, 9, 10] (va_runS (As := [.int v1]) (rest := []) ⟨hx, hb, hml, hown, hts⟩ (c_X11_isBound l dC dI cyI cyJ cyZ N r1z H.size  v1  hr1z) (va_cwS 1 hts gX11_sort_X11_isBound rfl rfl rfl hd_X11_isBound ⟨Nat.le_of_ble_eq_true rfl, Nat.le_of_ble_eq_true rfl⟩) ⟨pC.blind, pC.pre hPc hG hDc⟩ rfl rfl hl.1 rfl (lv_room (Nat.le_of_ble_eq_true rfl)) dX11_sort_1 ⟨b2z.1, b2z.2⟩) hP hD hS hA rfl rfl rfl (by decide) (fun x4z u3z H locs hw hP hD hS => ?_)
  obtain rfl := hw.symm
  have hP : va_P (dC, dI) vwCl (wd49 cyI cyJ cyZ q_G q_Sc q_Pr q_Sp q_Tb q_row q_list q_prime q_times q_all q_apart q_Ch q_Sk q_Wh q_Mk q_Tr q_Ws q_parts sp_unlike sp_number sp_partsKept sp_partsNumber n_row a_row n_list a_list a_prime a_times n_all a_all n_apart a_apart) H := hP.sub [0, 1, 2, 3, 4, 5, 6, 7, 8, 9, 10] rfl
  have hD : va_D A (wd49 cyI cyJ cyZ q_G q_Sc q_Pr q_Sp q_Tb q_row q_list q_prime q_times q_all q_apart q_Ch q_Sk q_Wh q_Mk q_Tr q_Ws q_parts sp_unlike sp_number sp_partsKept sp_partsNumber n_row a_row n_list a_list a_prime a_times n_all a_all n_apart a_apart) := hD.sub [0, 1, 2, 3, 4, 5, 6, 7, 8, 9, 10] (by decide) rfl
  refine lv_if_ne (tgt := 9) hx hb dX11_sort_4 (by decide) (fun c5z => ?_) (fun c5z => ?_)
  · have h := xf h c5z
    refine lv_aload_n hx hb dX11_sort_9 rfl (lv_at hl 0 rfl) ?_
    refine va_get (D := (dC, dI)) (ci := 11) (v := .ref q_Pr) (C := RX11) (T := TX11) (N := 9) hx hb hts iw_X11_sort_X11 hown hK hP 0 rfl rfl 0 (by decide) (hts (.fieldLink RX11 15 "GoesInto" "primes" "LGoesInto$Primes;") (List.mem_of_getElem? (i := 1) rfl)) (fun _ h9 => h9) rfl dX11_sort_10 ?_
    obtain ⟨b7z, h⟩ := xa h
    obtain ⟨r6z, hr6z, h⟩ := xb_at h
    have hPc := hP.sub (ws' := (wd11 cyI cyJ cyZ q_Sc q_Pr q_row q_list n_row a_row n_list a_list)) [1, 2, 5, 6] rfl
    have hDc := hD.sub (ws' := (wd11 cyI cyJ cyZ q_Sc q_Pr q_row q_list n_row a_row n_list a_list)) [1, 2, 5, 6] (by decide) rfl
    refine cal_v [1, 2, 5, 6] [0, 3, 4, 7, 8, 9, 10] (va_runV (As := []) (rest := []) ⟨hx, hb, hml, hown, hts⟩ (c_X3_prepare l dC dI cyI cyJ cyZ N (if 0 < nI n_list then 0 else 1 + (if nI n_row = 0 then 1 else 0)) (if 0 < nI n_list then 0 else 9592 + (if nI n_row = 0 then 50001 else 0)) r6z H.size q_Sc q_Pr q_row q_list  n_row a_row n_list a_list hr6z) (cwV 0 hts gX11_sort_X3_prepare rfl rfl rfl ⟨rfl, hd_X3_prepare⟩ ⟨Nat.le_of_ble_eq_true rfl, Nat.le_of_ble_eq_true rfl⟩) ⟨pC.blind, va_recv hK hPc (ci := 3) (q0 := 1) rfl rfl, pC.pre hPc hG hDc⟩ rfl rfl hl.1 rfl (lv_room (Nat.le_of_ble_eq_true rfl)) dX11_sort_13 ⟨b7z.1, b7z.2⟩) hP hD hS hA rfl rfl rfl (by decide) (fun u8z H locs _ hP hD hS => ?_)
    have hP : va_P (dC, dI) vwCl (wd49 cyI cyJ cyZ q_G q_Sc q_Pr q_Sp q_Tb u8z.1 u8z.2 q_prime q_times q_all q_apart q_Ch q_Sk q_Wh q_Mk q_Tr q_Ws q_parts sp_unlike sp_number sp_partsKept sp_partsNumber r6z.1 r6z.2.1 r6z.2.2.1 r6z.2.2.2 a_prime a_times n_all a_all n_apart a_apart) H := hP.sub [0, 7, 8, 1, 2, 9, 10, 3, 4, 5, 6] rfl
    have hD : va_D A (wd49 cyI cyJ cyZ q_G q_Sc q_Pr q_Sp q_Tb u8z.1 u8z.2 q_prime q_times q_all q_apart q_Ch q_Sk q_Wh q_Mk q_Tr q_Ws q_parts sp_unlike sp_number sp_partsKept sp_partsNumber r6z.1 r6z.2.1 r6z.2.2.1 r6z.2.2.2 a_prime a_times n_all a_all n_apart a_apart) := hD.sub [0, 7, 8, 1, 2, 9, 10, 3, 4, 5, 6] (by decide) rfl
    refine lv_aload_n hx hb dX11_sort_16 rfl (lv_at hl 0 rfl) ?_
    refine va_get (D := (dC, dI)) (ci := 11) (v := .ref q_Tb) (C := RX11) (T := TX11) (N := 9) hx hb hts iw_X11_sort_X11 hown hK hP 0 rfl rfl 3 (by decide) (hts (.fieldLink RX11 42 "GoesInto" "tables" "LGoesInto$Tables;") (List.mem_of_getElem? (i := 2) rfl)) (fun _ h9 => h9) rfl dX11_sort_17 ?_
    obtain ⟨b11z, h⟩ := xa h
    obtain ⟨r10z, hr10z, h⟩ := xb_at h
    have hPc := hP.sub (ws' := (wd14 cyI cyJ cyZ q_Sc q_Tb u8z.1 q_all q_apart r6z.1 r6z.2.1 n_all a_all n_apart a_apart)) [1, 4, 5, 9, 10] rfl
    have hDc := hD.sub (ws' := (wd14 cyI cyJ cyZ q_Sc q_Tb u8z.1 q_all q_apart r6z.1 r6z.2.1 n_all a_all n_apart a_apart)) [1, 4, 5, 9, 10] (by decide) rfl
    refine cal_v [1, 4, 5, 9, 10] [0, 2, 3, 6, 7, 8] (va_runV (As := []) (rest := []) ⟨hx, hb, hml, hown, hts⟩ (c_X7_prepare l dC dI cyI cyJ cyZ N (if 0 < nI n_all then 0 else 2 + (if nI r6z.1 = 0 then 1 else 0)) (if 0 < nI n_all then 0 else 100002 + (if nI r6z.1 = 0 then 50001 else 0)) r10z H.size q_Sc q_Tb u8z.1 q_all q_apart  r6z.1 r6z.2.1 n_all a_all n_apart a_apart hr10z) (cwV 0 hts gX11_sort_X7_prepare rfl rfl rfl ⟨rfl, hd_X7_prepare⟩ ⟨Nat.le_of_ble_eq_true rfl, Nat.le_of_ble_eq_true rfl⟩) ⟨pC.blind, va_recv hK hPc (ci := 7) (q0 := 1) rfl rfl, pC.pre hPc hG hDc⟩ rfl rfl hl.1 rfl (lv_room (Nat.le_of_ble_eq_true rfl)) dX11_sort_20 ⟨b11z.1, b11z.2⟩) hP hD hS hA rfl rfl rfl (by decide) (fun u12z H locs _ hP hD hS => ?_)
    have hP : va_P (dC, dI) vwCl (wd49 cyI cyJ cyZ q_G q_Sc q_Pr q_Sp q_Tb u12z.1 u8z.2 q_prime q_times u12z.2.1 u12z.2.2 q_Ch q_Sk q_Wh q_Mk q_Tr q_Ws q_parts sp_unlike sp_number sp_partsKept sp_partsNumber r10z.1 r10z.2.1 r6z.2.2.1 r6z.2.2.2 a_prime a_times r10z.2.2.1 r10z.2.2.2.1 r10z.2.2.2.2.1 r10z.2.2.2.2.2) H := hP.sub [0, 6, 1, 2, 7, 8, 3, 4, 5, 9, 10] rfl
    have hD : va_D A (wd49 cyI cyJ cyZ q_G q_Sc q_Pr q_Sp q_Tb u12z.1 u8z.2 q_prime q_times u12z.2.1 u12z.2.2 q_Ch q_Sk q_Wh q_Mk q_Tr q_Ws q_parts sp_unlike sp_number sp_partsKept sp_partsNumber r10z.1 r10z.2.1 r6z.2.2.1 r6z.2.2.2 a_prime a_times r10z.2.2.1 r10z.2.2.2.1 r10z.2.2.2.2.1 r10z.2.2.2.2.2) := hD.sub [0, 6, 1, 2, 7, 8, 3, 4, 5, 9, 10] (by decide) rfl
    refine lv_aload_n hx hb dX11_sort_23 rfl (lv_at hl 0 rfl) ?_
    refine va_get (D := (dC, dI)) (ci := 11) (v := .ref q_Tb) (C := RX11) (T := TX11) (N := 9) hx hb hts iw_X11_sort_X11 hown hK hP 0 rfl rfl 3 (by decide) (hts (.fieldLink RX11 42 "GoesInto" "tables" "LGoesInto$Tables;") (List.mem_of_getElem? (i := 2) rfl)) (fun _ h9 => h9) rfl dX11_sort_24 ?_
    refine lv_iconst (v := (1 : Int32)) hx hb dX11_sort_27 (by decide) ?_
    refine lv_iload_n hx hb dX11_sort_28 rfl (lv_at hl 1 rfl) ?_
    obtain ⟨b15z, h⟩ := xa h
    obtain ⟨r14z, hr14z, h⟩ := xb_at h
    have hPc := hP.sub (ws' := (wd15 cyI cyJ cyZ q_Tb u12z.2.1 u12z.2.2 q_Sc r10z.2.2.1 r10z.2.2.2.1 r10z.2.2.2.2.1 r10z.2.2.2.2.2)) [4, 9, 10] rfl
    have hDc := hD.sub (ws' := (wd15 cyI cyJ cyZ q_Tb u12z.2.1 u12z.2.2 q_Sc r10z.2.2.1 r10z.2.2.2.1 r10z.2.2.2.2.1 r10z.2.2.2.2.2)) [4, 9, 10] (by decide) rfl
    refine cal_i [4, 9, 10] [0, 1, 2, 3, 5, 6, 7, 8] (va_runV (As := [.int (1 : Int32), .int v1]) (rest := []) ⟨hx, hb, hml, hown, hts⟩ (c_X7_summed l dC dI cyI cyJ cyZ N r14z H.size q_Tb u12z.2.1 u12z.2.2 q_Sc (1 : Int32) v1 r10z.2.2.1 r10z.2.2.2.1 r10z.2.2.2.2.1 r10z.2.2.2.2.2 hr14z) (cwV 2 hts gX11_sort_X7_summed rfl rfl rfl ⟨rfl, hd_X7_summed⟩ ⟨Nat.le_of_ble_eq_true rfl, Nat.le_of_ble_eq_true rfl⟩) ⟨pC.blind, va_recv hK hPc (ci := 7) (q0 := 0) rfl rfl, pC.pre hPc hG hDc⟩ rfl rfl hl.1 rfl (lv_room (Nat.le_of_ble_eq_true rfl)) dX11_sort_29 ⟨b15z.1, b15z.2⟩) hP hD hS hA rfl rfl rfl (by decide) (fun x17z u16z H locs hw hP hD hS => ?_)
    obtain rfl := hw.symm
    have hP : va_P (dC, dI) vwCl (wd49 cyI cyJ cyZ q_G q_Sc q_Pr q_Sp q_Tb u12z.1 u8z.2 q_prime q_times u12z.2.1 u12z.2.2 q_Ch q_Sk q_Wh q_Mk q_Tr q_Ws q_parts sp_unlike sp_number sp_partsKept sp_partsNumber r10z.1 r10z.2.1 r6z.2.2.1 r6z.2.2.2 a_prime a_times r10z.2.2.1 r10z.2.2.2.1 r10z.2.2.2.2.1 r10z.2.2.2.2.2) H := hP.sub [0, 1, 2, 3, 8, 4, 5, 6, 7, 9, 10] rfl
    have hD : va_D A (wd49 cyI cyJ cyZ q_G q_Sc q_Pr q_Sp q_Tb u12z.1 u8z.2 q_prime q_times u12z.2.1 u12z.2.2 q_Ch q_Sk q_Wh q_Mk q_Tr q_Ws q_parts sp_unlike sp_number sp_partsKept sp_partsNumber r10z.1 r10z.2.1 r6z.2.2.1 r6z.2.2.2 a_prime a_times r10z.2.2.1 r10z.2.2.2.1 r10z.2.2.2.2.1 r10z.2.2.2.2.2) := hD.sub [0, 1, 2, 3, 8, 4, 5, 6, 7, 9, 10] (by decide) rfl
    refine lv_istore_n (lv' := [(2, .int r14z), (0, .ref q_G), (1, .int v1)]) hx hb dX11_sort_32 rfl hl (by decide) rfl (fun ls hl => ?_)
    refine lv_iload_n hx hb dX11_sort_33 rfl (lv_at hl 0 rfl) ?_
    refine lv_iload_n hx hb dX11_sort_34 rfl (lv_at hl 2 rfl) ?_
    refine lv_icmp_gt (tgt := 49) hx hb dX11_sort_35 (by decide) (fun c18z => ?_) (fun c18z => ?_)
    · have h := xt h c18z
      refine lv_aload_n hx hb dX11_sort_49 rfl (lv_at hl 1 rfl) ?_
      refine lv_iload_n hx hb dX11_sort_50 rfl (lv_at hl 2 rfl) ?_
      obtain ⟨b20z, h⟩ := xa h
      obtain ⟨r19z, hr19z, h⟩ := xb_at h
      have hPc := hP.sub (ws' := (wd41 cyI cyJ cyZ q_G q_Pr q_Sp q_Tb u8z.2 q_prime q_times u12z.2.1 u12z.2.2 q_Ch q_Sk q_Wh q_Mk q_Tr q_Ws q_Sc q_parts sp_unlike sp_number sp_partsKept sp_partsNumber r6z.2.2.1 r6z.2.2.2 a_prime a_times r10z.2.2.1 r10z.2.2.2.1 r10z.2.2.2.2.1 r10z.2.2.2.2.2)) [0, 2, 3, 4, 6, 7, 8, 9, 10] rfl
      have hDc := hD.sub (ws' := (wd41 cyI cyJ cyZ q_G q_Pr q_Sp q_Tb u8z.2 q_prime q_times u12z.2.1 u12z.2.2 q_Ch q_Sk q_Wh q_Mk q_Tr q_Ws q_Sc q_parts sp_unlike sp_number sp_partsKept sp_partsNumber r6z.2.2.1 r6z.2.2.2 a_prime a_times r10z.2.2.1 r10z.2.2.2.1 r10z.2.2.2.2.1 r10z.2.2.2.2.2)) [0, 2, 3, 4, 6, 7, 8, 9, 10] (by decide) rfl
      refine cal_i [0, 2, 3, 4, 6, 7, 8, 9, 10] [1, 5] (va_runV (As := [.int v1]) (rest := []) ⟨hx, hb, hml, hown, hts⟩ (c_X11_hasRichPart l dC dI cyI cyJ cyZ N r19z H.size q_G q_Pr q_Sp q_Tb u8z.2 q_prime q_times u12z.2.1 u12z.2.2 q_Ch q_Sk q_Wh q_Mk q_Tr q_Ws q_Sc q_parts v1 sp_unlike sp_number sp_partsKept sp_partsNumber r6z.2.2.1 r6z.2.2.2 a_prime a_times r10z.2.2.1 r10z.2.2.2.1 r10z.2.2.2.2.1 r10z.2.2.2.2.2 hr19z) (cwV 1 hts gX11_sort_X11_hasRichPart rfl rfl rfl ⟨rfl, hd_X11_hasRichPart⟩ ⟨Nat.le_of_ble_eq_true rfl, Nat.le_of_ble_eq_true rfl⟩) ⟨pC.blind, va_recv hK hPc (ci := 11) (q0 := 0) rfl rfl, pC.pre hPc hG hDc⟩ rfl rfl hl.1 rfl (lv_room (Nat.le_of_ble_eq_true rfl)) dX11_sort_51 ⟨b20z.1, b20z.2⟩) hP hD hS hA rfl rfl rfl (by decide) (fun x22z u21z H locs hw hP hD hS => ?_)
      obtain rfl := hw.symm
      have hP : va_P (dC, dI) vwCl (wd49 cyI cyJ cyZ q_G q_Sc q_Pr q_Sp q_Tb u12z.1 u8z.2 q_prime q_times u12z.2.1 u12z.2.2 q_Ch q_Sk q_Wh q_Mk q_Tr q_Ws q_parts r19z.2.1 r19z.2.2.1 sp_partsKept sp_partsNumber r10z.1 r10z.2.1 r6z.2.2.1 r6z.2.2.2 r19z.2.2.2.1 r19z.2.2.2.2 r10z.2.2.1 r10z.2.2.2.1 r10z.2.2.2.2.1 r10z.2.2.2.2.2) H := hP.sub [2, 0, 3, 4, 5, 1, 6, 7, 8, 9, 10] rfl
      have hD : va_D A (wd49 cyI cyJ cyZ q_G q_Sc q_Pr q_Sp q_Tb u12z.1 u8z.2 q_prime q_times u12z.2.1 u12z.2.2 q_Ch q_Sk q_Wh q_Mk q_Tr q_Ws q_parts r19z.2.1 r19z.2.2.1 sp_partsKept sp_partsNumber r10z.1 r10z.2.1 r6z.2.2.1 r6z.2.2.2 r19z.2.2.2.1 r19z.2.2.2.2 r10z.2.2.1 r10z.2.2.2.1 r10z.2.2.2.2.1 r10z.2.2.2.2.2) := hD.sub [2, 0, 3, 4, 5, 1, 6, 7, 8, 9, 10] (by decide) rfl
      refine lv_if_eq (tgt := 61) hx hb dX11_sort_54 (by decide) (fun c23z => ?_) (fun c23z => ?_)
      · have h := xt h c23z
        refine lv_iconst (v := (3 : Int32)) hx hb dX11_sort_61 (by decide) ?_
        obtain ⟨b24z, h⟩ := xa h
        refine W.widen (k := MC) (n := MS) b24z.1 b24z.2 ?_
        obtain rfl := Option.some.inj h
        exact W.iret (v := (3 : Int32)) hx hb hr (fun t ht hW => ⟨⟨_, (u12z.1, u8z.2, u12z.2.1, u12z.2.2), rfl, rfl, by rw [ht]; exact hP, hD⟩, hS.F ht⟩) hS.2.2 dX11_sort_62 hlocks
      · have h := xf h c23z
        refine lv_iconst (v := (2 : Int32)) hx hb dX11_sort_57 (by decide) ?_
        refine lv_goto (tgt := 62) hx hb dX11_sort_58 (by decide) ?_
        obtain ⟨b25z, h⟩ := xa h
        refine W.widen (k := MC) (n := MS) b25z.1 b25z.2 ?_
        obtain rfl := Option.some.inj h
        exact W.iret (v := (2 : Int32)) hx hb hr (fun t ht hW => ⟨⟨_, (u12z.1, u8z.2, u12z.2.1, u12z.2.2), rfl, rfl, by rw [ht]; exact hP, hD⟩, hS.F ht⟩) hS.2.2 dX11_sort_62 hlocks
    · have h := xf h c18z
      refine lv_iload_n hx hb dX11_sort_38 rfl (lv_at hl 0 rfl) ?_
      refine lv_iload_n hx hb dX11_sort_39 rfl (lv_at hl 2 rfl) ?_
      refine lv_icmp_ge (tgt := 47) hx hb dX11_sort_40 (by decide) (fun c26z => ?_) (fun c26z => ?_)
      · have h := xt h c26z
        refine lv_iconst (v := (1 : Int32)) hx hb dX11_sort_47 (by decide) ?_
        obtain ⟨b27z, h⟩ := xa h
        refine W.widen (k := MC) (n := MS) b27z.1 b27z.2 ?_
        obtain rfl := Option.some.inj h
        exact W.iret (v := (1 : Int32)) hx hb hr (fun t ht hW => ⟨⟨_, (u12z.1, u8z.2, u12z.2.1, u12z.2.2), rfl, rfl, by rw [ht]; exact hP, hD⟩, hS.F ht⟩) hS.2.2 dX11_sort_48 hlocks
      · have h := xf h c26z
        refine lv_iconst (v := (0 : Int32)) hx hb dX11_sort_43 (by decide) ?_
        refine lv_goto (tgt := 48) hx hb dX11_sort_44 (by decide) ?_
        obtain ⟨b28z, h⟩ := xa h
        refine W.widen (k := MC) (n := MS) b28z.1 b28z.2 ?_
        obtain rfl := Option.some.inj h
        exact W.iret (v := (0 : Int32)) hx hb hr (fun t ht hW => ⟨⟨_, (u12z.1, u8z.2, u12z.2.1, u12z.2.2), rfl, rfl, by rw [ht]; exact hP, hD⟩, hS.F ht⟩) hS.2.2 dX11_sort_48 hlocks
  · have h := xt h c5z
    refine lv_iconst (v := (-1 : Int32)) hx hb dX11_sort_7 (by decide) ?_
    obtain ⟨b29z, h⟩ := xa h
    refine W.widen (k := MC) (n := MS) b29z.1 b29z.2 ?_
    obtain rfl := Option.some.inj h
    exact W.iret (v := (-1 : Int32)) hx hb hr (fun t ht hW => ⟨⟨_, (q_row, q_list, q_all, q_apart), rfl, rfl, by rw [ht]; exact hP, hD⟩, hS.F ht⟩) hS.2.2 dX11_sort_8 hlocks
set_option maxRecDepth 100000 in
set_option maxHeartbeats 4000000 in
theorem c_X11_sort (l : Launch) (dC : Nat → ClassId) (dI : Nat → Nat → Nat) (cyI cyJ cyZ : ClassId) (N : Nat) (MC MS : Nat) (res : Int32 × Int32 × Int64 × Nat × (Nat → Int32) × Nat × (Nat → Int32) × (Nat → Int64) × (Nat → Int32) × Nat × (Nat → Int32) × Nat × (Nat → Int32)) (sz : Nat) (q_G : Nat) (q_Sc : Nat) (q_Pr : Nat) (q_Sp : Nat) (q_Tb : Nat) (q_row : Nat) (q_list : Nat) (q_prime : Nat) (q_times : Nat) (q_all : Nat) (q_apart : Nat) (q_Ch : Nat) (q_Sk : Nat) (q_Wh : Nat) (q_Mk : Nat) (q_Tr : Nat) (q_Ws : Nat) (q_parts : Nat) (v1 : Int32) (sp_unlike : Int32) (sp_number : Int64) (sp_partsKept : Int32) (sp_partsNumber : Int64) (n_row : Nat) (a_row : Nat → Int32) (n_list : Nat) (a_list : Nat → Int32) (a_prime : Nat → Int64) (a_times : Nat → Int32) (n_all : Nat) (a_all : Nat → Int32) (n_apart : Nat) (a_apart : Nat → Int32) (h : f_X11_sort N MC MS v1 sp_unlike sp_number n_row a_row n_list a_list a_prime a_times n_all a_all n_apart a_apart = some res) : Met l yX11_sort wsX11_sort (rm_X11_sort MC MS) (pC dC dI cyI cyJ cyZ [.ref q_G, .int v1] sz (wd49 cyI cyJ cyZ q_G q_Sc q_Pr q_Sp q_Tb q_row q_list q_prime q_times q_all q_apart q_Ch q_Sk q_Wh q_Mk q_Tr q_Ws q_parts sp_unlike sp_number sp_partsKept sp_partsNumber n_row a_row n_list a_list a_prime a_times n_all a_all n_apart a_apart)) (va_Qi (fun (r : Int32) (_ : Nat × Nat × Nat × Nat) => r = res.1) (bW dC dI (fun (u : Nat × Nat × Nat × Nat) => (wd49 cyI cyJ cyZ q_G q_Sc q_Pr q_Sp q_Tb u.1 u.2.1 q_prime q_times u.2.2.1 u.2.2.2 q_Ch q_Sk q_Wh q_Mk q_Tr q_Ws q_parts res.2.1 res.2.2.1 sp_partsKept sp_partsNumber res.2.2.2.1 res.2.2.2.2.1 res.2.2.2.2.2.1 res.2.2.2.2.2.2.1 res.2.2.2.2.2.2.2.1 res.2.2.2.2.2.2.2.2.1 res.2.2.2.2.2.2.2.2.2.1 res.2.2.2.2.2.2.2.2.2.2.1 res.2.2.2.2.2.2.2.2.2.2.2.1 res.2.2.2.2.2.2.2.2.2.2.2.2)) (va_A (wd49 cyI cyJ cyZ q_G q_Sc q_Pr q_Sp q_Tb q_row q_list q_prime q_times q_all q_apart q_Ch q_Sk q_Wh q_Mk q_Tr q_Ws q_parts sp_unlike sp_number sp_partsKept sp_partsNumber n_row a_row n_list a_list a_prime a_times n_all a_all n_apart a_apart) sz)) (va_A (wd49 cyI cyJ cyZ q_G q_Sc q_Pr q_Sp q_Tb q_row q_list q_prime q_times q_all q_apart q_Ch q_Sk q_Wh q_Mk q_Tr q_Ws q_parts sp_unlike sp_number sp_partsKept sp_partsNumber n_row a_row n_list a_list a_prime a_times n_all a_all n_apart a_apart) sz)) MC MS (va_A (wd49 cyI cyJ cyZ q_G q_Sc q_Pr q_Sp q_Tb q_row q_list q_prime q_times q_all q_apart q_Ch q_Sk q_Wh q_Mk q_Tr q_Ws q_parts sp_unlike sp_number sp_partsKept sp_partsNumber n_row a_row n_list a_list a_prime a_times n_all a_all n_apart a_apart) sz) := by
  refine Met.ofW (cc := cX11_sort) (maxL := 3) (ret := (some .int)) (by decide) rfl ?_
  intro p e s m args below meth c s₁ B hml hv
  obtain ⟨rfl, hsz, hP, hG, hD0⟩ := hv
  have hx := B.exec
  have hb := B.bytes
  have hr := B.returns
  have hts := atoms_spec (ws := wsX11_sort) B.pre
  have hown : s.vm.findClass RX11 = some m.cls := findClass_of_methodNamed B.named
  have hlocks := B.notSynchronized
  subst hsz
  have hD := hD0.self (sz := s.heap.size)
  generalize hAe : va_A (wd49 cyI cyJ cyZ q_G q_Sc q_Pr q_Sp q_Tb q_row q_list q_prime q_times q_all q_apart q_Ch q_Sk q_Wh q_Mk q_Tr q_Ws q_parts sp_unlike sp_number sp_partsKept sp_partsNumber n_row a_row n_list a_list a_prime a_times n_all a_all n_apart a_apart) s.heap.size = A at hD ⊢
  have hA : ∀ q : Nat, s.heap.size ≤ q → A q := fun q h => by rw [← hAe]; exact Or.inr h
  have hS : va_S A s.heap s.heap [] := va_S.rf
  have hl := lv_entry ([.ref q_G, .int v1]) (n := 3) (Nat.le_of_ble_eq_true rfl)
  rw [lg_entry_eq]
  generalize (lg_sl ([.ref q_G, .int v1]) ++ List.replicate (3 - (lg_sl ([.ref q_G, .int v1])).length) Slot.unset).toArray = ls at hl ⊢
  have hl : lv_has ls 3 [(0, .ref q_G), (1, .int v1)] := hl
  exact k_X11_sort_0 ⟨hx, hb, hr, hml, hown, hts, hlocks, hG, hA⟩ N MC MS res q_G q_Sc q_Pr q_Sp q_Tb q_prime q_times q_Ch q_Sk q_Wh q_Mk q_Tr q_Ws q_parts v1 sp_unlike sp_number sp_partsKept sp_partsNumber n_row a_row n_list a_list a_prime a_times n_all a_all n_apart a_apart q_row q_list q_all q_apart h _ _ hP hD hS _ hl
/-- the cells G, Sc, Pr, Sp, Mk, row, list, prime, times, parts -/
abbrev wd50 (cyI cyJ cyZ : ClassId) (q_G : Nat) (q_Sc : Nat) (q_Pr : Nat) (q_Sp : Nat) (q_Mk : Nat) (q_row : Nat) (q_list : Nat) (q_prime : Nat) (q_times : Nat) (q_parts : Nat) (q_Ch : Nat) (q_Tb : Nat) (q_Sk : Nat) (q_Wh : Nat) (q_Tr : Nat) (q_Ws : Nat) (sp_unlike : Int32) (sp_number : Int64) (sp_partsKept : Int32) (sp_partsNumber : Int64) (n_row : Nat) (a_row : Nat → Int32) (n_list : Nat) (a_list : Nat → Int32) (a_prime : Nat → Int64) (a_times : Nat → Int32) (a_parts : Nat → Int64) : va_W := [(q_G, .inr (11, [.ref q_Pr, .ref q_Sp, .ref q_Ch, .ref q_Tb, .ref q_Sk, .ref q_Wh, .ref q_Mk, .ref q_Tr, .ref q_Ws])), (q_Sc, .inr (4, [.ref q_row])), (q_Pr, .inr (3, [.ref q_Sc, .ref q_list])), (q_Sp, .inr (6, [.ref q_Pr, .ref q_prime, .ref q_times, .int sp_unlike, .long sp_number, .ref q_parts, .int sp_partsKept, .long sp_partsNumber])), (q_Mk, .inr (1, [.ref q_Sp, .ref q_Sc])), (q_row, .inl (cyI, n_row, .inl a_row)), (q_list, .inl (cyI, n_list, .inl a_list)), (q_prime, .inl (cyJ, 12, .inr (.inl a_prime))), (q_times, .inl (cyI, 12, .inl a_times)), (q_parts, .inl (cyJ, 2304, .inr (.inl a_parts)))]
abbrev rm_X11_made (MC MS : Nat) : Room := { frames := 3, cells := MC, slots := MS, locals := 84 }
theorem hd_X11_made : yX11_made.cls ≠ "java/lang/invoke/MethodHandle" ∧ yX11_made.cls ≠ "java/lang/invoke/VarHandle" ∧ (parseMethodDescriptor yX11_made.desc).map (fun d => d.parameters.length) = some 1 := by decide +kernel
theorem iw_X11_made_X11 : ∀ w ∈ wsX110, w ∈ wsX11_made := List.forall_mem_cons.mpr ⟨List.mem_of_getElem? (i := 88) rfl, List.forall_mem_cons.mpr ⟨List.mem_of_getElem? (i := 89) rfl, List.forall_mem_cons.mpr ⟨List.mem_of_getElem? (i := 90) rfl, List.forall_mem_cons.mpr ⟨List.mem_of_getElem? (i := 91) rfl, List.forall_mem_cons.mpr ⟨List.mem_of_getElem? (i := 92) rfl, List.forall_mem_cons.mpr ⟨List.mem_of_getElem? (i := 93) rfl, List.forall_mem_cons.mpr ⟨List.mem_of_getElem? (i := 94) rfl, List.forall_mem_cons.mpr ⟨List.mem_of_getElem? (i := 95) rfl, List.forall_mem_cons.mpr ⟨List.mem_of_getElem? (i := 96) rfl, fun _ h => absurd h List.not_mem_nil⟩⟩⟩⟩⟩⟩⟩⟩⟩
theorem iw_X11_made_X4 : ∀ w ∈ wsX40, w ∈ wsX11_made := List.forall_mem_cons.mpr ⟨List.mem_of_getElem? (i := 99) rfl, fun _ h => absurd h List.not_mem_nil⟩
theorem iw_X11_made_X3 : ∀ w ∈ wsX30, w ∈ wsX11_made := List.forall_mem_cons.mpr ⟨List.mem_of_getElem? (i := 97) rfl, List.forall_mem_cons.mpr ⟨List.mem_of_getElem? (i := 98) rfl, fun _ h => absurd h List.not_mem_nil⟩⟩
theorem iw_X11_made_X6 : ∀ w ∈ wsX60, w ∈ wsX11_made := List.forall_mem_cons.mpr ⟨List.mem_of_getElem? (i := 102) rfl, List.forall_mem_cons.mpr ⟨List.mem_of_getElem? (i := 103) rfl, List.forall_mem_cons.mpr ⟨List.mem_of_getElem? (i := 104) rfl, List.forall_mem_cons.mpr ⟨List.mem_of_getElem? (i := 105) rfl, List.forall_mem_cons.mpr ⟨List.mem_of_getElem? (i := 106) rfl, List.forall_mem_cons.mpr ⟨List.mem_of_getElem? (i := 107) rfl, List.forall_mem_cons.mpr ⟨List.mem_of_getElem? (i := 108) rfl, List.forall_mem_cons.mpr ⟨List.mem_of_getElem? (i := 109) rfl, fun _ h => absurd h List.not_mem_nil⟩⟩⟩⟩⟩⟩⟩⟩
theorem iw_X11_made_X1 : ∀ w ∈ wsX10, w ∈ wsX11_made := List.forall_mem_cons.mpr ⟨List.mem_of_getElem? (i := 100) rfl, List.forall_mem_cons.mpr ⟨List.mem_of_getElem? (i := 101) rfl, fun _ h => absurd h List.not_mem_nil⟩⟩
def f_X11_made (N : Nat) (MC : Nat) (MS : Nat) (v1 : Int32) (sp_unlike : Int32) (sp_number : Int64) (sp_partsKept : Int32) (sp_partsNumber : Int64) (n_row : Nat) (a_row : Nat → Int32) (n_list : Nat) (a_list : Nat → Int32) (a_prime : Nat → Int64) (a_times : Nat → Int32) (a_parts : Nat → Int64) : Option (Int32 × Int32 × Int64 × Int32 × Int64 × Nat × (Nat → Int32) × Nat × (Nat → Int32) × (Nat → Int64) × (Nat → Int32) × (Nat → Int64)) :=
  if 0 ≤ MC ∧ 0 ≤ MS then
    Option.bind (f_X11_within N v1 (1 : Int32) (5000 : Int32)) fun r1z =>
    if r1z = 0 then
      if 0 ≤ MC ∧ 0 ≤ MS then
        some ((-1 : Int32), sp_unlike, sp_number, sp_partsKept, sp_partsNumber, n_row, a_row, n_list, a_list, a_prime, a_times, a_parts)
      else
        none
    else
      if 0 + (if 0 < nI n_list then 0 else 1 + (if nI n_row = 0 then 1 else 0)) ≤ MC ∧ 0 + (if 0 < nI n_list then 0 else 9592 + (if nI n_row = 0 then 50001 else 0)) ≤ MS then
        Option.bind (f_X3_prepare N (if 0 < nI n_list then 0 else 1 + (if nI n_row = 0 then 1 else 0)) (if 0 < nI n_list then 0 else 9592 + (if nI n_row = 0 then 50001 else 0))  n_row a_row n_list a_list) fun r6z =>
        if 0 + (if 0 < nI n_list then 0 else 1 + (if nI n_row = 0 then 1 else 0)) + (if nI r6z.1 = 0 then 1 else 0) ≤ MC ∧ 0 + (if 0 < nI n_list then 0 else 9592 + (if nI n_row = 0 then 50001 else 0)) + (if nI r6z.1 = 0 then 50001 else 0) ≤ MS then
          Option.bind (f_X1_fewest N (if nI r6z.1 = 0 then 1 else 0) (if nI r6z.1 = 0 then 50001 else 0) v1 sp_unlike sp_number sp_partsKept sp_partsNumber r6z.1 r6z.2.1 r6z.2.2.1 r6z.2.2.2 a_prime a_times a_parts) fun r10z =>
          if 0 + (if 0 < nI n_list then 0 else 1 + (if nI n_row = 0 then 1 else 0)) + (if nI r6z.1 = 0 then 1 else 0) ≤ MC ∧ 0 + (if 0 < nI n_list then 0 else 9592 + (if nI n_row = 0 then 50001 else 0)) + (if nI r6z.1 = 0 then 50001 else 0) ≤ MS then
            some (r10z.1, r10z.2.1, r10z.2.2.1, r10z.2.2.2.1, r10z.2.2.2.2.1, r10z.2.2.2.2.2.1, r10z.2.2.2.2.2.2.1, r6z.2.2.1, r6z.2.2.2, r10z.2.2.2.2.2.2.2.1, r10z.2.2.2.2.2.2.2.2.1, r10z.2.2.2.2.2.2.2.2.2)
          else
            none
        else
          none
      else
        none
  else
    none
set_option maxRecDepth 100000 in
set_option maxHeartbeats 4000000 in
theorem k_X11_made_0 {p : Program} {l : Launch} {e : Env} {s : State} {m : MethodId} {args : Array Value} {below : List Frame} {meth : Method} {c : Code} {dC : Nat → ClassId} {dI : Nat → Nat → Nat} {cyI cyJ cyZ : ClassId} {A : Nat → Prop} (C0 : mC p s m meth c args cX11_made (some .int) 2 RX11 wsX11_made (gK dC dI cyI cyJ cyZ) A) (N : Nat) (MC MS : Nat) (res : Int32 × Int32 × Int64 × Int32 × Int64 × Nat × (Nat → Int32) × Nat × (Nat → Int32) × (Nat → Int64) × (Nat → Int32) × (Nat → Int64)) (q_G : Nat) (q_Sc : Nat) (q_Pr : Nat) (q_Sp : Nat) (q_Mk : Nat) (q_prime : Nat) (q_times : Nat) (q_parts : Nat) (q_Ch : Nat) (q_Tb : Nat) (q_Sk : Nat) (q_Wh : Nat) (q_Tr : Nat) (q_Ws : Nat) (v1 : Int32) (sp_unlike : Int32) (sp_number : Int64) (sp_partsKept : Int32) (sp_partsNumber : Int64) (n_row : Nat) (a_row : Nat → Int32) (n_list : Nat) (a_list : Nat → Int32) (a_prime : Nat → Int64) (a_times : Nat → Int32) (a_parts : Nat → Int64) (q_row : Nat) (q_list : Nat) (h : f_X11_made N MC MS v1 sp_unlike sp_number sp_partsKept sp_partsNumber n_row a_row n_list a_list a_prime a_times a_parts = some res) : ∀ (H : Heap) (locs : List Loc), va_P (dC, dI) vwCl (wd50 cyI cyJ cyZ q_G q_Sc q_Pr q_Sp q_Mk q_row q_list q_prime q_times q_parts q_Ch q_Tb q_Sk q_Wh q_Tr q_Ws sp_unlike sp_number sp_partsKept sp_partsNumber n_row a_row n_list a_list a_prime a_times a_parts) H → va_D A (wd50 cyI cyJ cyZ q_G q_Sc q_Pr q_Sp q_Mk q_row q_list q_prime q_times q_parts q_Ch q_Tb q_Sk q_Wh q_Tr q_Ws sp_unlike sp_number sp_partsKept sp_partsNumber n_row a_row n_list a_list a_prime a_times a_parts) → va_S A s.heap H locs → ∀ (ls : Array Slot), lv_has ls 2 [(0, .ref q_G), (1, .int v1)] → W p l e (headSpec wsX11_made (rm_X11_made MC MS)).room s m args below meth c H locs 0 0 (MQ below (va_Qi (fun (r : Int32) (_ : Nat × Nat) => r = res.1) (bW dC dI (fun (u : Nat × Nat) => (wd50 cyI cyJ cyZ q_G q_Sc q_Pr q_Sp q_Mk u.1 u.2 q_prime q_times q_parts q_Ch q_Tb q_Sk q_Wh q_Tr q_Ws res.2.1 res.2.2.1 res.2.2.2.1 res.2.2.2.2.1 res.2.2.2.2.2.1 res.2.2.2.2.2.2.1 res.2.2.2.2.2.2.2.1 res.2.2.2.2.2.2.2.2.1 res.2.2.2.2.2.2.2.2.2.1 res.2.2.2.2.2.2.2.2.2.2.1 res.2.2.2.2.2.2.2.2.2.2.2)) A) A) args s MC MS A) (F0 m 0 ls []) := by
  obtain ⟨hx, hb, hr, hml, hown, hts, hlocks, hG, hA⟩ := id C0
  have hK := hG.1
  intro H locs hP hD hS ls hl
  unfold f_X11_made at h
  refine lv_iload_n hx hb dX11_made_0 rfl (lv_at hl 1 rfl) ?_
  refine lv_iconst (v := (1 : Int32)) hx hb dX11_made_1 (by decide) ?_
  refine lv_sipush (v := (5000 : Int32)) hx hb dX11_made_2 (by decide) ?_
  obtain ⟨b2z, h⟩ := xa h
  obtain ⟨r1z, hr1z, h⟩ := xb_at h
  have hPc := hP.sub (ws' := (wd37 cyI cyJ cyZ)) [] rfl
  have hDc := hD.sub (ws' := (wd37 cyI cyJ cyZ)) [] (by decide) rfl
  refine cal_i [] [0, 1, 2, 3, 4, 5, 6, 7, 8, 9] (va_runS (As := [.int v1, .int (1 : Int32), .int (5000 : Int32)]) (rest := []) ⟨hx, hb, hml, hown, hts⟩ (c_X11_within l dC dI cyI cyJ cyZ N r1z H.size  v1 (1 : Int32) (5000 : Int32)  hr1z) (va_cwS 3 hts gX11_made_X11_within rfl rfl rfl hd_X11_within ⟨Nat.le_of_ble_eq_true rfl, Nat.le_of_ble_eq_true rfl⟩) ⟨pC.blind, pC.pre hPc hG hDc⟩ rfl rfl hl.1 rfl (lv_room (Nat.le_of_ble_eq_true rfl)) dX11_made_5 ⟨b2z.1, b2z.2⟩) hP hD hS hA rfl rfl rfl (by decide) (fun x4z u3z H locs hw hP hD hS => ?_)
  obtain rfl := hw.symm
  have hP : va_P (dC, dI) vwCl (wd50 cyI cyJ cyZ q_G q_Sc q_Pr q_Sp q_Mk q_row q_list q_prime q_times q_parts q_Ch q_Tb q_Sk q_Wh q_Tr q_Ws sp_unlike sp_number sp_partsKept sp_partsNumber n_row a_row n_list a_list a_prime a_times a_parts) H := hP.sub [0, 1, 2, 3, 4, 5, 6, 7, 8, 9] rfl
  have hD : va_D A (wd50 cyI cyJ cyZ q_G q_Sc q_Pr q_Sp q_Mk q_row q_list q_prime q_times q_parts q_Ch q_Tb q_Sk q_Wh q_Tr q_Ws sp_unlike sp_number sp_partsKept sp_partsNumber n_row a_row n_list a_list a_prime a_times a_parts) := hD.sub [0, 1, 2, 3, 4, 5, 6, 7, 8, 9] (by decide) rfl
  refine lv_if_ne (tgt := 13) hx hb dX11_made_8 (by decide) (fun c5z => ?_) (fun c5z => ?_)
  · have h := xf h c5z
    refine lv_aload_n hx hb dX11_made_13 rfl (lv_at hl 0 rfl) ?_
    refine va_get (D := (dC, dI)) (ci := 11) (v := .ref q_Pr) (C := RX11) (T := TX11) (N := 9) hx hb hts iw_X11_made_X11 hown hK hP 0 rfl rfl 0 (by decide) (hts (.fieldLink RX11 15 "GoesInto" "primes" "LGoesInto$Primes;") (List.mem_of_getElem? (i := 1) rfl)) (fun _ h9 => h9) rfl dX11_made_14 ?_
    obtain ⟨b7z, h⟩ := xa h
    obtain ⟨r6z, hr6z, h⟩ := xb_at h
    have hPc := hP.sub (ws' := (wd11 cyI cyJ cyZ q_Sc q_Pr q_row q_list n_row a_row n_list a_list)) [1, 2, 5, 6] rfl
    have hDc := hD.sub (ws' := (wd11 cyI cyJ cyZ q_Sc q_Pr q_row q_list n_row a_row n_list a_list)) [1, 2, 5, 6] (by decide) rfl
    refine cal_v [1, 2, 5, 6] [0, 3, 4, 7, 8, 9] (va_runV (As := []) (rest := []) ⟨hx, hb, hml, hown, hts⟩ (c_X3_prepare l dC dI cyI cyJ cyZ N (if 0 < nI n_list then 0 else 1 + (if nI n_row = 0 then 1 else 0)) (if 0 < nI n_list then 0 else 9592 + (if nI n_row = 0 then 50001 else 0)) r6z H.size q_Sc q_Pr q_row q_list  n_row a_row n_list a_list hr6z) (cwV 0 hts gX11_made_X3_prepare rfl rfl rfl ⟨rfl, hd_X3_prepare⟩ ⟨Nat.le_of_ble_eq_true rfl, Nat.le_of_ble_eq_true rfl⟩) ⟨pC.blind, va_recv hK hPc (ci := 3) (q0 := 1) rfl rfl, pC.pre hPc hG hDc⟩ rfl rfl hl.1 rfl (lv_room (Nat.le_of_ble_eq_true rfl)) dX11_made_17 ⟨b7z.1, b7z.2⟩) hP hD hS hA rfl rfl rfl (by decide) (fun u8z H locs _ hP hD hS => ?_)
    have hP : va_P (dC, dI) vwCl (wd50 cyI cyJ cyZ q_G q_Sc q_Pr q_Sp q_Mk u8z.1 u8z.2 q_prime q_times q_parts q_Ch q_Tb q_Sk q_Wh q_Tr q_Ws sp_unlike sp_number sp_partsKept sp_partsNumber r6z.1 r6z.2.1 r6z.2.2.1 r6z.2.2.2 a_prime a_times a_parts) H := hP.sub [0, 6, 7, 1, 2, 8, 9, 3, 4, 5] rfl
    have hD : va_D A (wd50 cyI cyJ cyZ q_G q_Sc q_Pr q_Sp q_Mk u8z.1 u8z.2 q_prime q_times q_parts q_Ch q_Tb q_Sk q_Wh q_Tr q_Ws sp_unlike sp_number sp_partsKept sp_partsNumber r6z.1 r6z.2.1 r6z.2.2.1 r6z.2.2.2 a_prime a_times a_parts) := hD.sub [0, 6, 7, 1, 2, 8, 9, 3, 4, 5] (by decide) rfl
    refine lv_aload_n hx hb dX11_made_20 rfl (lv_at hl 0 rfl) ?_
    refine va_get (D := (dC, dI)) (ci := 11) (v := .ref q_Mk) (C := RX11) (T := TX11) (N := 9) hx hb hts iw_X11_made_X11 hown hK hP 0 rfl rfl 6 (by decide) (hts (.fieldLink RX11 69 "GoesInto" "maker" "LGoesInto$Maker;") (List.mem_of_getElem? (i := 2) rfl)) (fun _ h9 => h9) rfl dX11_made_21 ?_
    refine lv_iload_n hx hb dX11_made_24 rfl (lv_at hl 1 rfl) ?_
    obtain ⟨b11z, h⟩ := xa h
    obtain ⟨r10z, hr10z, h⟩ := xb_at h
    have hPc := hP.sub (ws' := (wd31 cyI cyJ cyZ q_Sc q_Pr q_Sp q_Mk u8z.1 u8z.2 q_prime q_times q_parts sp_unlike sp_number sp_partsKept sp_partsNumber r6z.1 r6z.2.1 r6z.2.2.1 r6z.2.2.2 a_prime a_times a_parts)) [1, 2, 3, 4, 5, 6, 7, 8, 9] rfl
    have hDc := hD.sub (ws' := (wd31 cyI cyJ cyZ q_Sc q_Pr q_Sp q_Mk u8z.1 u8z.2 q_prime q_times q_parts sp_unlike sp_number sp_partsKept sp_partsNumber r6z.1 r6z.2.1 r6z.2.2.1 r6z.2.2.2 a_prime a_times a_parts)) [1, 2, 3, 4, 5, 6, 7, 8, 9] (by decide) rfl
    refine cal_i [1, 2, 3, 4, 5, 6, 7, 8, 9] [0] (va_runV (As := [.int v1]) (rest := []) ⟨hx, hb, hml, hown, hts⟩ (c_X1_fewest l dC dI cyI cyJ cyZ N (if nI r6z.1 = 0 then 1 else 0) (if nI r6z.1 = 0 then 50001 else 0) r10z H.size q_Sc q_Pr q_Sp q_Mk u8z.1 u8z.2 q_prime q_times q_parts v1 sp_unlike sp_number sp_partsKept sp_partsNumber r6z.1 r6z.2.1 r6z.2.2.1 r6z.2.2.2 a_prime a_times a_parts hr10z) (cwV 1 hts gX11_made_X1_fewest rfl rfl rfl ⟨rfl, hd_X1_fewest⟩ ⟨Nat.le_of_ble_eq_true rfl, Nat.le_of_ble_eq_true rfl⟩) ⟨pC.blind, va_recv hK hPc (ci := 1) (q0 := 3) rfl rfl, pC.pre hPc hG hDc⟩ rfl rfl hl.1 rfl (lv_room (Nat.le_of_ble_eq_true rfl)) dX11_made_25 ⟨b11z.1, b11z.2⟩) hP hD hS hA rfl rfl rfl (by decide) (fun x13z u12z H locs hw hP hD hS => ?_)
    obtain rfl := hw.symm
    have hP : va_P (dC, dI) vwCl (wd50 cyI cyJ cyZ q_G q_Sc q_Pr q_Sp q_Mk u12z u8z.2 q_prime q_times q_parts q_Ch q_Tb q_Sk q_Wh q_Tr q_Ws r10z.2.1 r10z.2.2.1 r10z.2.2.2.1 r10z.2.2.2.2.1 r10z.2.2.2.2.2.1 r10z.2.2.2.2.2.2.1 r6z.2.2.1 r6z.2.2.2 r10z.2.2.2.2.2.2.2.1 r10z.2.2.2.2.2.2.2.2.1 r10z.2.2.2.2.2.2.2.2.2) H := hP.sub [0, 1, 2, 3, 4, 5, 6, 7, 8, 9] rfl
    have hD : va_D A (wd50 cyI cyJ cyZ q_G q_Sc q_Pr q_Sp q_Mk u12z u8z.2 q_prime q_times q_parts q_Ch q_Tb q_Sk q_Wh q_Tr q_Ws r10z.2.1 r10z.2.2.1 r10z.2.2.2.1 r10z.2.2.2.2.1 r10z.2.2.2.2.2.1 r10z.2.2.2.2.2.2.1 r6z.2.2.1 r6z.2.2.2 r10z.2.2.2.2.2.2.2.1 r10z.2.2.2.2.2.2.2.2.1 r10z.2.2.2.2.2.2.2.2.2) := hD.sub [0, 1, 2, 3, 4, 5, 6, 7, 8, 9] (by decide) rfl
    obtain ⟨b14z, h⟩ := xa h
    refine W.widen (k := MC) (n := MS) b14z.1 b14z.2 ?_
    obtain rfl := Option.some.inj h
    exact W.iret (v := r10z.1) hx hb hr (fun t ht hW => ⟨⟨_, (u12z, u8z.2), rfl, rfl, by rw [ht]; exact hP, hD⟩, hS.F ht⟩) hS.2.2 dX11_made_28 hlocks
  · have h := xt h c5z
    refine lv_iconst (v := (-1 : Int32)) hx hb dX11_made_11 (by decide) ?_
    obtain ⟨b15z, h⟩ := xa h
    refine W.widen (k := MC) (n := MS) b15z.1 b15z.2 ?_
    obtain rfl := Option.some.inj h
    exact W.iret (v := (-1 : Int32)) hx hb hr (fun t ht hW => ⟨⟨_, (q_row, q_list), rfl, rfl, by rw [ht]; exact hP, hD⟩, hS.F ht⟩) hS.2.2 dX11_made_12 hlocks
set_option maxRecDepth 100000 in
set_option maxHeartbeats 4000000 in
theorem c_X11_made (l : Launch) (dC : Nat → ClassId) (dI : Nat → Nat → Nat) (cyI cyJ cyZ : ClassId) (N : Nat) (MC MS : Nat) (res : Int32 × Int32 × Int64 × Int32 × Int64 × Nat × (Nat → Int32) × Nat × (Nat → Int32) × (Nat → Int64) × (Nat → Int32) × (Nat → Int64)) (sz : Nat) (q_G : Nat) (q_Sc : Nat) (q_Pr : Nat) (q_Sp : Nat) (q_Mk : Nat) (q_row : Nat) (q_list : Nat) (q_prime : Nat) (q_times : Nat) (q_parts : Nat) (q_Ch : Nat) (q_Tb : Nat) (q_Sk : Nat) (q_Wh : Nat) (q_Tr : Nat) (q_Ws : Nat) (v1 : Int32) (sp_unlike : Int32) (sp_number : Int64) (sp_partsKept : Int32) (sp_partsNumber : Int64) (n_row : Nat) (a_row : Nat → Int32) (n_list : Nat) (a_list : Nat → Int32) (a_prime : Nat → Int64) (a_times : Nat → Int32) (a_parts : Nat → Int64) (h : f_X11_made N MC MS v1 sp_unlike sp_number sp_partsKept sp_partsNumber n_row a_row n_list a_list a_prime a_times a_parts = some res) : Met l yX11_made wsX11_made (rm_X11_made MC MS) (pC dC dI cyI cyJ cyZ [.ref q_G, .int v1] sz (wd50 cyI cyJ cyZ q_G q_Sc q_Pr q_Sp q_Mk q_row q_list q_prime q_times q_parts q_Ch q_Tb q_Sk q_Wh q_Tr q_Ws sp_unlike sp_number sp_partsKept sp_partsNumber n_row a_row n_list a_list a_prime a_times a_parts)) (va_Qi (fun (r : Int32) (_ : Nat × Nat) => r = res.1) (bW dC dI (fun (u : Nat × Nat) => (wd50 cyI cyJ cyZ q_G q_Sc q_Pr q_Sp q_Mk u.1 u.2 q_prime q_times q_parts q_Ch q_Tb q_Sk q_Wh q_Tr q_Ws res.2.1 res.2.2.1 res.2.2.2.1 res.2.2.2.2.1 res.2.2.2.2.2.1 res.2.2.2.2.2.2.1 res.2.2.2.2.2.2.2.1 res.2.2.2.2.2.2.2.2.1 res.2.2.2.2.2.2.2.2.2.1 res.2.2.2.2.2.2.2.2.2.2.1 res.2.2.2.2.2.2.2.2.2.2.2)) (va_A (wd50 cyI cyJ cyZ q_G q_Sc q_Pr q_Sp q_Mk q_row q_list q_prime q_times q_parts q_Ch q_Tb q_Sk q_Wh q_Tr q_Ws sp_unlike sp_number sp_partsKept sp_partsNumber n_row a_row n_list a_list a_prime a_times a_parts) sz)) (va_A (wd50 cyI cyJ cyZ q_G q_Sc q_Pr q_Sp q_Mk q_row q_list q_prime q_times q_parts q_Ch q_Tb q_Sk q_Wh q_Tr q_Ws sp_unlike sp_number sp_partsKept sp_partsNumber n_row a_row n_list a_list a_prime a_times a_parts) sz)) MC MS (va_A (wd50 cyI cyJ cyZ q_G q_Sc q_Pr q_Sp q_Mk q_row q_list q_prime q_times q_parts q_Ch q_Tb q_Sk q_Wh q_Tr q_Ws sp_unlike sp_number sp_partsKept sp_partsNumber n_row a_row n_list a_list a_prime a_times a_parts) sz) := by
  refine Met.ofW (cc := cX11_made) (maxL := 2) (ret := (some .int)) (by decide) rfl ?_
  intro p e s m args below meth c s₁ B hml hv
  obtain ⟨rfl, hsz, hP, hG, hD0⟩ := hv
  have hx := B.exec
  have hb := B.bytes
  have hr := B.returns
  have hts := atoms_spec (ws := wsX11_made) B.pre
  have hown : s.vm.findClass RX11 = some m.cls := findClass_of_methodNamed B.named
  have hlocks := B.notSynchronized
  subst hsz
  have hD := hD0.self (sz := s.heap.size)
  generalize hAe : va_A (wd50 cyI cyJ cyZ q_G q_Sc q_Pr q_Sp q_Mk q_row q_list q_prime q_times q_parts q_Ch q_Tb q_Sk q_Wh q_Tr q_Ws sp_unlike sp_number sp_partsKept sp_partsNumber n_row a_row n_list a_list a_prime a_times a_parts) s.heap.size = A at hD ⊢
  have hA : ∀ q : Nat, s.heap.size ≤ q → A q := fun q h => by rw [← hAe]; exact Or.inr h
  have hS : va_S A s.heap s.heap [] := va_S.rf
  have hl := lv_entry ([.ref q_G, .int v1]) (n := 2) (Nat.le_of_ble_eq_true rfl)
  rw [lg_entry_eq]
  generalize (lg_sl ([.ref q_G, .int v1]) ++ List.replicate (2 - (lg_sl ([.ref q_G, .int v1])).length) Slot.unset).toArray = ls at hl ⊢
  have hl : lv_has ls 2 [(0, .ref q_G), (1, .int v1)] := hl
  exact k_X11_made_0 ⟨hx, hb, hr, hml, hown, hts, hlocks, hG, hA⟩ N MC MS res q_G q_Sc q_Pr q_Sp q_Mk q_prime q_times q_parts q_Ch q_Tb q_Sk q_Wh q_Tr q_Ws v1 sp_unlike sp_number sp_partsKept sp_partsNumber n_row a_row n_list a_list a_prime a_times a_parts q_row q_list h _ _ hP hD hS _ hl
abbrev rm_X11_falling (MC MS : Nat) : Room := { frames := 4, cells := MC, slots := MS, locals := 87 }
theorem hd_X11_falling : yX11_falling.cls ≠ "java/lang/invoke/MethodHandle" ∧ yX11_falling.cls ≠ "java/lang/invoke/VarHandle" ∧ (parseMethodDescriptor yX11_falling.desc).map (fun d => d.parameters.length) = some 4 := by decide +kernel
theorem iw_X11_falling_X11 : ∀ w ∈ wsX110, w ∈ wsX11_falling := List.forall_mem_cons.mpr ⟨List.mem_of_getElem? (i := 64) rfl, List.forall_mem_cons.mpr ⟨List.mem_of_getElem? (i := 65) rfl, List.forall_mem_cons.mpr ⟨List.mem_of_getElem? (i := 66) rfl, List.forall_mem_cons.mpr ⟨List.mem_of_getElem? (i := 67) rfl, List.forall_mem_cons.mpr ⟨List.mem_of_getElem? (i := 68) rfl, List.forall_mem_cons.mpr ⟨List.mem_of_getElem? (i := 69) rfl, List.forall_mem_cons.mpr ⟨List.mem_of_getElem? (i := 70) rfl, List.forall_mem_cons.mpr ⟨List.mem_of_getElem? (i := 71) rfl, List.forall_mem_cons.mpr ⟨List.mem_of_getElem? (i := 72) rfl, fun _ h => absurd h List.not_mem_nil⟩⟩⟩⟩⟩⟩⟩⟩⟩
theorem iw_X11_falling_X4 : ∀ w ∈ wsX40, w ∈ wsX11_falling := List.forall_mem_cons.mpr ⟨List.mem_of_getElem? (i := 76) rfl, fun _ h => absurd h List.not_mem_nil⟩
theorem iw_X11_falling_X7 : ∀ w ∈ wsX70, w ∈ wsX11_falling := List.forall_mem_cons.mpr ⟨List.mem_of_getElem? (i := 73) rfl, List.forall_mem_cons.mpr ⟨List.mem_of_getElem? (i := 74) rfl, List.forall_mem_cons.mpr ⟨List.mem_of_getElem? (i := 75) rfl, fun _ h => absurd h List.not_mem_nil⟩⟩⟩
theorem iw_X11_falling_X5 : ∀ w ∈ wsX50, w ∈ wsX11_falling := List.forall_mem_cons.mpr ⟨List.mem_of_getElem? (i := 77) rfl, List.forall_mem_cons.mpr ⟨List.mem_of_getElem? (i := 78) rfl, List.forall_mem_cons.mpr ⟨List.mem_of_getElem? (i := 79) rfl, fun _ h => absurd h List.not_mem_nil⟩⟩⟩
def f_X11_falling (N : Nat) (MC : Nat) (MS : Nat) (v1 : Int32) (v2 : Int32) (v3 : Int32) (v4 : Int32) (n_row : Nat) (a_row : Nat → Int32) (n_all : Nat) (a_all : Nat → Int32) (n_apart : Nat) (a_apart : Nat → Int32) : Option (Int32 × Nat × (Nat → Int32) × Nat × (Nat → Int32) × Nat × (Nat → Int32)) :=
  if 0 ≤ MC ∧ 0 ≤ MS then
    Option.bind (f_X11_within N v1 (1 : Int32) (3 : Int32)) fun r1z =>
    if r1z = 0 then
      if 0 ≤ MC ∧ 0 ≤ MS then
        some ((-1 : Int32), n_row, a_row, n_all, a_all, n_apart, a_apart)
      else
        none
    else
      if 0 ≤ MC ∧ 0 ≤ MS then
        Option.bind (f_X11_isBound N v2) fun r7z =>
        if r7z = 0 then
          if 0 ≤ MC ∧ 0 ≤ MS then
            some ((-1 : Int32), n_row, a_row, n_all, a_all, n_apart, a_apart)
          else
            none
        else
          if 0 ≤ MC ∧ 0 ≤ MS then
            Option.bind (f_X11_within N v3 (0 : Int32) (50 : Int32)) fun r13z =>
            if r13z = 0 then
              if 0 ≤ MC ∧ 0 ≤ MS then
                some ((-1 : Int32), n_row, a_row, n_all, a_all, n_apart, a_apart)
              else
                none
            else
              if 0 ≤ MC ∧ 0 ≤ MS then
                Option.bind (f_X11_isBound N v4) fun r19z =>
                if r19z = 0 then
                  if 0 ≤ MC ∧ 0 ≤ MS then
                    some ((-1 : Int32), n_row, a_row, n_all, a_all, n_apart, a_apart)
                  else
                    none
                else
                  if 0 + (if 0 < nI n_all then 0 else 2 + (if nI n_row = 0 then 1 else 0)) ≤ MC ∧ 0 + (if 0 < nI n_all then 0 else 100002 + (if nI n_row = 0 then 50001 else 0)) ≤ MS then
                    Option.bind (f_X7_prepare N (if 0 < nI n_all then 0 else 2 + (if nI n_row = 0 then 1 else 0)) (if 0 < nI n_all then 0 else 100002 + (if nI n_row = 0 then 50001 else 0))  n_row a_row n_all a_all n_apart a_apart) fun r24z =>
                    if 0 + (if 0 < nI n_all then 0 else 2 + (if nI n_row = 0 then 1 else 0)) + (if nI r24z.1 = 0 then 1 else 0) ≤ MC ∧ 0 + (if 0 < nI n_all then 0 else 100002 + (if nI n_row = 0 then 50001 else 0)) + (if nI r24z.1 = 0 then 50001 else 0) ≤ MS then
                      Option.bind (f_X5_howManyFall N (if nI r24z.1 = 0 then 1 else 0) (if nI r24z.1 = 0 then 50001 else 0) v1 v2 v3 v4 r24z.1 r24z.2.1 r24z.2.2.1 r24z.2.2.2.1 r24z.2.2.2.2.1 r24z.2.2.2.2.2) fun r28z =>
                      if 0 + (if 0 < nI n_all then 0 else 2 + (if nI n_row = 0 then 1 else 0)) + (if nI r24z.1 = 0 then 1 else 0) ≤ MC ∧ 0 + (if 0 < nI n_all then 0 else 100002 + (if nI n_row = 0 then 50001 else 0)) + (if nI r24z.1 = 0 then 50001 else 0) ≤ MS then
                        some (r28z.1, r28z.2.1, r28z.2.2, r24z.2.2.1, r24z.2.2.2.1, r24z.2.2.2.2.1, r24z.2.2.2.2.2)
                      else
                        none
                    else
                      none
                  else
                    none
              else
                none
          else
            none
      else
        none
  else
    none
set_option maxRecDepth 100000 in
set_option maxHeartbeats 4000000 in
theorem k_X11_falling_0 {p : Program} {l : Launch} {e : Env} {s : State} {m : MethodId} {args : Array Value} {below : List Frame} {meth : Method} {c : Code} {dC : Nat → ClassId} {dI : Nat → Nat → Nat} {cyI cyJ cyZ : ClassId} {A : Nat → Prop} (C0 : mC p s m meth c args cX11_falling (some .int) 5 RX11 wsX11_falling (gK dC dI cyI cyJ cyZ) A) (N : Nat) (MC MS : Nat) (res : Int32 × Nat × (Nat → Int32) × Nat × (Nat → Int32) × Nat × (Nat → Int32)) (q_G : Nat) (q_Sc : Nat) (q_Tb : Nat) (q_Sk : Nat) (q_Pr : Nat) (q_Sp : Nat) (q_Ch : Nat) (q_Wh : Nat) (q_Mk : Nat) (q_Tr : Nat) (q_Ws : Nat) (q_Pk1 : Nat) (v1 : Int32) (v2 : Int32) (v3 : Int32) (v4 : Int32) (n_row : Nat) (a_row : Nat → Int32) (n_all : Nat) (a_all : Nat → Int32) (n_apart : Nat) (a_apart : Nat → Int32) (q_row : Nat) (q_all : Nat) (q_apart : Nat) (h : f_X11_falling N MC MS v1 v2 v3 v4 n_row a_row n_all a_all n_apart a_apart = some res) : ∀ (H : Heap) (locs : List Loc), va_P (dC, dI) vwCl (wd48 cyI cyJ cyZ q_G q_Sc q_Tb q_Sk q_row q_all q_apart q_Pr q_Sp q_Ch q_Wh q_Mk q_Tr q_Ws q_Pk1 n_row a_row n_all a_all n_apart a_apart) H → va_D A (wd48 cyI cyJ cyZ q_G q_Sc q_Tb q_Sk q_row q_all q_apart q_Pr q_Sp q_Ch q_Wh q_Mk q_Tr q_Ws q_Pk1 n_row a_row n_all a_all n_apart a_apart) → va_S A s.heap H locs → ∀ (ls : Array Slot), lv_has ls 5 [(0, .ref q_G), (1, .int v1), (2, .int v2), (3, .int v3), (4, .int v4)] → W p l e (headSpec wsX11_falling (rm_X11_falling MC MS)).room s m args below meth c H locs 0 0 (MQ below (va_Qi (fun (r : Int32) (_ : Nat × Nat × Nat) => r = res.1) (bW dC dI (fun (u : Nat × Nat × Nat) => (wd48 cyI cyJ cyZ q_G q_Sc q_Tb q_Sk u.1 u.2.1 u.2.2 q_Pr q_Sp q_Ch q_Wh q_Mk q_Tr q_Ws q_Pk1 res.2.1 res.2.2.1 res.2.2.2.1 res.2.2.2.2.1 res.2.2.2.2.2.1 res.2.2.2.2.2.2)) A) A) args s MC MS A) (F0 m 0 ls []) := by
  obtain ⟨hx, hb, hr, hml, hown, hts, hlocks, hG, hA⟩ := id C0
  have hK := hG.1
  intro H locs hP hD hS ls hl
  unfold f_X11_falling at h
  refine lv_iload_n hx hb dX11_falling_0 rfl (lv_at hl 1 rfl) ?_
  refine lv_iconst (v := (1 : Int32)) hx hb dX11_falling_1 (by decide) ?_
  refine lv_iconst (v := (3 : Int32)) hx hb dX11_falling_2 (by decide) ?_
  obtain ⟨b2z, h⟩ := xa h
  obtain ⟨r1z, hr1z, h⟩ := xb_at h
  have hPc := hP.sub (ws' := (wd37 cyI cyJ cyZ)) [] rfl
  have hDc := hD.sub (ws' := (wd37 cyI cyJ cyZ)) [] (by decide) rfl
  refine cal_i [] [0, 1, 2, 3, 4, 5, 6] (va_runS (As := [.int v1, .int (1 : Int32), .int (3 : Int32)]) (rest := []) ⟨hx, hb, hml, hown, hts⟩ (c_X11_within l dC dI cyI cyJ cyZ N r1z H.size  v1 (1 : Int32) (3 : Int32)  hr1z) (va_cwS 3 hts gX11_falling_X11_within rfl rfl rfl hd_X11_within ⟨Nat.le_of_ble_eq_true rfl, Nat.le_of_ble_eq_true rfl⟩) ⟨pC.blind, pC.pre hPc hG hDc⟩ rfl rfl hl.1 rfl (lv_room (Nat.le_of_ble_eq_true rfl)) dX11_falling_3 ⟨b2z.1, b2z.2⟩) hP hD hS hA rfl rfl rfl (by decide) (fun x4z u3z H locs hw hP hD hS => ?_)
  obtain rfl := hw.symm
  have hP : va_P (dC, dI) vwCl (wd48 cyI cyJ cyZ q_G q_Sc q_Tb q_Sk q_row q_all q_apart q_Pr q_Sp q_Ch q_Wh q_Mk q_Tr q_Ws q_Pk1 n_row a_row n_all a_all n_apart a_apart) H := hP.sub [0, 1, 2, 3, 4, 5, 6] rfl
  have hD : va_D A (wd48 cyI cyJ cyZ q_G q_Sc q_Tb q_Sk q_row q_all q_apart q_Pr q_Sp q_Ch q_Wh q_Mk q_Tr q_Ws q_Pk1 n_row a_row n_all a_all n_apart a_apart) := hD.sub [0, 1, 2, 3, 4, 5, 6] (by decide) rfl
  refine lv_if_eq (tgt := 34) hx hb dX11_falling_6 (by decide) (fun c5z => ?_) (fun c5z => ?_)
  · have h := xt h c5z
    refine lv_iconst (v := (-1 : Int32)) hx hb dX11_falling_34 (by decide) ?_
    obtain ⟨b6z, h⟩ := xa h
    refine W.widen (k := MC) (n := MS) b6z.1 b6z.2 ?_
    obtain rfl := Option.some.inj h
    exact W.iret (v := (-1 : Int32)) hx hb hr (fun t ht hW => ⟨⟨_, (q_row, q_all, q_apart), rfl, rfl, by rw [ht]; exact hP, hD⟩, hS.F ht⟩) hS.2.2 dX11_falling_35 hlocks
  · have h := xf h c5z
    refine lv_iload_n hx hb dX11_falling_9 rfl (lv_at hl 2 rfl) ?_
    obtain ⟨b8z, h⟩ := xa h
    obtain ⟨r7z, hr7z, h⟩ := xb_at h
    have hPc := hP.sub (ws' := (wd37 cyI cyJ cyZ)) [] rfl
    have hDc := hD.sub (ws' := (wd37 cyI cyJ cyZ)) [] (by decide) rfl
    refine cal_i [] [0, 1, 2, 3, 4, 5, 6] (va_runS (As := [.int v2]) (rest := []) ⟨hx, hb, hml, hown, hts⟩ (c_X11_isBound l dC dI cyI cyJ cyZ N r7z H.size  v2  hr7z) (va_cwS 1 hts gX11_falling_X11_isBound rfl rfl rfl hd_X11_isBound ⟨Nat.le_of_ble_eq_true rfl, Nat.le_of_ble_eq_true rfl⟩) ⟨pC.blind, pC.pre hPc hG hDc⟩ rfl rfl hl.1 rfl (lv_room (Nat.le_of_ble_eq_true rfl)) dX11_falling_10 ⟨b8z.1, b8z.2⟩) hP hD hS hA rfl rfl rfl (by decide) (fun x10z u9z H locs hw hP hD hS => ?_)
    obtain rfl := hw.symm
    have hP : va_P (dC, dI) vwCl (wd48 cyI cyJ cyZ q_G q_Sc q_Tb q_Sk q_row q_all q_apart q_Pr q_Sp q_Ch q_Wh q_Mk q_Tr q_Ws q_Pk1 n_row a_row n_all a_all n_apart a_apart) H := hP.sub [0, 1, 2, 3, 4, 5, 6] rfl
    have hD : va_D A (wd48 cyI cyJ cyZ q_G q_Sc q_Tb q_Sk q_row q_all q_apart q_Pr q_Sp q_Ch q_Wh q_Mk q_Tr q_Ws q_Pk1 n_row a_row n_all a_all n_apart a_apart) := hD.sub [0, 1, 2, 3, 4, 5, 6] (by decide) rfl
    refine lv_if_eq (tgt := 34) hx hb dX11_falling_13 (by decide) (fun c11z => ?_) (fun c11z => ?_)
    · have h := xt h c11z
      refine lv_iconst (v := (-1 : Int32)) hx hb dX11_falling_34 (by decide) ?_
      obtain ⟨b12z, h⟩ := xa h
      refine W.widen (k := MC) (n := MS) b12z.1 b12z.2 ?_
      obtain rfl := Option.some.inj h
      exact W.iret (v := (-1 : Int32)) hx hb hr (fun t ht hW => ⟨⟨_, (q_row, q_all, q_apart), rfl, rfl, by rw [ht]; exact hP, hD⟩, hS.F ht⟩) hS.2.2 dX11_falling_35 hlocks
    · have h := xf h c11z
      refine lv_iload_n hx hb dX11_falling_16 rfl (lv_at hl 3 rfl) ?_
      refine lv_iconst (v := (0 : Int32)) hx hb dX11_falling_17 (by decide) ?_
      refine lv_bipush (v := (50 : Int32)) hx hb dX11_falling_18 (by decide) ?_
      obtain ⟨b14z, h⟩ := xa h
      obtain ⟨r13z, hr13z, h⟩ := xb_at h
      have hPc := hP.sub (ws' := (wd37 cyI cyJ cyZ)) [] rfl
      have hDc := hD.sub (ws' := (wd37 cyI cyJ cyZ)) [] (by decide) rfl
      refine cal_i [] [0, 1, 2, 3, 4, 5, 6] (va_runS (As := [.int v3, .int (0 : Int32), .int (50 : Int32)]) (rest := []) ⟨hx, hb, hml, hown, hts⟩ (c_X11_within l dC dI cyI cyJ cyZ N r13z H.size  v3 (0 : Int32) (50 : Int32)  hr13z) (va_cwS 3 hts gX11_falling_X11_within rfl rfl rfl hd_X11_within ⟨Nat.le_of_ble_eq_true rfl, Nat.le_of_ble_eq_true rfl⟩) ⟨pC.blind, pC.pre hPc hG hDc⟩ rfl rfl hl.1 rfl (lv_room (Nat.le_of_ble_eq_true rfl)) dX11_falling_20 ⟨b14z.1, b14z.2⟩) hP hD hS hA rfl rfl rfl (by decide) (fun x16z u15z H locs hw hP hD hS => ?_)
      obtain rfl := hw.symm
      have hP : va_P (dC, dI) vwCl (wd48 cyI cyJ cyZ q_G q_Sc q_Tb q_Sk q_row q_all q_apart q_Pr q_Sp q_Ch q_Wh q_Mk q_Tr q_Ws q_Pk1 n_row a_row n_all a_all n_apart a_apart) H := hP.sub [0, 1, 2, 3, 4, 5, 6] rfl
      have hD : va_D A (wd48 cyI cyJ cyZ q_G q_Sc q_Tb q_Sk q_row q_all q_apart q_Pr q_Sp q_Ch q_Wh q_Mk q_Tr q_Ws q_Pk1 n_row a_row n_all a_all n_apart a_apart) := hD.sub [0, 1, 2, 3, 4, 5, 6] (by decide) rfl
      refine lv_if_eq (tgt := 34) hx hb dX11_falling_23 (by decide) (fun c17z => ?_) (fun c17z => ?_)
      · have h := xt h c17z
        refine lv_iconst (v := (-1 : Int32)) hx hb dX11_falling_34 (by decide) ?_
        obtain ⟨b18z, h⟩ := xa h
        refine W.widen (k := MC) (n := MS) b18z.1 b18z.2 ?_
        obtain rfl := Option.some.inj h
        exact W.iret (v := (-1 : Int32)) hx hb hr (fun t ht hW => ⟨⟨_, (q_row, q_all, q_apart), rfl, rfl, by rw [ht]; exact hP, hD⟩, hS.F ht⟩) hS.2.2 dX11_falling_35 hlocks
      · have h := xf h c17z
        refine lv_iload hx hb dX11_falling_26 (lv_at hl 4 rfl) ?_
        obtain ⟨b20z, h⟩ := xa h
        obtain ⟨r19z, hr19z, h⟩ := xb_at h
        have hPc := hP.sub (ws' := (wd37 cyI cyJ cyZ)) [] rfl
        have hDc := hD.sub (ws' := (wd37 cyI cyJ cyZ)) [] (by decide) rfl
        refine cal_i [] [0, 1, 2, 3, 4, 5, 6] (va_runS (As := [.int v4]) (rest := []) ⟨hx, hb, hml, hown, hts⟩ (c_X11_isBound l dC dI cyI cyJ cyZ N r19z H.size  v4  hr19z) (va_cwS 1 hts gX11_falling_X11_isBound rfl rfl rfl hd_X11_isBound ⟨Nat.le_of_ble_eq_true rfl, Nat.le_of_ble_eq_true rfl⟩) ⟨pC.blind, pC.pre hPc hG hDc⟩ rfl rfl hl.1 rfl (lv_room (Nat.le_of_ble_eq_true rfl)) dX11_falling_28 ⟨b20z.1, b20z.2⟩) hP hD hS hA rfl rfl rfl (by decide) (fun x22z u21z H locs hw hP hD hS => ?_)
        obtain rfl := hw.symm
        have hP : va_P (dC, dI) vwCl (wd48 cyI cyJ cyZ q_G q_Sc q_Tb q_Sk q_row q_all q_apart q_Pr q_Sp q_Ch q_Wh q_Mk q_Tr q_Ws q_Pk1 n_row a_row n_all a_all n_apart a_apart) H := hP.sub [0, 1, 2, 3, 4, 5, 6] rfl
        have hD : va_D A (wd48 cyI cyJ cyZ q_G q_Sc q_Tb q_Sk q_row q_all q_apart q_Pr q_Sp q_Ch q_Wh q_Mk q_Tr q_Ws q_Pk1 n_row a_row n_all a_all n_apart a_apart) := hD.sub [0, 1, 2, 3, 4, 5, 6] (by decide) rfl
        refine lv_if_ne (tgt := 36) hx hb dX11_falling_31 (by decide) (fun c23z => ?_) (fun c23z => ?_)
        · have h := xf h c23z
          refine lv_aload_n hx hb dX11_falling_36 rfl (lv_at hl 0 rfl) ?_
          refine va_get (D := (dC, dI)) (ci := 11) (v := .ref q_Tb) (C := RX11) (T := TX11) (N := 9) hx hb hts iw_X11_falling_X11 hown hK hP 0 rfl rfl 3 (by decide) (hts (.fieldLink RX11 42 "GoesInto" "tables" "LGoesInto$Tables;") (List.mem_of_getElem? (i := 1) rfl)) (fun _ h9 => h9) rfl dX11_falling_37 ?_
          obtain ⟨b25z, h⟩ := xa h
          obtain ⟨r24z, hr24z, h⟩ := xb_at h
          have hPc := hP.sub (ws' := (wd14 cyI cyJ cyZ q_Sc q_Tb q_row q_all q_apart n_row a_row n_all a_all n_apart a_apart)) [1, 2, 4, 5, 6] rfl
          have hDc := hD.sub (ws' := (wd14 cyI cyJ cyZ q_Sc q_Tb q_row q_all q_apart n_row a_row n_all a_all n_apart a_apart)) [1, 2, 4, 5, 6] (by decide) rfl
          refine cal_v [1, 2, 4, 5, 6] [0, 3] (va_runV (As := []) (rest := []) ⟨hx, hb, hml, hown, hts⟩ (c_X7_prepare l dC dI cyI cyJ cyZ N (if 0 < nI n_all then 0 else 2 + (if nI n_row = 0 then 1 else 0)) (if 0 < nI n_all then 0 else 100002 + (if nI n_row = 0 then 50001 else 0)) r24z H.size q_Sc q_Tb q_row q_all q_apart  n_row a_row n_all a_all n_apart a_apart hr24z) (cwV 0 hts gX11_falling_X7_prepare rfl rfl rfl ⟨rfl, hd_X7_prepare⟩ ⟨Nat.le_of_ble_eq_true rfl, Nat.le_of_ble_eq_true rfl⟩) ⟨pC.blind, va_recv hK hPc (ci := 7) (q0 := 1) rfl rfl, pC.pre hPc hG hDc⟩ rfl rfl hl.1 rfl (lv_room (Nat.le_of_ble_eq_true rfl)) dX11_falling_40 ⟨b25z.1, b25z.2⟩) hP hD hS hA rfl rfl rfl (by decide) (fun u26z H locs _ hP hD hS => ?_)
          have hP : va_P (dC, dI) vwCl (wd48 cyI cyJ cyZ q_G q_Sc q_Tb q_Sk u26z.1 u26z.2.1 u26z.2.2 q_Pr q_Sp q_Ch q_Wh q_Mk q_Tr q_Ws q_Pk1 r24z.1 r24z.2.1 r24z.2.2.1 r24z.2.2.2.1 r24z.2.2.2.2.1 r24z.2.2.2.2.2) H := hP.sub [0, 2, 3, 1, 4, 5, 6] rfl
          have hD : va_D A (wd48 cyI cyJ cyZ q_G q_Sc q_Tb q_Sk u26z.1 u26z.2.1 u26z.2.2 q_Pr q_Sp q_Ch q_Wh q_Mk q_Tr q_Ws q_Pk1 r24z.1 r24z.2.1 r24z.2.2.1 r24z.2.2.2.1 r24z.2.2.2.2.1 r24z.2.2.2.2.2) := hD.sub [0, 2, 3, 1, 4, 5, 6] (by decide) rfl
          refine lv_aload_n hx hb dX11_falling_43 rfl (lv_at hl 0 rfl) ?_
          refine va_get (D := (dC, dI)) (ci := 11) (v := .ref q_Sk) (C := RX11) (T := TX11) (N := 9) hx hb hts iw_X11_falling_X11 hown hK hP 0 rfl rfl 4 (by decide) (hts (.fieldLink RX11 51 "GoesInto" "seeker" "LGoesInto$Seeker;") (List.mem_of_getElem? (i := 2) rfl)) (fun _ h9 => h9) rfl dX11_falling_44 ?_
          refine lv_iload_n hx hb dX11_falling_47 rfl (lv_at hl 1 rfl) ?_
          refine lv_iload_n hx hb dX11_falling_48 rfl (lv_at hl 2 rfl) ?_
          refine lv_iload_n hx hb dX11_falling_49 rfl (lv_at hl 3 rfl) ?_
          refine lv_iload hx hb dX11_falling_50 (lv_at hl 4 rfl) ?_
          obtain ⟨b29z, h⟩ := xa h
          obtain ⟨r28z, hr28z, h⟩ := xb_at h
          have hPc := hP.sub (ws' := (wd20 cyI cyJ cyZ q_Sc q_Tb q_Sk u26z.1 u26z.2.1 u26z.2.2 q_Pk1 r24z.1 r24z.2.1 r24z.2.2.1 r24z.2.2.2.1 r24z.2.2.2.2.1 r24z.2.2.2.2.2)) [1, 2, 3, 4, 5, 6] rfl
          have hDc := hD.sub (ws' := (wd20 cyI cyJ cyZ q_Sc q_Tb q_Sk u26z.1 u26z.2.1 u26z.2.2 q_Pk1 r24z.1 r24z.2.1 r24z.2.2.1 r24z.2.2.2.1 r24z.2.2.2.2.1 r24z.2.2.2.2.2)) [1, 2, 3, 4, 5, 6] (by decide) rfl
          refine cal_i [1, 2, 3, 4, 5, 6] [0] (va_runV (As := [.int v1, .int v2, .int v3, .int v4]) (rest := []) ⟨hx, hb, hml, hown, hts⟩ (c_X5_howManyFall l dC dI cyI cyJ cyZ N (if nI r24z.1 = 0 then 1 else 0) (if nI r24z.1 = 0 then 50001 else 0) r28z H.size q_Sc q_Tb q_Sk u26z.1 u26z.2.1 u26z.2.2 q_Pk1 v1 v2 v3 v4 r24z.1 r24z.2.1 r24z.2.2.1 r24z.2.2.2.1 r24z.2.2.2.2.1 r24z.2.2.2.2.2 hr28z) (cwV 4 hts gX11_falling_X5_howManyFall rfl rfl rfl ⟨rfl, hd_X5_howManyFall⟩ ⟨Nat.le_of_ble_eq_true rfl, Nat.le_of_ble_eq_true rfl⟩) ⟨pC.blind, va_recv hK hPc (ci := 5) (q0 := 2) rfl rfl, pC.pre hPc hG hDc⟩ rfl rfl hl.1 rfl (lv_room (Nat.le_of_ble_eq_true rfl)) dX11_falling_52 ⟨b29z.1, b29z.2⟩) hP hD hS hA rfl rfl rfl (by decide) (fun x31z u30z H locs hw hP hD hS => ?_)
          obtain rfl := hw.symm
          have hP : va_P (dC, dI) vwCl (wd48 cyI cyJ cyZ q_G q_Sc q_Tb q_Sk u30z u26z.2.1 u26z.2.2 q_Pr q_Sp q_Ch q_Wh q_Mk q_Tr q_Ws q_Pk1 r28z.2.1 r28z.2.2 r24z.2.2.1 r24z.2.2.2.1 r24z.2.2.2.2.1 r24z.2.2.2.2.2) H := hP.sub [0, 1, 2, 3, 4, 5, 6] rfl
          have hD : va_D A (wd48 cyI cyJ cyZ q_G q_Sc q_Tb q_Sk u30z u26z.2.1 u26z.2.2 q_Pr q_Sp q_Ch q_Wh q_Mk q_Tr q_Ws q_Pk1 r28z.2.1 r28z.2.2 r24z.2.2.1 r24z.2.2.2.1 r24z.2.2.2.2.1 r24z.2.2.2.2.2) := hD.sub [0, 1, 2, 3, 4, 5, 6] (by decide) rfl
          obtain ⟨b32z, h⟩ := xa h
          refine W.widen (k := MC) (n := MS) b32z.1 b32z.2 ?_
          obtain rfl := Option.some.inj h
          exact W.iret (v := r28z.1) hx hb hr (fun t ht hW => ⟨⟨_, (u30z, u26z.2.1, u26z.2.2), rfl, rfl, by rw [ht]; exact hP, hD⟩, hS.F ht⟩) hS.2.2 dX11_falling_55 hlocks
        · have h := xt h c23z
          refine lv_iconst (v := (-1 : Int32)) hx hb dX11_falling_34 (by decide) ?_
          obtain ⟨b33z, h⟩ := xa h
          refine W.widen (k := MC) (n := MS) b33z.1 b33z.2 ?_
          obtain rfl := Option.some.inj h
          exact W.iret (v := (-1 : Int32)) hx hb hr (fun t ht hW => ⟨⟨_, (q_row, q_all, q_apart), rfl, rfl, by rw [ht]; exact hP, hD⟩, hS.F ht⟩) hS.2.2 dX11_falling_35 hlocks
set_option maxRecDepth 100000 in
set_option maxHeartbeats 4000000 in
theorem c_X11_falling (l : Launch) (dC : Nat → ClassId) (dI : Nat → Nat → Nat) (cyI cyJ cyZ : ClassId) (N : Nat) (MC MS : Nat) (res : Int32 × Nat × (Nat → Int32) × Nat × (Nat → Int32) × Nat × (Nat → Int32)) (sz : Nat) (q_G : Nat) (q_Sc : Nat) (q_Tb : Nat) (q_Sk : Nat) (q_row : Nat) (q_all : Nat) (q_apart : Nat) (q_Pr : Nat) (q_Sp : Nat) (q_Ch : Nat) (q_Wh : Nat) (q_Mk : Nat) (q_Tr : Nat) (q_Ws : Nat) (q_Pk1 : Nat) (v1 : Int32) (v2 : Int32) (v3 : Int32) (v4 : Int32) (n_row : Nat) (a_row : Nat → Int32) (n_all : Nat) (a_all : Nat → Int32) (n_apart : Nat) (a_apart : Nat → Int32) (h : f_X11_falling N MC MS v1 v2 v3 v4 n_row a_row n_all a_all n_apart a_apart = some res) : Met l yX11_falling wsX11_falling (rm_X11_falling MC MS) (pC dC dI cyI cyJ cyZ [.ref q_G, .int v1, .int v2, .int v3, .int v4] sz (wd48 cyI cyJ cyZ q_G q_Sc q_Tb q_Sk q_row q_all q_apart q_Pr q_Sp q_Ch q_Wh q_Mk q_Tr q_Ws q_Pk1 n_row a_row n_all a_all n_apart a_apart)) (va_Qi (fun (r : Int32) (_ : Nat × Nat × Nat) => r = res.1) (bW dC dI (fun (u : Nat × Nat × Nat) => (wd48 cyI cyJ cyZ q_G q_Sc q_Tb q_Sk u.1 u.2.1 u.2.2 q_Pr q_Sp q_Ch q_Wh q_Mk q_Tr q_Ws q_Pk1 res.2.1 res.2.2.1 res.2.2.2.1 res.2.2.2.2.1 res.2.2.2.2.2.1 res.2.2.2.2.2.2)) (va_A (wd48 cyI cyJ cyZ q_G q_Sc q_Tb q_Sk q_row q_all q_apart q_Pr q_Sp q_Ch q_Wh q_Mk q_Tr q_Ws q_Pk1 n_row a_row n_all a_all n_apart a_apart) sz)) (va_A (wd48 cyI cyJ cyZ q_G q_Sc q_Tb q_Sk q_row q_all q_apart q_Pr q_Sp q_Ch q_Wh q_Mk q_Tr q_Ws q_Pk1 n_row a_row n_all a_all n_apart a_apart) sz)) MC MS (va_A (wd48 cyI cyJ cyZ q_G q_Sc q_Tb q_Sk q_row q_all q_apart q_Pr q_Sp q_Ch q_Wh q_Mk q_Tr q_Ws q_Pk1 n_row a_row n_all a_all n_apart a_apart) sz) := by
  refine Met.ofW (cc := cX11_falling) (maxL := 5) (ret := (some .int)) (by decide) rfl ?_
  intro p e s m args below meth c s₁ B hml hv
  obtain ⟨rfl, hsz, hP, hG, hD0⟩ := hv
  have hx := B.exec
  have hb := B.bytes
  have hr := B.returns
  have hts := atoms_spec (ws := wsX11_falling) B.pre
  have hown : s.vm.findClass RX11 = some m.cls := findClass_of_methodNamed B.named
  have hlocks := B.notSynchronized
  subst hsz
  have hD := hD0.self (sz := s.heap.size)
  generalize hAe : va_A (wd48 cyI cyJ cyZ q_G q_Sc q_Tb q_Sk q_row q_all q_apart q_Pr q_Sp q_Ch q_Wh q_Mk q_Tr q_Ws q_Pk1 n_row a_row n_all a_all n_apart a_apart) s.heap.size = A at hD ⊢
  have hA : ∀ q : Nat, s.heap.size ≤ q → A q := fun q h => by rw [← hAe]; exact Or.inr h
  have hS : va_S A s.heap s.heap [] := va_S.rf
  have hl := lv_entry ([.ref q_G, .int v1, .int v2, .int v3, .int v4]) (n := 5) (Nat.le_of_ble_eq_true rfl)
  rw [lg_entry_eq]
  generalize (lg_sl ([.ref q_G, .int v1, .int v2, .int v3, .int v4]) ++ List.replicate (5 - (lg_sl ([.ref q_G, .int v1, .int v2, .int v3, .int v4])).length) Slot.unset).toArray = ls at hl ⊢
  have hl : lv_has ls 5 [(0, .ref q_G), (1, .int v1), (2, .int v2), (3, .int v3), (4, .int v4)] := hl
  exact k_X11_falling_0 ⟨hx, hb, hr, hml, hown, hts, hlocks, hG, hA⟩ N MC MS res q_G q_Sc q_Tb q_Sk q_Pr q_Sp q_Ch q_Wh q_Mk q_Tr q_Ws q_Pk1 v1 v2 v3 v4 n_row a_row n_all a_all n_apart a_apart q_row q_all q_apart h _ _ hP hD hS _ hl
/-- the cells G, Ws -/
abbrev wd51 (cyI cyJ cyZ : ClassId) (q_G : Nat) (q_Ws : Nat) (q_Pr : Nat) (q_Sp : Nat) (q_Ch : Nat) (q_Tb : Nat) (q_Sk : Nat) (q_Wh : Nat) (q_Mk : Nat) (q_Tr : Nat) (q_Pk2 : Nat) (q_text : Nat) (wi_length : Int32) : va_W := [(q_G, .inr (11, [.ref q_Pr, .ref q_Sp, .ref q_Ch, .ref q_Tb, .ref q_Sk, .ref q_Wh, .ref q_Mk, .ref q_Tr, .ref q_Ws])), (q_Ws, .inr (10, [.ref q_Tr, .ref q_Pk2, .ref q_text, .int wi_length]))]
abbrev rm_X11_wipe : Room := { frames := 1, cells := 0, slots := 0, locals := 21 }
theorem hd_X11_wipe : yX11_wipe.cls ≠ "java/lang/invoke/MethodHandle" ∧ yX11_wipe.cls ≠ "java/lang/invoke/VarHandle" ∧ (parseMethodDescriptor yX11_wipe.desc).map (fun d => d.parameters.length) = some 0 := by decide +kernel
theorem iw_X11_wipe_X11 : ∀ w ∈ wsX110, w ∈ wsX11_wipe := List.forall_mem_cons.mpr ⟨List.mem_of_getElem? (i := 8) rfl, List.forall_mem_cons.mpr ⟨List.mem_of_getElem? (i := 9) rfl, List.forall_mem_cons.mpr ⟨List.mem_of_getElem? (i := 10) rfl, List.forall_mem_cons.mpr ⟨List.mem_of_getElem? (i := 11) rfl, List.forall_mem_cons.mpr ⟨List.mem_of_getElem? (i := 12) rfl, List.forall_mem_cons.mpr ⟨List.mem_of_getElem? (i := 13) rfl, List.forall_mem_cons.mpr ⟨List.mem_of_getElem? (i := 14) rfl, List.forall_mem_cons.mpr ⟨List.mem_of_getElem? (i := 15) rfl, List.forall_mem_cons.mpr ⟨List.mem_of_getElem? (i := 16) rfl, fun _ h => absurd h List.not_mem_nil⟩⟩⟩⟩⟩⟩⟩⟩⟩
theorem iw_X11_wipe_X10 : ∀ w ∈ wsX100, w ∈ wsX11_wipe := List.forall_mem_cons.mpr ⟨List.mem_of_getElem? (i := 17) rfl, List.forall_mem_cons.mpr ⟨List.mem_of_getElem? (i := 18) rfl, List.forall_mem_cons.mpr ⟨List.mem_of_getElem? (i := 19) rfl, List.forall_mem_cons.mpr ⟨List.mem_of_getElem? (i := 20) rfl, fun _ h => absurd h List.not_mem_nil⟩⟩⟩⟩
def f_X11_wipe (N : Nat) (wi_length : Int32) : Option (Int32 × Int32) :=
  Option.bind (f_X10_clear N  wi_length) fun r1z =>
  some (r1z.1, r1z.2)
set_option maxRecDepth 100000 in
set_option maxHeartbeats 4000000 in
theorem k_X11_wipe_0 {p : Program} {l : Launch} {e : Env} {s : State} {m : MethodId} {args : Array Value} {below : List Frame} {meth : Method} {c : Code} {dC : Nat → ClassId} {dI : Nat → Nat → Nat} {cyI cyJ cyZ : ClassId} {A : Nat → Prop} (C0 : mC p s m meth c args cX11_wipe (some .int) 1 RX11 wsX11_wipe (gK dC dI cyI cyJ cyZ) A) (N : Nat) (res : Int32 × Int32) (q_G : Nat) (q_Ws : Nat) (q_Pr : Nat) (q_Sp : Nat) (q_Ch : Nat) (q_Tb : Nat) (q_Sk : Nat) (q_Wh : Nat) (q_Mk : Nat) (q_Tr : Nat) (q_Pk2 : Nat) (q_text : Nat) (wi_length : Int32) (h : f_X11_wipe N wi_length = some res) : ∀ (H : Heap) (locs : List Loc), va_P (dC, dI) vwCl (wd51 cyI cyJ cyZ q_G q_Ws q_Pr q_Sp q_Ch q_Tb q_Sk q_Wh q_Mk q_Tr q_Pk2 q_text wi_length) H → va_D A (wd51 cyI cyJ cyZ q_G q_Ws q_Pr q_Sp q_Ch q_Tb q_Sk q_Wh q_Mk q_Tr q_Pk2 q_text wi_length) → va_S A s.heap H locs → ∀ (ls : Array Slot), lv_has ls 1 [(0, .ref q_G)] → W p l e (headSpec wsX11_wipe rm_X11_wipe).room s m args below meth c H locs 0 0 (MQ below (va_Qi (fun (r : Int32) (_ : Unit) => r = res.1) (bW dC dI (fun (u : Unit) => (wd51 cyI cyJ cyZ q_G q_Ws q_Pr q_Sp q_Ch q_Tb q_Sk q_Wh q_Mk q_Tr q_Pk2 q_text res.2)) A) A) args s 0 0 A) (F0 m 0 ls []) := by
  obtain ⟨hx, hb, hr, hml, hown, hts, hlocks, hG, hA⟩ := id C0
  have hK := hG.1
  intro H locs hP hD hS ls hl
  unfold f_X11_wipe at h
  refine lv_aload_n hx hb dX11_wipe_0 rfl (lv_at hl 0 rfl) ?_
  refine va_get (D := (dC, dI)) (ci := 11) (v := .ref q_Ws) (C := RX11) (T := TX11) (N := 9) hx hb hts iw_X11_wipe_X11 hown hK hP 0 rfl rfl 8 (by decide) (hts (.fieldLink RX11 87 "GoesInto" "wishes" "LGoesInto$Wishes;") (List.mem_of_getElem? (i := 1) rfl)) (fun _ h9 => h9) rfl dX11_wipe_1 ?_
  obtain ⟨r1z, hr1z, h⟩ := xb_at h
  have hPc := hP.sub (ws' := (wd36 cyI cyJ cyZ q_Ws q_Tr q_Pk2 q_text wi_length)) [1] rfl
  have hDc := hD.sub (ws' := (wd36 cyI cyJ cyZ q_Ws q_Tr q_Pk2 q_text wi_length)) [1] (by decide) rfl
  refine cal_i [1] [0] (va_runV (As := []) (rest := []) ⟨hx, hb, hml, hown, hts⟩ (c_X10_clear l dC dI cyI cyJ cyZ N r1z H.size q_Ws q_Tr q_Pk2 q_text  wi_length hr1z) (cwV 0 hts gX11_wipe_X10_clear rfl rfl rfl ⟨rfl, hd_X10_clear⟩ ⟨Nat.le_of_ble_eq_true rfl, Nat.le_of_ble_eq_true rfl⟩) ⟨pC.blind, va_recv hK hPc (ci := 10) (q0 := 0) rfl rfl, pC.pre hPc hG hDc⟩ rfl rfl hl.1 rfl (lv_room (Nat.le_of_ble_eq_true rfl)) dX11_wipe_4 ⟨Nat.zero_le _, Nat.zero_le _⟩) hP hD hS hA rfl rfl rfl (by decide) (fun x3z u2z H locs hw hP hD hS => ?_)
  obtain rfl := hw.symm
  have hP : va_P (dC, dI) vwCl (wd51 cyI cyJ cyZ q_G q_Ws q_Pr q_Sp q_Ch q_Tb q_Sk q_Wh q_Mk q_Tr q_Pk2 q_text r1z.2) H := hP.sub [0, 1] rfl
  have hD : va_D A (wd51 cyI cyJ cyZ q_G q_Ws q_Pr q_Sp q_Ch q_Tb q_Sk q_Wh q_Mk q_Tr q_Pk2 q_text r1z.2) := hD.sub [0, 1] (by decide) rfl
  obtain rfl := Option.some.inj h
  exact W.iret (v := r1z.1) hx hb hr (fun t ht hW => ⟨⟨_, (), rfl, rfl, by rw [ht]; exact hP, hD⟩, hS.F ht⟩) hS.2.2 dX11_wipe_7 hlocks
set_option maxRecDepth 100000 in
set_option maxHeartbeats 4000000 in
theorem c_X11_wipe (l : Launch) (dC : Nat → ClassId) (dI : Nat → Nat → Nat) (cyI cyJ cyZ : ClassId) (N : Nat) (res : Int32 × Int32) (sz : Nat) (q_G : Nat) (q_Ws : Nat) (q_Pr : Nat) (q_Sp : Nat) (q_Ch : Nat) (q_Tb : Nat) (q_Sk : Nat) (q_Wh : Nat) (q_Mk : Nat) (q_Tr : Nat) (q_Pk2 : Nat) (q_text : Nat) (wi_length : Int32) (h : f_X11_wipe N  wi_length = some res) : Met l yX11_wipe wsX11_wipe rm_X11_wipe (pC dC dI cyI cyJ cyZ [.ref q_G] sz (wd51 cyI cyJ cyZ q_G q_Ws q_Pr q_Sp q_Ch q_Tb q_Sk q_Wh q_Mk q_Tr q_Pk2 q_text wi_length)) (va_Qi (fun (r : Int32) (_ : Unit) => r = res.1) (bW dC dI (fun (u : Unit) => (wd51 cyI cyJ cyZ q_G q_Ws q_Pr q_Sp q_Ch q_Tb q_Sk q_Wh q_Mk q_Tr q_Pk2 q_text res.2)) (va_A (wd51 cyI cyJ cyZ q_G q_Ws q_Pr q_Sp q_Ch q_Tb q_Sk q_Wh q_Mk q_Tr q_Pk2 q_text wi_length) sz)) (va_A (wd51 cyI cyJ cyZ q_G q_Ws q_Pr q_Sp q_Ch q_Tb q_Sk q_Wh q_Mk q_Tr q_Pk2 q_text wi_length) sz)) 0 0 (va_A (wd51 cyI cyJ cyZ q_G q_Ws q_Pr q_Sp q_Ch q_Tb q_Sk q_Wh q_Mk q_Tr q_Pk2 q_text wi_length) sz) := by
  refine Met.ofW (cc := cX11_wipe) (maxL := 1) (ret := (some .int)) (by decide) rfl ?_
  intro p e s m args below meth c s₁ B hml hv
  obtain ⟨rfl, hsz, hP, hG, hD0⟩ := hv
  have hx := B.exec
  have hb := B.bytes
  have hr := B.returns
  have hts := atoms_spec (ws := wsX11_wipe) B.pre
  have hown : s.vm.findClass RX11 = some m.cls := findClass_of_methodNamed B.named
  have hlocks := B.notSynchronized
  subst hsz
  have hD := hD0.self (sz := s.heap.size)
  generalize hAe : va_A (wd51 cyI cyJ cyZ q_G q_Ws q_Pr q_Sp q_Ch q_Tb q_Sk q_Wh q_Mk q_Tr q_Pk2 q_text wi_length) s.heap.size = A at hD ⊢
  have hA : ∀ q : Nat, s.heap.size ≤ q → A q := fun q h => by rw [← hAe]; exact Or.inr h
  have hS : va_S A s.heap s.heap [] := va_S.rf
  have hl := lv_entry ([.ref q_G]) (n := 1) (Nat.le_of_ble_eq_true rfl)
  rw [lg_entry_eq]
  generalize (lg_sl ([.ref q_G]) ++ List.replicate (1 - (lg_sl ([.ref q_G])).length) Slot.unset).toArray = ls at hl ⊢
  have hl : lv_has ls 1 [(0, .ref q_G)] := hl
  exact k_X11_wipe_0 ⟨hx, hb, hr, hml, hown, hts, hlocks, hG, hA⟩ N res q_G q_Ws q_Pr q_Sp q_Ch q_Tb q_Sk q_Wh q_Mk q_Tr q_Pk2 q_text wi_length  h _ _ hP hD hS _ hl
/-- the cells G, Ws, text -/
abbrev wd52 (cyI cyJ cyZ : ClassId) (q_G : Nat) (q_Ws : Nat) (q_text : Nat) (q_Pr : Nat) (q_Sp : Nat) (q_Ch : Nat) (q_Tb : Nat) (q_Sk : Nat) (q_Wh : Nat) (q_Mk : Nat) (q_Tr : Nat) (q_Pk2 : Nat) (wi_length : Int32) (a_text : Nat → Int32) : va_W := [(q_G, .inr (11, [.ref q_Pr, .ref q_Sp, .ref q_Ch, .ref q_Tb, .ref q_Sk, .ref q_Wh, .ref q_Mk, .ref q_Tr, .ref q_Ws])), (q_Ws, .inr (10, [.ref q_Tr, .ref q_Pk2, .ref q_text, .int wi_length])), (q_text, .inl (cyI, 60, .inl a_text))]
abbrev rm_X11_fault : Room := { frames := 2, cells := 0, slots := 0, locals := 45 }
theorem hd_X11_fault : yX11_fault.cls ≠ "java/lang/invoke/MethodHandle" ∧ yX11_fault.cls ≠ "java/lang/invoke/VarHandle" ∧ (parseMethodDescriptor yX11_fault.desc).map (fun d => d.parameters.length) = some 0 := by decide +kernel
theorem iw_X11_fault_X11 : ∀ w ∈ wsX110, w ∈ wsX11_fault := List.forall_mem_cons.mpr ⟨List.mem_of_getElem? (i := 12) rfl, List.forall_mem_cons.mpr ⟨List.mem_of_getElem? (i := 13) rfl, List.forall_mem_cons.mpr ⟨List.mem_of_getElem? (i := 14) rfl, List.forall_mem_cons.mpr ⟨List.mem_of_getElem? (i := 15) rfl, List.forall_mem_cons.mpr ⟨List.mem_of_getElem? (i := 16) rfl, List.forall_mem_cons.mpr ⟨List.mem_of_getElem? (i := 17) rfl, List.forall_mem_cons.mpr ⟨List.mem_of_getElem? (i := 18) rfl, List.forall_mem_cons.mpr ⟨List.mem_of_getElem? (i := 19) rfl, List.forall_mem_cons.mpr ⟨List.mem_of_getElem? (i := 20) rfl, fun _ h => absurd h List.not_mem_nil⟩⟩⟩⟩⟩⟩⟩⟩⟩
theorem iw_X11_fault_X10 : ∀ w ∈ wsX100, w ∈ wsX11_fault := List.forall_mem_cons.mpr ⟨List.mem_of_getElem? (i := 21) rfl, List.forall_mem_cons.mpr ⟨List.mem_of_getElem? (i := 22) rfl, List.forall_mem_cons.mpr ⟨List.mem_of_getElem? (i := 23) rfl, List.forall_mem_cons.mpr ⟨List.mem_of_getElem? (i := 24) rfl, fun _ h => absurd h List.not_mem_nil⟩⟩⟩⟩
def f_X11_fault (N : Nat) (wi_length : Int32) (a_text : Nat → Int32) : Option (Int32) :=
  Option.bind (f_X10_firstFault N  wi_length a_text) fun r1z =>
  some r1z
set_option maxRecDepth 100000 in
set_option maxHeartbeats 4000000 in
theorem k_X11_fault_0 {p : Program} {l : Launch} {e : Env} {s : State} {m : MethodId} {args : Array Value} {below : List Frame} {meth : Method} {c : Code} {dC : Nat → ClassId} {dI : Nat → Nat → Nat} {cyI cyJ cyZ : ClassId} {A : Nat → Prop} (C0 : mC p s m meth c args cX11_fault (some .int) 1 RX11 wsX11_fault (gK dC dI cyI cyJ cyZ) A) (N : Nat) (res : Int32) (q_G : Nat) (q_Ws : Nat) (q_text : Nat) (q_Pr : Nat) (q_Sp : Nat) (q_Ch : Nat) (q_Tb : Nat) (q_Sk : Nat) (q_Wh : Nat) (q_Mk : Nat) (q_Tr : Nat) (q_Pk2 : Nat) (wi_length : Int32) (a_text : Nat → Int32) (h : f_X11_fault N wi_length a_text = some res) : ∀ (H : Heap) (locs : List Loc), va_P (dC, dI) vwCl (wd52 cyI cyJ cyZ q_G q_Ws q_text q_Pr q_Sp q_Ch q_Tb q_Sk q_Wh q_Mk q_Tr q_Pk2 wi_length a_text) H → va_D A (wd52 cyI cyJ cyZ q_G q_Ws q_text q_Pr q_Sp q_Ch q_Tb q_Sk q_Wh q_Mk q_Tr q_Pk2 wi_length a_text) → va_S A s.heap H locs → ∀ (ls : Array Slot), lv_has ls 1 [(0, .ref q_G)] → W p l e (headSpec wsX11_fault rm_X11_fault).room s m args below meth c H locs 0 0 (MQ below (va_Qi (fun (r : Int32) (_ : Unit) => r = res) (bW dC dI (fun (u : Unit) => (wd52 cyI cyJ cyZ q_G q_Ws q_text q_Pr q_Sp q_Ch q_Tb q_Sk q_Wh q_Mk q_Tr q_Pk2 wi_length a_text)) A) A) args s 0 0 A) (F0 m 0 ls []) := by
  obtain ⟨hx, hb, hr, hml, hown, hts, hlocks, hG, hA⟩ := id C0
  have hK := hG.1
  intro H locs hP hD hS ls hl
  unfold f_X11_fault at h
  refine lv_aload_n hx hb dX11_fault_0 rfl (lv_at hl 0 rfl) ?_
  refine va_get (D := (dC, dI)) (ci := 11) (v := .ref q_Ws) (C := RX11) (T := TX11) (N := 9) hx hb hts iw_X11_fault_X11 hown hK hP 0 rfl rfl 8 (by decide) (hts (.fieldLink RX11 87 "GoesInto" "wishes" "LGoesInto$Wishes;") (List.mem_of_getElem? (i := 1) rfl)) (fun _ h9 => h9) rfl dX11_fault_1 ?_
  obtain ⟨r1z, hr1z, h⟩ := xb_at h
  have hPc := hP.sub (ws' := (wd38 cyI cyJ cyZ q_Ws q_text q_Tr q_Pk2 wi_length a_text)) [1, 2] rfl
  have hDc := hD.sub (ws' := (wd38 cyI cyJ cyZ q_Ws q_text q_Tr q_Pk2 wi_length a_text)) [1, 2] (by decide) rfl
  refine cal_i [1, 2] [0] (va_runV (As := []) (rest := []) ⟨hx, hb, hml, hown, hts⟩ (c_X10_firstFault l dC dI cyI cyJ cyZ N r1z H.size q_Ws q_text q_Tr q_Pk2  wi_length a_text hr1z) (cwV 0 hts gX11_fault_X10_firstFault rfl rfl rfl ⟨rfl, hd_X10_firstFault⟩ ⟨Nat.le_of_ble_eq_true rfl, Nat.le_of_ble_eq_true rfl⟩) ⟨pC.blind, va_recv hK hPc (ci := 10) (q0 := 0) rfl rfl, pC.pre hPc hG hDc⟩ rfl rfl hl.1 rfl (lv_room (Nat.le_of_ble_eq_true rfl)) dX11_fault_4 ⟨Nat.zero_le _, Nat.zero_le _⟩) hP hD hS hA rfl rfl rfl (by decide) (fun x3z u2z H locs hw hP hD hS => ?_)
  obtain rfl := hw.symm
  have hP : va_P (dC, dI) vwCl (wd52 cyI cyJ cyZ q_G q_Ws q_text q_Pr q_Sp q_Ch q_Tb q_Sk q_Wh q_Mk q_Tr q_Pk2 wi_length a_text) H := hP.sub [0, 1, 2] rfl
  have hD : va_D A (wd52 cyI cyJ cyZ q_G q_Ws q_text q_Pr q_Sp q_Ch q_Tb q_Sk q_Wh q_Mk q_Tr q_Pk2 wi_length a_text) := hD.sub [0, 1, 2] (by decide) rfl
  obtain rfl := Option.some.inj h
  exact W.iret (v := r1z) hx hb hr (fun t ht hW => ⟨⟨_, (), rfl, rfl, by rw [ht]; exact hP, hD⟩, hS.F ht⟩) hS.2.2 dX11_fault_7 hlocks
set_option maxRecDepth 100000 in
set_option maxHeartbeats 4000000 in
theorem c_X11_fault (l : Launch) (dC : Nat → ClassId) (dI : Nat → Nat → Nat) (cyI cyJ cyZ : ClassId) (N : Nat) (res : Int32) (sz : Nat) (q_G : Nat) (q_Ws : Nat) (q_text : Nat) (q_Pr : Nat) (q_Sp : Nat) (q_Ch : Nat) (q_Tb : Nat) (q_Sk : Nat) (q_Wh : Nat) (q_Mk : Nat) (q_Tr : Nat) (q_Pk2 : Nat) (wi_length : Int32) (a_text : Nat → Int32) (h : f_X11_fault N  wi_length a_text = some res) : Met l yX11_fault wsX11_fault rm_X11_fault (pC dC dI cyI cyJ cyZ [.ref q_G] sz (wd52 cyI cyJ cyZ q_G q_Ws q_text q_Pr q_Sp q_Ch q_Tb q_Sk q_Wh q_Mk q_Tr q_Pk2 wi_length a_text)) (va_Qi (fun (r : Int32) (_ : Unit) => r = res) (bW dC dI (fun (u : Unit) => (wd52 cyI cyJ cyZ q_G q_Ws q_text q_Pr q_Sp q_Ch q_Tb q_Sk q_Wh q_Mk q_Tr q_Pk2 wi_length a_text)) (va_A (wd52 cyI cyJ cyZ q_G q_Ws q_text q_Pr q_Sp q_Ch q_Tb q_Sk q_Wh q_Mk q_Tr q_Pk2 wi_length a_text) sz)) (va_A (wd52 cyI cyJ cyZ q_G q_Ws q_text q_Pr q_Sp q_Ch q_Tb q_Sk q_Wh q_Mk q_Tr q_Pk2 wi_length a_text) sz)) 0 0 (va_A (wd52 cyI cyJ cyZ q_G q_Ws q_text q_Pr q_Sp q_Ch q_Tb q_Sk q_Wh q_Mk q_Tr q_Pk2 wi_length a_text) sz) := by
  refine Met.ofW (cc := cX11_fault) (maxL := 1) (ret := (some .int)) (by decide) rfl ?_
  intro p e s m args below meth c s₁ B hml hv
  obtain ⟨rfl, hsz, hP, hG, hD0⟩ := hv
  have hx := B.exec
  have hb := B.bytes
  have hr := B.returns
  have hts := atoms_spec (ws := wsX11_fault) B.pre
  have hown : s.vm.findClass RX11 = some m.cls := findClass_of_methodNamed B.named
  have hlocks := B.notSynchronized
  subst hsz
  have hD := hD0.self (sz := s.heap.size)
  generalize hAe : va_A (wd52 cyI cyJ cyZ q_G q_Ws q_text q_Pr q_Sp q_Ch q_Tb q_Sk q_Wh q_Mk q_Tr q_Pk2 wi_length a_text) s.heap.size = A at hD ⊢
  have hA : ∀ q : Nat, s.heap.size ≤ q → A q := fun q h => by rw [← hAe]; exact Or.inr h
  have hS : va_S A s.heap s.heap [] := va_S.rf
  have hl := lv_entry ([.ref q_G]) (n := 1) (Nat.le_of_ble_eq_true rfl)
  rw [lg_entry_eq]
  generalize (lg_sl ([.ref q_G]) ++ List.replicate (1 - (lg_sl ([.ref q_G])).length) Slot.unset).toArray = ls at hl ⊢
  have hl : lv_has ls 1 [(0, .ref q_G)] := hl
  exact k_X11_fault_0 ⟨hx, hb, hr, hml, hown, hts, hlocks, hG, hA⟩ N res q_G q_Ws q_text q_Pr q_Sp q_Ch q_Tb q_Sk q_Wh q_Mk q_Tr q_Pk2 wi_length a_text  h _ _ hP hD hS _ hl
/-- the cells G, Sc, Pr, Sp, Tb, Mk, Tr, Ws, Pk2, row, list, prime, times, parts, all, apart, traits, text -/
abbrev wd53 (cyI cyJ cyZ : ClassId) (q_G : Nat) (q_Sc : Nat) (q_Pr : Nat) (q_Sp : Nat) (q_Tb : Nat) (q_Mk : Nat) (q_Tr : Nat) (q_Ws : Nat) (q_Pk2 : Nat) (q_row : Nat) (q_list : Nat) (q_prime : Nat) (q_times : Nat) (q_parts : Nat) (q_all : Nat) (q_apart : Nat) (q_traits : Nat) (q_text : Nat) (q_Ch : Nat) (q_Sk : Nat) (q_Wh : Nat) (sp_unlike : Int32) (sp_number : Int64) (sp_partsKept : Int32) (sp_partsNumber : Int64) (wi_length : Int32) (pk2_wanted : Int32) (pk2_seen : Int32) (n_row : Nat) (a_row : Nat → Int32) (n_list : Nat) (a_list : Nat → Int32) (a_prime : Nat → Int64) (a_times : Nat → Int32) (a_parts : Nat → Int64) (n_all : Nat) (a_all : Nat → Int32) (n_apart : Nat) (a_apart : Nat → Int32) (n_traits : Nat) (a_traits : Nat → Int32) (a_text : Nat → Int32) : va_W := [(q_G, .inr (11, [.ref q_Pr, .ref q_Sp, .ref q_Ch, .ref q_Tb, .ref q_Sk, .ref q_Wh, .ref q_Mk, .ref q_Tr, .ref q_Ws])), (q_Sc, .inr (4, [.ref q_row])), (q_Pr, .inr (3, [.ref q_Sc, .ref q_list])), (q_Sp, .inr (6, [.ref q_Pr, .ref q_prime, .ref q_times, .int sp_unlike, .long sp_number, .ref q_parts, .int sp_partsKept, .long sp_partsNumber])), (q_Tb, .inr (7, [.ref q_Sc, .ref q_all, .ref q_apart])), (q_Mk, .inr (1, [.ref q_Sp, .ref q_Sc])), (q_Tr, .inr (8, [.ref q_Sp, .ref q_Tb, .ref q_Mk, .ref q_traits])), (q_Ws, .inr (10, [.ref q_Tr, .ref q_Pk2, .ref q_text, .int wi_length])), (q_Pk2, .inr (2, [.int pk2_wanted, .int pk2_seen])), (q_row, .inl (cyI, n_row, .inl a_row)), (q_list, .inl (cyI, n_list, .inl a_list)), (q_prime, .inl (cyJ, 12, .inr (.inl a_prime))), (q_times, .inl (cyI, 12, .inl a_times)), (q_parts, .inl (cyJ, 2304, .inr (.inl a_parts))), (q_all, .inl (cyI, n_all, .inl a_all)), (q_apart, .inl (cyI, n_apart, .inl a_apart)), (q_traits, .inl (cyI, n_traits, .inl a_traits)), (q_text, .inl (cyI, 60, .inl a_text))]
abbrev rm_X11_wished (MC MS : Nat) : Room := { frames := 6, cells := MC, slots := MS, locals := 150 }
theorem hd_X11_wished : yX11_wished.cls ≠ "java/lang/invoke/MethodHandle" ∧ yX11_wished.cls ≠ "java/lang/invoke/VarHandle" ∧ (parseMethodDescriptor yX11_wished.desc).map (fun d => d.parameters.length) = some 2 := by decide +kernel
theorem iw_X11_wished_X11 : ∀ w ∈ wsX110, w ∈ wsX11_wished := List.forall_mem_cons.mpr ⟨List.mem_of_getElem? (i := 190) rfl, List.forall_mem_cons.mpr ⟨List.mem_of_getElem? (i := 191) rfl, List.forall_mem_cons.mpr ⟨List.mem_of_getElem? (i := 192) rfl, List.forall_mem_cons.mpr ⟨List.mem_of_getElem? (i := 193) rfl, List.forall_mem_cons.mpr ⟨List.mem_of_getElem? (i := 194) rfl, List.forall_mem_cons.mpr ⟨List.mem_of_getElem? (i := 195) rfl, List.forall_mem_cons.mpr ⟨List.mem_of_getElem? (i := 196) rfl, List.forall_mem_cons.mpr ⟨List.mem_of_getElem? (i := 197) rfl, List.forall_mem_cons.mpr ⟨List.mem_of_getElem? (i := 198) rfl, fun _ h => absurd h List.not_mem_nil⟩⟩⟩⟩⟩⟩⟩⟩⟩
theorem iw_X11_wished_X4 : ∀ w ∈ wsX40, w ∈ wsX11_wished := List.forall_mem_cons.mpr ⟨List.mem_of_getElem? (i := 205) rfl, fun _ h => absurd h List.not_mem_nil⟩
theorem iw_X11_wished_X3 : ∀ w ∈ wsX30, w ∈ wsX11_wished := List.forall_mem_cons.mpr ⟨List.mem_of_getElem? (i := 203) rfl, List.forall_mem_cons.mpr ⟨List.mem_of_getElem? (i := 204) rfl, fun _ h => absurd h List.not_mem_nil⟩⟩
theorem iw_X11_wished_X6 : ∀ w ∈ wsX60, w ∈ wsX11_wished := List.forall_mem_cons.mpr ⟨List.mem_of_getElem? (i := 213) rfl, List.forall_mem_cons.mpr ⟨List.mem_of_getElem? (i := 214) rfl, List.forall_mem_cons.mpr ⟨List.mem_of_getElem? (i := 215) rfl, List.forall_mem_cons.mpr ⟨List.mem_of_getElem? (i := 216) rfl, List.forall_mem_cons.mpr ⟨List.mem_of_getElem? (i := 217) rfl, List.forall_mem_cons.mpr ⟨List.mem_of_getElem? (i := 218) rfl, List.forall_mem_cons.mpr ⟨List.mem_of_getElem? (i := 219) rfl, List.forall_mem_cons.mpr ⟨List.mem_of_getElem? (i := 220) rfl, fun _ h => absurd h List.not_mem_nil⟩⟩⟩⟩⟩⟩⟩⟩
theorem iw_X11_wished_X7 : ∀ w ∈ wsX70, w ∈ wsX11_wished := List.forall_mem_cons.mpr ⟨List.mem_of_getElem? (i := 206) rfl, List.forall_mem_cons.mpr ⟨List.mem_of_getElem? (i := 207) rfl, List.forall_mem_cons.mpr ⟨List.mem_of_getElem? (i := 208) rfl, fun _ h => absurd h List.not_mem_nil⟩⟩⟩
theorem iw_X11_wished_X1 : ∀ w ∈ wsX10, w ∈ wsX11_wished := List.forall_mem_cons.mpr ⟨List.mem_of_getElem? (i := 221) rfl, List.forall_mem_cons.mpr ⟨List.mem_of_getElem? (i := 222) rfl, fun _ h => absurd h List.not_mem_nil⟩⟩
theorem iw_X11_wished_X8 : ∀ w ∈ wsX80, w ∈ wsX11_wished := List.forall_mem_cons.mpr ⟨List.mem_of_getElem? (i := 209) rfl, List.forall_mem_cons.mpr ⟨List.mem_of_getElem? (i := 210) rfl, List.forall_mem_cons.mpr ⟨List.mem_of_getElem? (i := 211) rfl, List.forall_mem_cons.mpr ⟨List.mem_of_getElem? (i := 212) rfl, fun _ h => absurd h List.not_mem_nil⟩⟩⟩⟩
theorem iw_X11_wished_X10 : ∀ w ∈ wsX100, w ∈ wsX11_wished := List.forall_mem_cons.mpr ⟨List.mem_of_getElem? (i := 199) rfl, List.forall_mem_cons.mpr ⟨List.mem_of_getElem? (i := 200) rfl, List.forall_mem_cons.mpr ⟨List.mem_of_getElem? (i := 201) rfl, List.forall_mem_cons.mpr ⟨List.mem_of_getElem? (i := 202) rfl, fun _ h => absurd h List.not_mem_nil⟩⟩⟩⟩
theorem iw_X11_wished_X2 : ∀ w ∈ wsX20, w ∈ wsX11_wished := List.forall_mem_cons.mpr ⟨List.mem_of_getElem? (i := 223) rfl, List.forall_mem_cons.mpr ⟨List.mem_of_getElem? (i := 224) rfl, fun _ h => absurd h List.not_mem_nil⟩⟩
def f_X11_wished (N : Nat) (MC : Nat) (MS : Nat) (v1 : Int32) (v2 : Int32) (sp_unlike : Int32) (sp_number : Int64) (sp_partsKept : Int32) (sp_partsNumber : Int64) (wi_length : Int32) (pk2_wanted : Int32) (pk2_seen : Int32) (n_row : Nat) (a_row : Nat → Int32) (n_list : Nat) (a_list : Nat → Int32) (a_prime : Nat → Int64) (a_times : Nat → Int32) (a_parts : Nat → Int64) (n_all : Nat) (a_all : Nat → Int32) (n_apart : Nat) (a_apart : Nat → Int32) (n_traits : Nat) (a_traits : Nat → Int32) (a_text : Nat → Int32) : Option (Int32 × Int32 × Int64 × Int32 × Int64 × Int32 × Int32 × Nat × (Nat → Int32) × Nat × (Nat → Int32) × (Nat → Int64) × (Nat → Int32) × (Nat → Int64) × Nat × (Nat → Int32) × Nat × (Nat → Int32) × Nat × (Nat → Int32)) :=
  if 0 ≤ MC ∧ 0 ≤ MS then
    Option.bind (f_X11_within N v1 (1 : Int32) (5000 : Int32)) fun r1z =>
    if r1z = 0 then
      if 0 ≤ MC ∧ 0 ≤ MS then
        some ((-1 : Int32), sp_unlike, sp_number, sp_partsKept, sp_partsNumber, pk2_wanted, pk2_seen, n_row, a_row, n_list, a_list, a_prime, a_times, a_parts, n_all, a_all, n_apart, a_apart, n_traits, a_traits)
      else
        none
    else
      if (-1 : Int32) ≤ v2 then
        if 0 ≤ MC ∧ 0 ≤ MS then
          Option.bind (f_X10_firstFault N  wi_length a_text) fun r8z =>
          if r8z = (-4 : Int32) then
            if 0 + MC ≤ MC ∧ 0 + MS ≤ MS then
              Option.bind (f_X11_prepareTraits N MC MS  sp_unlike sp_number sp_partsKept sp_partsNumber n_row a_row n_list a_list a_prime a_times a_parts n_all a_all n_apart a_apart n_traits a_traits) fun r13z =>
              if 0 + MC ≤ MC ∧ 0 + MS ≤ MS then
                Option.bind (f_X10_numberAt N v1 v2 wi_length pk2_wanted pk2_seen r13z.2.2.2.2.2.2.2.2.2.2.2.2.2.2.2.1 r13z.2.2.2.2.2.2.2.2.2.2.2.2.2.2.2.2 a_text) fun r17z =>
                if 0 + MC ≤ MC ∧ 0 + MS ≤ MS then
                  some (r17z.1, r13z.1, r13z.2.1, r13z.2.2.1, r13z.2.2.2.1, r17z.2.1, r17z.2.2, r13z.2.2.2.2.1, r13z.2.2.2.2.2.1, r13z.2.2.2.2.2.2.1, r13z.2.2.2.2.2.2.2.1, r13z.2.2.2.2.2.2.2.2.1, r13z.2.2.2.2.2.2.2.2.2.1, r13z.2.2.2.2.2.2.2.2.2.2.1, r13z.2.2.2.2.2.2.2.2.2.2.2.1, r13z.2.2.2.2.2.2.2.2.2.2.2.2.1, r13z.2.2.2.2.2.2.2.2.2.2.2.2.2.1, r13z.2.2.2.2.2.2.2.2.2.2.2.2.2.2.1, r13z.2.2.2.2.2.2.2.2.2.2.2.2.2.2.2.1, r13z.2.2.2.2.2.2.2.2.2.2.2.2.2.2.2.2)
                else
                  none
              else
                none
            else
              none
          else
            if 0 ≤ MC ∧ 0 ≤ MS then
              some ((-2 : Int32), sp_unlike, sp_number, sp_partsKept, sp_partsNumber, pk2_wanted, pk2_seen, n_row, a_row, n_list, a_list, a_prime, a_times, a_parts, n_all, a_all, n_apart, a_apart, n_traits, a_traits)
            else
              none
        else
          none
      else
        if 0 ≤ MC ∧ 0 ≤ MS then
          some ((-1 : Int32), sp_unlike, sp_number, sp_partsKept, sp_partsNumber, pk2_wanted, pk2_seen, n_row, a_row, n_list, a_list, a_prime, a_times, a_parts, n_all, a_all, n_apart, a_apart, n_traits, a_traits)
        else
          none
  else
    none
set_option maxRecDepth 100000 in
set_option maxHeartbeats 4000000 in
theorem k_X11_wished_0 {p : Program} {l : Launch} {e : Env} {s : State} {m : MethodId} {args : Array Value} {below : List Frame} {meth : Method} {c : Code} {dC : Nat → ClassId} {dI : Nat → Nat → Nat} {cyI cyJ cyZ : ClassId} {A : Nat → Prop} (C0 : mC p s m meth c args cX11_wished (some .int) 3 RX11 wsX11_wished (gK dC dI cyI cyJ cyZ) A) (N : Nat) (MC MS : Nat) (res : Int32 × Int32 × Int64 × Int32 × Int64 × Int32 × Int32 × Nat × (Nat → Int32) × Nat × (Nat → Int32) × (Nat → Int64) × (Nat → Int32) × (Nat → Int64) × Nat × (Nat → Int32) × Nat × (Nat → Int32) × Nat × (Nat → Int32)) (q_G : Nat) (q_Sc : Nat) (q_Pr : Nat) (q_Sp : Nat) (q_Tb : Nat) (q_Mk : Nat) (q_Tr : Nat) (q_Ws : Nat) (q_Pk2 : Nat) (q_prime : Nat) (q_times : Nat) (q_parts : Nat) (q_text : Nat) (q_Ch : Nat) (q_Sk : Nat) (q_Wh : Nat) (v1 : Int32) (v2 : Int32) (sp_unlike : Int32) (sp_number : Int64) (sp_partsKept : Int32) (sp_partsNumber : Int64) (wi_length : Int32) (pk2_wanted : Int32) (pk2_seen : Int32) (n_row : Nat) (a_row : Nat → Int32) (n_list : Nat) (a_list : Nat → Int32) (a_prime : Nat → Int64) (a_times : Nat → Int32) (a_parts : Nat → Int64) (n_all : Nat) (a_all : Nat → Int32) (n_apart : Nat) (a_apart : Nat → Int32) (n_traits : Nat) (a_traits : Nat → Int32) (a_text : Nat → Int32) (q_row : Nat) (q_list : Nat) (q_all : Nat) (q_apart : Nat) (q_traits : Nat) (h : f_X11_wished N MC MS v1 v2 sp_unlike sp_number sp_partsKept sp_partsNumber wi_length pk2_wanted pk2_seen n_row a_row n_list a_list a_prime a_times a_parts n_all a_all n_apart a_apart n_traits a_traits a_text = some res) : ∀ (H : Heap) (locs : List Loc), va_P (dC, dI) vwCl (wd53 cyI cyJ cyZ q_G q_Sc q_Pr q_Sp q_Tb q_Mk q_Tr q_Ws q_Pk2 q_row q_list q_prime q_times q_parts q_all q_apart q_traits q_text q_Ch q_Sk q_Wh sp_unlike sp_number sp_partsKept sp_partsNumber wi_length pk2_wanted pk2_seen n_row a_row n_list a_list a_prime a_times a_parts n_all a_all n_apart a_apart n_traits a_traits a_text) H → va_D A (wd53 cyI cyJ cyZ q_G q_Sc q_Pr q_Sp q_Tb q_Mk q_Tr q_Ws q_Pk2 q_row q_list q_prime q_times q_parts q_all q_apart q_traits q_text q_Ch q_Sk q_Wh sp_unlike sp_number sp_partsKept sp_partsNumber wi_length pk2_wanted pk2_seen n_row a_row n_list a_list a_prime a_times a_parts n_all a_all n_apart a_apart n_traits a_traits a_text) → va_S A s.heap H locs → ∀ (ls : Array Slot), lv_has ls 3 [(0, .ref q_G), (1, .int v1), (2, .int v2)] → W p l e (headSpec wsX11_wished (rm_X11_wished MC MS)).room s m args below meth c H locs 0 0 (MQ below (va_Qi (fun (r : Int32) (_ : Nat × Nat × Nat × Nat × Nat) => r = res.1) (bW dC dI (fun (u : Nat × Nat × Nat × Nat × Nat) => (wd53 cyI cyJ cyZ q_G q_Sc q_Pr q_Sp q_Tb q_Mk q_Tr q_Ws q_Pk2 u.1 u.2.1 q_prime q_times q_parts u.2.2.1 u.2.2.2.1 u.2.2.2.2 q_text q_Ch q_Sk q_Wh res.2.1 res.2.2.1 res.2.2.2.1 res.2.2.2.2.1 wi_length res.2.2.2.2.2.1 res.2.2.2.2.2.2.1 res.2.2.2.2.2.2.2.1 res.2.2.2.2.2.2.2.2.1 res.2.2.2.2.2.2.2.2.2.1 res.2.2.2.2.2.2.2.2.2.2.1 res.2.2.2.2.2.2.2.2.2.2.2.1 res.2.2.2.2.2.2.2.2.2.2.2.2.1 res.2.2.2.2.2.2.2.2.2.2.2.2.2.1 res.2.2.2.2.2.2.2.2.2.2.2.2.2.2.1 res.2.2.2.2.2.2.2.2.2.2.2.2.2.2.2.1 res.2.2.2.2.2.2.2.2.2.2.2.2.2.2.2.2.1 res.2.2.2.2.2.2.2.2.2.2.2.2.2.2.2.2.2.1 res.2.2.2.2.2.2.2.2.2.2.2.2.2.2.2.2.2.2.1 res.2.2.2.2.2.2.2.2.2.2.2.2.2.2.2.2.2.2.2 a_text)) A) A) args s MC MS A) (F0 m 0 ls []) := by
  obtain ⟨hx, hb, hr, hml, hown, hts, hlocks, hG, hA⟩ := id C0
  have hK := hG.1
  intro H locs hP hD hS ls hl
  unfold f_X11_wished at h
  refine lv_iload_n hx hb dX11_wished_0 rfl (lv_at hl 1 rfl) ?_
  refine lv_iconst (v := (1 : Int32)) hx hb dX11_wished_1 (by decide) ?_
  refine lv_sipush (v := (5000 : Int32)) hx hb dX11_wished_2 (by decide) ?_
  obtain ⟨b2z, h⟩ := xa h
  obtain ⟨r1z, hr1z, h⟩ := xb_at h
  have hPc := hP.sub (ws' := (wd37 cyI cyJ cyZ)) [] rfl
  have hDc := hD.sub (ws' := (wd37 cyI cyJ cyZ)) [] (by decide) rfl
  refine cal_i [] [0, 1, 2, 3, 4, 5, 6, 7, 8, 9, 10, 11, 12, 13, 14, 15, 16, 17] (va_runS (As := [.int v1, .int (1 : Int32), .int (5000 : Int32)]) (rest := []) ⟨hx, hb, hml, hown, hts⟩ (c_X11_within l dC dI cyI cyJ cyZ N r1z H.size  v1 (1 : Int32) (5000 : Int32)  hr1z) (va_cwS 3 hts gX11_wished_X11_within rfl rfl rfl hd_X11_within ⟨Nat.le_of_ble_eq_true rfl, Nat.le_of_ble_eq_true rfl⟩) ⟨pC.blind, pC.pre hPc hG hDc⟩ rfl rfl hl.1 rfl (lv_room (Nat.le_of_ble_eq_true rfl)) dX11_wished_5 ⟨b2z.1, b2z.2⟩) hP hD hS hA rfl rfl rfl (by decide) (fun x4z u3z H locs hw hP hD hS => ?_)
  obtain rfl := hw.symm
  have hP : va_P (dC, dI) vwCl (wd53 cyI cyJ cyZ q_G q_Sc q_Pr q_Sp q_Tb q_Mk q_Tr q_Ws q_Pk2 q_row q_list q_prime q_times q_parts q_all q_apart q_traits q_text q_Ch q_Sk q_Wh sp_unlike sp_number sp_partsKept sp_partsNumber wi_length pk2_wanted pk2_seen n_row a_row n_list a_list a_prime a_times a_parts n_all a_all n_apart a_apart n_traits a_traits a_text) H := hP.sub [0, 1, 2, 3, 4, 5, 6, 7, 8, 9, 10, 11, 12, 13, 14, 15, 16, 17] rfl
  have hD : va_D A (wd53 cyI cyJ cyZ q_G q_Sc q_Pr q_Sp q_Tb q_Mk q_Tr q_Ws q_Pk2 q_row q_list q_prime q_times q_parts q_all q_apart q_traits q_text q_Ch q_Sk q_Wh sp_unlike sp_number sp_partsKept sp_partsNumber wi_length pk2_wanted pk2_seen n_row a_row n_list a_list a_prime a_times a_parts n_all a_all n_apart a_apart n_traits a_traits a_text) := hD.sub [0, 1, 2, 3, 4, 5, 6, 7, 8, 9, 10, 11, 12, 13, 14, 15, 16, 17] (by decide) rfl
  refine lv_if_eq (tgt := 16) hx hb dX11_wished_8 (by decide) (fun c5z => ?_) (fun c5z => ?_)
  · have h := xt h c5z
    refine lv_iconst (v := (-1 : Int32)) hx hb dX11_wished_16 (by decide) ?_
    obtain ⟨b6z, h⟩ := xa h
    refine W.widen (k := MC) (n := MS) b6z.1 b6z.2 ?_
    obtain rfl := Option.some.inj h
    exact W.iret (v := (-1 : Int32)) hx hb hr (fun t ht hW => ⟨⟨_, (q_row, q_list, q_all, q_apart, q_traits), rfl, rfl, by rw [ht]; exact hP, hD⟩, hS.F ht⟩) hS.2.2 dX11_wished_17 hlocks
  · have h := xf h c5z
    refine lv_iload_n hx hb dX11_wished_11 rfl (lv_at hl 2 rfl) ?_
    refine lv_iconst (v := (-1 : Int32)) hx hb dX11_wished_12 (by decide) ?_
    refine lv_icmp_ge (tgt := 18) hx hb dX11_wished_13 (by decide) (fun c7z => ?_) (fun c7z => ?_)
    · have h := xt h c7z
      refine lv_aload_n hx hb dX11_wished_18 rfl (lv_at hl 0 rfl) ?_
      refine va_get (D := (dC, dI)) (ci := 11) (v := .ref q_Ws) (C := RX11) (T := TX11) (N := 9) hx hb hts iw_X11_wished_X11 hown hK hP 0 rfl rfl 8 (by decide) (hts (.fieldLink RX11 87 "GoesInto" "wishes" "LGoesInto$Wishes;") (List.mem_of_getElem? (i := 1) rfl)) (fun _ h9 => h9) rfl dX11_wished_19 ?_
      obtain ⟨b9z, h⟩ := xa h
      obtain ⟨r8z, hr8z, h⟩ := xb_at h
      have hPc := hP.sub (ws' := (wd38 cyI cyJ cyZ q_Ws q_text q_Tr q_Pk2 wi_length a_text)) [7, 17] rfl
      have hDc := hD.sub (ws' := (wd38 cyI cyJ cyZ q_Ws q_text q_Tr q_Pk2 wi_length a_text)) [7, 17] (by decide) rfl
      refine cal_i [7, 17] [0, 1, 2, 3, 4, 5, 6, 8, 9, 10, 11, 12, 13, 14, 15, 16] (va_runV (As := []) (rest := []) ⟨hx, hb, hml, hown, hts⟩ (c_X10_firstFault l dC dI cyI cyJ cyZ N r8z H.size q_Ws q_text q_Tr q_Pk2  wi_length a_text hr8z) (cwV 0 hts gX11_wished_X10_firstFault rfl rfl rfl ⟨rfl, hd_X10_firstFault⟩ ⟨Nat.le_of_ble_eq_true rfl, Nat.le_of_ble_eq_true rfl⟩) ⟨pC.blind, va_recv hK hPc (ci := 10) (q0 := 0) rfl rfl, pC.pre hPc hG hDc⟩ rfl rfl hl.1 rfl (lv_room (Nat.le_of_ble_eq_true rfl)) dX11_wished_22 ⟨b9z.1, b9z.2⟩) hP hD hS hA rfl rfl rfl (by decide) (fun x11z u10z H locs hw hP hD hS => ?_)
      obtain rfl := hw.symm
      have hP : va_P (dC, dI) vwCl (wd53 cyI cyJ cyZ q_G q_Sc q_Pr q_Sp q_Tb q_Mk q_Tr q_Ws q_Pk2 q_row q_list q_prime q_times q_parts q_all q_apart q_traits q_text q_Ch q_Sk q_Wh sp_unlike sp_number sp_partsKept sp_partsNumber wi_length pk2_wanted pk2_seen n_row a_row n_list a_list a_prime a_times a_parts n_all a_all n_apart a_apart n_traits a_traits a_text) H := hP.sub [0, 1, 2, 3, 4, 5, 6, 16, 7, 8, 9, 10, 11, 12, 13, 14, 15, 17] rfl
      have hD : va_D A (wd53 cyI cyJ cyZ q_G q_Sc q_Pr q_Sp q_Tb q_Mk q_Tr q_Ws q_Pk2 q_row q_list q_prime q_times q_parts q_all q_apart q_traits q_text q_Ch q_Sk q_Wh sp_unlike sp_number sp_partsKept sp_partsNumber wi_length pk2_wanted pk2_seen n_row a_row n_list a_list a_prime a_times a_parts n_all a_all n_apart a_apart n_traits a_traits a_text) := hD.sub [0, 1, 2, 3, 4, 5, 6, 16, 7, 8, 9, 10, 11, 12, 13, 14, 15, 17] (by decide) rfl
      refine lv_bipush (v := (-4 : Int32)) hx hb dX11_wished_25 (by decide) ?_
      refine lv_icmp_eq (tgt := 33) hx hb dX11_wished_27 (by decide) (fun c12z => ?_) (fun c12z => ?_)
      · have h := xt h c12z
        refine lv_aload_n hx hb dX11_wished_33 rfl (lv_at hl 0 rfl) ?_
        obtain ⟨b14z, h⟩ := xa h
        obtain ⟨r13z, hr13z, h⟩ := xb_at h
        have hPc := hP.sub (ws' := (wd42 cyI cyJ cyZ q_G q_Sc q_Pr q_Sp q_Tb q_Mk q_Tr q_row q_list q_prime q_times q_parts q_all q_apart q_traits q_Ch q_Sk q_Wh q_Ws sp_unlike sp_number sp_partsKept sp_partsNumber n_row a_row n_list a_list a_prime a_times a_parts n_all a_all n_apart a_apart n_traits a_traits)) [0, 1, 2, 3, 4, 5, 6, 9, 10, 11, 12, 13, 14, 15, 16] rfl
        have hDc := hD.sub (ws' := (wd42 cyI cyJ cyZ q_G q_Sc q_Pr q_Sp q_Tb q_Mk q_Tr q_row q_list q_prime q_times q_parts q_all q_apart q_traits q_Ch q_Sk q_Wh q_Ws sp_unlike sp_number sp_partsKept sp_partsNumber n_row a_row n_list a_list a_prime a_times a_parts n_all a_all n_apart a_apart n_traits a_traits)) [0, 1, 2, 3, 4, 5, 6, 9, 10, 11, 12, 13, 14, 15, 16] (by decide) rfl
        refine cal_v [0, 1, 2, 3, 4, 5, 6, 9, 10, 11, 12, 13, 14, 15, 16] [7, 8, 17] (va_runV (As := []) (rest := []) ⟨hx, hb, hml, hown, hts⟩ (c_X11_prepareTraits l dC dI cyI cyJ cyZ N MC MS r13z H.size q_G q_Sc q_Pr q_Sp q_Tb q_Mk q_Tr q_row q_list q_prime q_times q_parts q_all q_apart q_traits q_Ch q_Sk q_Wh q_Ws  sp_unlike sp_number sp_partsKept sp_partsNumber n_row a_row n_list a_list a_prime a_times a_parts n_all a_all n_apart a_apart n_traits a_traits hr13z) (cwV 0 hts gX11_wished_X11_prepareTraits rfl rfl rfl ⟨rfl, hd_X11_prepareTraits⟩ ⟨Nat.le_of_ble_eq_true rfl, Nat.le_of_ble_eq_true rfl⟩) ⟨pC.blind, va_recv hK hPc (ci := 11) (q0 := 0) rfl rfl, pC.pre hPc hG hDc⟩ rfl rfl hl.1 rfl (lv_room (Nat.le_of_ble_eq_true rfl)) dX11_wished_34 ⟨b14z.1, b14z.2⟩) hP hD hS hA rfl rfl rfl (by decide) (fun u15z H locs _ hP hD hS => ?_)
        have hP : va_P (dC, dI) vwCl (wd53 cyI cyJ cyZ q_G q_Sc q_Pr q_Sp q_Tb q_Mk q_Tr q_Ws q_Pk2 u15z.1 u15z.2.1 q_prime q_times q_parts u15z.2.2.1 u15z.2.2.2.1 u15z.2.2.2.2 q_text q_Ch q_Sk q_Wh r13z.1 r13z.2.1 r13z.2.2.1 r13z.2.2.2.1 wi_length pk2_wanted pk2_seen r13z.2.2.2.2.1 r13z.2.2.2.2.2.1 r13z.2.2.2.2.2.2.1 r13z.2.2.2.2.2.2.2.1 r13z.2.2.2.2.2.2.2.2.1 r13z.2.2.2.2.2.2.2.2.2.1 r13z.2.2.2.2.2.2.2.2.2.2.1 r13z.2.2.2.2.2.2.2.2.2.2.2.1 r13z.2.2.2.2.2.2.2.2.2.2.2.2.1 r13z.2.2.2.2.2.2.2.2.2.2.2.2.2.1 r13z.2.2.2.2.2.2.2.2.2.2.2.2.2.2.1 r13z.2.2.2.2.2.2.2.2.2.2.2.2.2.2.2.1 r13z.2.2.2.2.2.2.2.2.2.2.2.2.2.2.2.2 a_text) H := hP.sub [3, 4, 5, 6, 7, 8, 9, 0, 1, 10, 11, 12, 13, 14, 15, 16, 17, 2] rfl
        have hD : va_D A (wd53 cyI cyJ cyZ q_G q_Sc q_Pr q_Sp q_Tb q_Mk q_Tr q_Ws q_Pk2 u15z.1 u15z.2.1 q_prime q_times q_parts u15z.2.2.1 u15z.2.2.2.1 u15z.2.2.2.2 q_text q_Ch q_Sk q_Wh r13z.1 r13z.2.1 r13z.2.2.1 r13z.2.2.2.1 wi_length pk2_wanted pk2_seen r13z.2.2.2.2.1 r13z.2.2.2.2.2.1 r13z.2.2.2.2.2.2.1 r13z.2.2.2.2.2.2.2.1 r13z.2.2.2.2.2.2.2.2.1 r13z.2.2.2.2.2.2.2.2.2.1 r13z.2.2.2.2.2.2.2.2.2.2.1 r13z.2.2.2.2.2.2.2.2.2.2.2.1 r13z.2.2.2.2.2.2.2.2.2.2.2.2.1 r13z.2.2.2.2.2.2.2.2.2.2.2.2.2.1 r13z.2.2.2.2.2.2.2.2.2.2.2.2.2.2.1 r13z.2.2.2.2.2.2.2.2.2.2.2.2.2.2.2.1 r13z.2.2.2.2.2.2.2.2.2.2.2.2.2.2.2.2 a_text) := hD.sub [3, 4, 5, 6, 7, 8, 9, 0, 1, 10, 11, 12, 13, 14, 15, 16, 17, 2] (by decide) rfl
        refine lv_aload_n hx hb dX11_wished_37 rfl (lv_at hl 0 rfl) ?_
        refine va_get (D := (dC, dI)) (ci := 11) (v := .ref q_Ws) (C := RX11) (T := TX11) (N := 9) hx hb hts iw_X11_wished_X11 hown hK hP 0 rfl rfl 8 (by decide) (hts (.fieldLink RX11 87 "GoesInto" "wishes" "LGoesInto$Wishes;") (List.mem_of_getElem? (i := 1) rfl)) (fun _ h9 => h9) rfl dX11_wished_38 ?_
        refine lv_iload_n hx hb dX11_wished_41 rfl (lv_at hl 1 rfl) ?_
        refine lv_iload_n hx hb dX11_wished_42 rfl (lv_at hl 2 rfl) ?_
        obtain ⟨b18z, h⟩ := xa h
        obtain ⟨r17z, hr17z, h⟩ := xb_at h
        have hPc := hP.sub (ws' := (wd40 cyI cyJ cyZ q_Tr q_Ws q_Pk2 u15z.2.2.2.2 q_text q_Sp q_Tb q_Mk wi_length pk2_wanted pk2_seen r13z.2.2.2.2.2.2.2.2.2.2.2.2.2.2.2.1 r13z.2.2.2.2.2.2.2.2.2.2.2.2.2.2.2.2 a_text)) [6, 7, 8, 16, 17] rfl
        have hDc := hD.sub (ws' := (wd40 cyI cyJ cyZ q_Tr q_Ws q_Pk2 u15z.2.2.2.2 q_text q_Sp q_Tb q_Mk wi_length pk2_wanted pk2_seen r13z.2.2.2.2.2.2.2.2.2.2.2.2.2.2.2.1 r13z.2.2.2.2.2.2.2.2.2.2.2.2.2.2.2.2 a_text)) [6, 7, 8, 16, 17] (by decide) rfl
        refine cal_i [6, 7, 8, 16, 17] [0, 1, 2, 3, 4, 5, 9, 10, 11, 12, 13, 14, 15] (va_runV (As := [.int v1, .int v2]) (rest := []) ⟨hx, hb, hml, hown, hts⟩ (c_X10_numberAt l dC dI cyI cyJ cyZ N r17z H.size q_Tr q_Ws q_Pk2 u15z.2.2.2.2 q_text q_Sp q_Tb q_Mk v1 v2 wi_length pk2_wanted pk2_seen r13z.2.2.2.2.2.2.2.2.2.2.2.2.2.2.2.1 r13z.2.2.2.2.2.2.2.2.2.2.2.2.2.2.2.2 a_text hr17z) (cwV 2 hts gX11_wished_X10_numberAt rfl rfl rfl ⟨rfl, hd_X10_numberAt⟩ ⟨Nat.le_of_ble_eq_true rfl, Nat.le_of_ble_eq_true rfl⟩) ⟨pC.blind, va_recv hK hPc (ci := 10) (q0 := 1) rfl rfl, pC.pre hPc hG hDc⟩ rfl rfl hl.1 rfl (lv_room (Nat.le_of_ble_eq_true rfl)) dX11_wished_43 ⟨b18z.1, b18z.2⟩) hP hD hS hA rfl rfl rfl (by decide) (fun x20z u19z H locs hw hP hD hS => ?_)
        obtain rfl := hw.symm
        have hP : va_P (dC, dI) vwCl (wd53 cyI cyJ cyZ q_G q_Sc q_Pr q_Sp q_Tb q_Mk q_Tr q_Ws q_Pk2 u15z.1 u15z.2.1 q_prime q_times q_parts u15z.2.2.1 u15z.2.2.2.1 u15z.2.2.2.2 q_text q_Ch q_Sk q_Wh r13z.1 r13z.2.1 r13z.2.2.1 r13z.2.2.2.1 wi_length r17z.2.1 r17z.2.2 r13z.2.2.2.2.1 r13z.2.2.2.2.2.1 r13z.2.2.2.2.2.2.1 r13z.2.2.2.2.2.2.2.1 r13z.2.2.2.2.2.2.2.2.1 r13z.2.2.2.2.2.2.2.2.2.1 r13z.2.2.2.2.2.2.2.2.2.2.1 r13z.2.2.2.2.2.2.2.2.2.2.2.1 r13z.2.2.2.2.2.2.2.2.2.2.2.2.1 r13z.2.2.2.2.2.2.2.2.2.2.2.2.2.1 r13z.2.2.2.2.2.2.2.2.2.2.2.2.2.2.1 r13z.2.2.2.2.2.2.2.2.2.2.2.2.2.2.2.1 r13z.2.2.2.2.2.2.2.2.2.2.2.2.2.2.2.2 a_text) H := hP.sub [0, 1, 2, 3, 4, 5, 13, 14, 15, 6, 7, 8, 9, 10, 11, 12, 16, 17] rfl
        have hD : va_D A (wd53 cyI cyJ cyZ q_G q_Sc q_Pr q_Sp q_Tb q_Mk q_Tr q_Ws q_Pk2 u15z.1 u15z.2.1 q_prime q_times q_parts u15z.2.2.1 u15z.2.2.2.1 u15z.2.2.2.2 q_text q_Ch q_Sk q_Wh r13z.1 r13z.2.1 r13z.2.2.1 r13z.2.2.2.1 wi_length r17z.2.1 r17z.2.2 r13z.2.2.2.2.1 r13z.2.2.2.2.2.1 r13z.2.2.2.2.2.2.1 r13z.2.2.2.2.2.2.2.1 r13z.2.2.2.2.2.2.2.2.1 r13z.2.2.2.2.2.2.2.2.2.1 r13z.2.2.2.2.2.2.2.2.2.2.1 r13z.2.2.2.2.2.2.2.2.2.2.2.1 r13z.2.2.2.2.2.2.2.2.2.2.2.2.1 r13z.2.2.2.2.2.2.2.2.2.2.2.2.2.1 r13z.2.2.2.2.2.2.2.2.2.2.2.2.2.2.1 r13z.2.2.2.2.2.2.2.2.2.2.2.2.2.2.2.1 r13z.2.2.2.2.2.2.2.2.2.2.2.2.2.2.2.2 a_text) := hD.sub [0, 1, 2, 3, 4, 5, 13, 14, 15, 6, 7, 8, 9, 10, 11, 12, 16, 17] (by decide) rfl
        obtain ⟨b21z, h⟩ := xa h
        refine W.widen (k := MC) (n := MS) b21z.1 b21z.2 ?_
        obtain rfl := Option.some.inj h
        exact W.iret (v := r17z.1) hx hb hr (fun t ht hW => ⟨⟨_, (u15z.1, u15z.2.1, u15z.2.2.1, u15z.2.2.2.1, u15z.2.2.2.2), rfl, rfl, by rw [ht]; exact hP, hD⟩, hS.F ht⟩) hS.2.2 dX11_wished_46 hlocks
      · have h := xf h c12z
        refine lv_bipush (v := (-2 : Int32)) hx hb dX11_wished_30 (by decide) ?_
        obtain ⟨b22z, h⟩ := xa h
        refine W.widen (k := MC) (n := MS) b22z.1 b22z.2 ?_
        obtain rfl := Option.some.inj h
        exact W.iret (v := (-2 : Int32)) hx hb hr (fun t ht hW => ⟨⟨_, (q_row, q_list, q_all, q_apart, q_traits), rfl, rfl, by rw [ht]; exact hP, hD⟩, hS.F ht⟩) hS.2.2 dX11_wished_32 hlocks
    · have h := xf h c7z
      refine lv_iconst (v := (-1 : Int32)) hx hb dX11_wished_16 (by decide) ?_
      obtain ⟨b23z, h⟩ := xa h
      refine W.widen (k := MC) (n := MS) b23z.1 b23z.2 ?_
      obtain rfl := Option.some.inj h
      exact W.iret (v := (-1 : Int32)) hx hb hr (fun t ht hW => ⟨⟨_, (q_row, q_list, q_all, q_apart, q_traits), rfl, rfl, by rw [ht]; exact hP, hD⟩, hS.F ht⟩) hS.2.2 dX11_wished_17 hlocks
set_option maxRecDepth 100000 in
set_option maxHeartbeats 4000000 in
theorem c_X11_wished (l : Launch) (dC : Nat → ClassId) (dI : Nat → Nat → Nat) (cyI cyJ cyZ : ClassId) (N : Nat) (MC MS : Nat) (res : Int32 × Int32 × Int64 × Int32 × Int64 × Int32 × Int32 × Nat × (Nat → Int32) × Nat × (Nat → Int32) × (Nat → Int64) × (Nat → Int32) × (Nat → Int64) × Nat × (Nat → Int32) × Nat × (Nat → Int32) × Nat × (Nat → Int32)) (sz : Nat) (q_G : Nat) (q_Sc : Nat) (q_Pr : Nat) (q_Sp : Nat) (q_Tb : Nat) (q_Mk : Nat) (q_Tr : Nat) (q_Ws : Nat) (q_Pk2 : Nat) (q_row : Nat) (q_list : Nat) (q_prime : Nat) (q_times : Nat) (q_parts : Nat) (q_all : Nat) (q_apart : Nat) (q_traits : Nat) (q_text : Nat) (q_Ch : Nat) (q_Sk : Nat) (q_Wh : Nat) (v1 : Int32) (v2 : Int32) (sp_unlike : Int32) (sp_number : Int64) (sp_partsKept : Int32) (sp_partsNumber : Int64) (wi_length : Int32) (pk2_wanted : Int32) (pk2_seen : Int32) (n_row : Nat) (a_row : Nat → Int32) (n_list : Nat) (a_list : Nat → Int32) (a_prime : Nat → Int64) (a_times : Nat → Int32) (a_parts : Nat → Int64) (n_all : Nat) (a_all : Nat → Int32) (n_apart : Nat) (a_apart : Nat → Int32) (n_traits : Nat) (a_traits : Nat → Int32) (a_text : Nat → Int32) (h : f_X11_wished N MC MS v1 v2 sp_unlike sp_number sp_partsKept sp_partsNumber wi_length pk2_wanted pk2_seen n_row a_row n_list a_list a_prime a_times a_parts n_all a_all n_apart a_apart n_traits a_traits a_text = some res) : Met l yX11_wished wsX11_wished (rm_X11_wished MC MS) (pC dC dI cyI cyJ cyZ [.ref q_G, .int v1, .int v2] sz (wd53 cyI cyJ cyZ q_G q_Sc q_Pr q_Sp q_Tb q_Mk q_Tr q_Ws q_Pk2 q_row q_list q_prime q_times q_parts q_all q_apart q_traits q_text q_Ch q_Sk q_Wh sp_unlike sp_number sp_partsKept sp_partsNumber wi_length pk2_wanted pk2_seen n_row a_row n_list a_list a_prime a_times a_parts n_all a_all n_apart a_apart n_traits a_traits a_text)) (va_Qi (fun (r : Int32) (_ : Nat × Nat × Nat × Nat × Nat) => r = res.1) (bW dC dI (fun (u : Nat × Nat × Nat × Nat × Nat) => (wd53 cyI cyJ cyZ q_G q_Sc q_Pr q_Sp q_Tb q_Mk q_Tr q_Ws q_Pk2 u.1 u.2.1 q_prime q_times q_parts u.2.2.1 u.2.2.2.1 u.2.2.2.2 q_text q_Ch q_Sk q_Wh res.2.1 res.2.2.1 res.2.2.2.1 res.2.2.2.2.1 wi_length res.2.2.2.2.2.1 res.2.2.2.2.2.2.1 res.2.2.2.2.2.2.2.1 res.2.2.2.2.2.2.2.2.1 res.2.2.2.2.2.2.2.2.2.1 res.2.2.2.2.2.2.2.2.2.2.1 res.2.2.2.2.2.2.2.2.2.2.2.1 res.2.2.2.2.2.2.2.2.2.2.2.2.1 res.2.2.2.2.2.2.2.2.2.2.2.2.2.1 res.2.2.2.2.2.2.2.2.2.2.2.2.2.2.1 res.2.2.2.2.2.2.2.2.2.2.2.2.2.2.2.1 res.2.2.2.2.2.2.2.2.2.2.2.2.2.2.2.2.1 res.2.2.2.2.2.2.2.2.2.2.2.2.2.2.2.2.2.1 res.2.2.2.2.2.2.2.2.2.2.2.2.2.2.2.2.2.2.1 res.2.2.2.2.2.2.2.2.2.2.2.2.2.2.2.2.2.2.2 a_text)) (va_A (wd53 cyI cyJ cyZ q_G q_Sc q_Pr q_Sp q_Tb q_Mk q_Tr q_Ws q_Pk2 q_row q_list q_prime q_times q_parts q_all q_apart q_traits q_text q_Ch q_Sk q_Wh sp_unlike sp_number sp_partsKept sp_partsNumber wi_length pk2_wanted pk2_seen n_row a_row n_list a_list a_prime a_times a_parts n_all a_all n_apart a_apart n_traits a_traits a_text) sz)) (va_A (wd53 cyI cyJ cyZ q_G q_Sc q_Pr q_Sp q_Tb q_Mk q_Tr q_Ws q_Pk2 q_row q_list q_prime q_times q_parts q_all q_apart q_traits q_text q_Ch q_Sk q_Wh sp_unlike sp_number sp_partsKept sp_partsNumber wi_length pk2_wanted pk2_seen n_row a_row n_list a_list a_prime a_times a_parts n_all a_all n_apart a_apart n_traits a_traits a_text) sz)) MC MS (va_A (wd53 cyI cyJ cyZ q_G q_Sc q_Pr q_Sp q_Tb q_Mk q_Tr q_Ws q_Pk2 q_row q_list q_prime q_times q_parts q_all q_apart q_traits q_text q_Ch q_Sk q_Wh sp_unlike sp_number sp_partsKept sp_partsNumber wi_length pk2_wanted pk2_seen n_row a_row n_list a_list a_prime a_times a_parts n_all a_all n_apart a_apart n_traits a_traits a_text) sz) := by
  refine Met.ofW (cc := cX11_wished) (maxL := 3) (ret := (some .int)) (by decide) rfl ?_
  intro p e s m args below meth c s₁ B hml hv
  obtain ⟨rfl, hsz, hP, hG, hD0⟩ := hv
  have hx := B.exec
  have hb := B.bytes
  have hr := B.returns
  have hts := atoms_spec (ws := wsX11_wished) B.pre
  have hown : s.vm.findClass RX11 = some m.cls := findClass_of_methodNamed B.named
  have hlocks := B.notSynchronized
  subst hsz
  have hD := hD0.self (sz := s.heap.size)
  generalize hAe : va_A (wd53 cyI cyJ cyZ q_G q_Sc q_Pr q_Sp q_Tb q_Mk q_Tr q_Ws q_Pk2 q_row q_list q_prime q_times q_parts q_all q_apart q_traits q_text q_Ch q_Sk q_Wh sp_unlike sp_number sp_partsKept sp_partsNumber wi_length pk2_wanted pk2_seen n_row a_row n_list a_list a_prime a_times a_parts n_all a_all n_apart a_apart n_traits a_traits a_text) s.heap.size = A at hD ⊢
  have hA : ∀ q : Nat, s.heap.size ≤ q → A q := fun q h => by rw [← hAe]; exact Or.inr h
  have hS : va_S A s.heap s.heap [] := va_S.rf
  have hl := lv_entry ([.ref q_G, .int v1, .int v2]) (n := 3) (Nat.le_of_ble_eq_true rfl)
  rw [lg_entry_eq]
  generalize (lg_sl ([.ref q_G, .int v1, .int v2]) ++ List.replicate (3 - (lg_sl ([.ref q_G, .int v1, .int v2])).length) Slot.unset).toArray = ls at hl ⊢
  have hl : lv_has ls 3 [(0, .ref q_G), (1, .int v1), (2, .int v2)] := hl
  exact k_X11_wished_0 ⟨hx, hb, hr, hml, hown, hts, hlocks, hG, hA⟩ N MC MS res q_G q_Sc q_Pr q_Sp q_Tb q_Mk q_Tr q_Ws q_Pk2 q_prime q_times q_parts q_text q_Ch q_Sk q_Wh v1 v2 sp_unlike sp_number sp_partsKept sp_partsNumber wi_length pk2_wanted pk2_seen n_row a_row n_list a_list a_prime a_times a_parts n_all a_all n_apart a_apart n_traits a_traits a_text q_row q_list q_all q_apart q_traits h _ _ hP hD hS _ hl
/-- the cells G, Sc, Pr, Sp, Tb, Mk, Tr, Ws, row, list, prime, times, parts, all, apart, traits, text -/
abbrev wd54 (cyI cyJ cyZ : ClassId) (q_G : Nat) (q_Sc : Nat) (q_Pr : Nat) (q_Sp : Nat) (q_Tb : Nat) (q_Mk : Nat) (q_Tr : Nat) (q_Ws : Nat) (q_row : Nat) (q_list : Nat) (q_prime : Nat) (q_times : Nat) (q_parts : Nat) (q_all : Nat) (q_apart : Nat) (q_traits : Nat) (q_text : Nat) (q_Ch : Nat) (q_Sk : Nat) (q_Wh : Nat) (q_Pk2 : Nat) (sp_unlike : Int32) (sp_number : Int64) (sp_partsKept : Int32) (sp_partsNumber : Int64) (wi_length : Int32) (n_row : Nat) (a_row : Nat → Int32) (n_list : Nat) (a_list : Nat → Int32) (a_prime : Nat → Int64) (a_times : Nat → Int32) (a_parts : Nat → Int64) (n_all : Nat) (a_all : Nat → Int32) (n_apart : Nat) (a_apart : Nat → Int32) (n_traits : Nat) (a_traits : Nat → Int32) (a_text : Nat → Int32) : va_W := [(q_G, .inr (11, [.ref q_Pr, .ref q_Sp, .ref q_Ch, .ref q_Tb, .ref q_Sk, .ref q_Wh, .ref q_Mk, .ref q_Tr, .ref q_Ws])), (q_Sc, .inr (4, [.ref q_row])), (q_Pr, .inr (3, [.ref q_Sc, .ref q_list])), (q_Sp, .inr (6, [.ref q_Pr, .ref q_prime, .ref q_times, .int sp_unlike, .long sp_number, .ref q_parts, .int sp_partsKept, .long sp_partsNumber])), (q_Tb, .inr (7, [.ref q_Sc, .ref q_all, .ref q_apart])), (q_Mk, .inr (1, [.ref q_Sp, .ref q_Sc])), (q_Tr, .inr (8, [.ref q_Sp, .ref q_Tb, .ref q_Mk, .ref q_traits])), (q_Ws, .inr (10, [.ref q_Tr, .ref q_Pk2, .ref q_text, .int wi_length])), (q_row, .inl (cyI, n_row, .inl a_row)), (q_list, .inl (cyI, n_list, .inl a_list)), (q_prime, .inl (cyJ, 12, .inr (.inl a_prime))), (q_times, .inl (cyI, 12, .inl a_times)), (q_parts, .inl (cyJ, 2304, .inr (.inl a_parts))), (q_all, .inl (cyI, n_all, .inl a_all)), (q_apart, .inl (cyI, n_apart, .inl a_apart)), (q_traits, .inl (cyI, n_traits, .inl a_traits)), (q_text, .inl (cyI, 60, .inl a_text))]
abbrev rm_X11_holds (MC MS : Nat) : Room := { frames := 6, cells := MC, slots := MS, locals := 150 }
theorem hd_X11_holds : yX11_holds.cls ≠ "java/lang/invoke/MethodHandle" ∧ yX11_holds.cls ≠ "java/lang/invoke/VarHandle" ∧ (parseMethodDescriptor yX11_holds.desc).map (fun d => d.parameters.length) = some 1 := by decide +kernel
theorem iw_X11_holds_X11 : ∀ w ∈ wsX110, w ∈ wsX11_holds := List.forall_mem_cons.mpr ⟨List.mem_of_getElem? (i := 170) rfl, List.forall_mem_cons.mpr ⟨List.mem_of_getElem? (i := 171) rfl, List.forall_mem_cons.mpr ⟨List.mem_of_getElem? (i := 172) rfl, List.forall_mem_cons.mpr ⟨List.mem_of_getElem? (i := 173) rfl, List.forall_mem_cons.mpr ⟨List.mem_of_getElem? (i := 174) rfl, List.forall_mem_cons.mpr ⟨List.mem_of_getElem? (i := 175) rfl, List.forall_mem_cons.mpr ⟨List.mem_of_getElem? (i := 176) rfl, List.forall_mem_cons.mpr ⟨List.mem_of_getElem? (i := 177) rfl, List.forall_mem_cons.mpr ⟨List.mem_of_getElem? (i := 178) rfl, fun _ h => absurd h List.not_mem_nil⟩⟩⟩⟩⟩⟩⟩⟩⟩
theorem iw_X11_holds_X4 : ∀ w ∈ wsX40, w ∈ wsX11_holds := List.forall_mem_cons.mpr ⟨List.mem_of_getElem? (i := 185) rfl, fun _ h => absurd h List.not_mem_nil⟩
theorem iw_X11_holds_X3 : ∀ w ∈ wsX30, w ∈ wsX11_holds := List.forall_mem_cons.mpr ⟨List.mem_of_getElem? (i := 183) rfl, List.forall_mem_cons.mpr ⟨List.mem_of_getElem? (i := 184) rfl, fun _ h => absurd h List.not_mem_nil⟩⟩
theorem iw_X11_holds_X6 : ∀ w ∈ wsX60, w ∈ wsX11_holds := List.forall_mem_cons.mpr ⟨List.mem_of_getElem? (i := 193) rfl, List.forall_mem_cons.mpr ⟨List.mem_of_getElem? (i := 194) rfl, List.forall_mem_cons.mpr ⟨List.mem_of_getElem? (i := 195) rfl, List.forall_mem_cons.mpr ⟨List.mem_of_getElem? (i := 196) rfl, List.forall_mem_cons.mpr ⟨List.mem_of_getElem? (i := 197) rfl, List.forall_mem_cons.mpr ⟨List.mem_of_getElem? (i := 198) rfl, List.forall_mem_cons.mpr ⟨List.mem_of_getElem? (i := 199) rfl, List.forall_mem_cons.mpr ⟨List.mem_of_getElem? (i := 200) rfl, fun _ h => absurd h List.not_mem_nil⟩⟩⟩⟩⟩⟩⟩⟩
theorem iw_X11_holds_X7 : ∀ w ∈ wsX70, w ∈ wsX11_holds := List.forall_mem_cons.mpr ⟨List.mem_of_getElem? (i := 186) rfl, List.forall_mem_cons.mpr ⟨List.mem_of_getElem? (i := 187) rfl, List.forall_mem_cons.mpr ⟨List.mem_of_getElem? (i := 188) rfl, fun _ h => absurd h List.not_mem_nil⟩⟩⟩
theorem iw_X11_holds_X1 : ∀ w ∈ wsX10, w ∈ wsX11_holds := List.forall_mem_cons.mpr ⟨List.mem_of_getElem? (i := 201) rfl, List.forall_mem_cons.mpr ⟨List.mem_of_getElem? (i := 202) rfl, fun _ h => absurd h List.not_mem_nil⟩⟩
theorem iw_X11_holds_X8 : ∀ w ∈ wsX80, w ∈ wsX11_holds := List.forall_mem_cons.mpr ⟨List.mem_of_getElem? (i := 189) rfl, List.forall_mem_cons.mpr ⟨List.mem_of_getElem? (i := 190) rfl, List.forall_mem_cons.mpr ⟨List.mem_of_getElem? (i := 191) rfl, List.forall_mem_cons.mpr ⟨List.mem_of_getElem? (i := 192) rfl, fun _ h => absurd h List.not_mem_nil⟩⟩⟩⟩
theorem iw_X11_holds_X10 : ∀ w ∈ wsX100, w ∈ wsX11_holds := List.forall_mem_cons.mpr ⟨List.mem_of_getElem? (i := 179) rfl, List.forall_mem_cons.mpr ⟨List.mem_of_getElem? (i := 180) rfl, List.forall_mem_cons.mpr ⟨List.mem_of_getElem? (i := 181) rfl, List.forall_mem_cons.mpr ⟨List.mem_of_getElem? (i := 182) rfl, fun _ h => absurd h List.not_mem_nil⟩⟩⟩⟩
def f_X11_holds (N : Nat) (MC : Nat) (MS : Nat) (v1 : Int32) (sp_unlike : Int32) (sp_number : Int64) (sp_partsKept : Int32) (sp_partsNumber : Int64) (wi_length : Int32) (n_row : Nat) (a_row : Nat → Int32) (n_list : Nat) (a_list : Nat → Int32) (a_prime : Nat → Int64) (a_times : Nat → Int32) (a_parts : Nat → Int64) (n_all : Nat) (a_all : Nat → Int32) (n_apart : Nat) (a_apart : Nat → Int32) (n_traits : Nat) (a_traits : Nat → Int32) (a_text : Nat → Int32) : Option (Int32 × Int32 × Int64 × Int32 × Int64 × Nat × (Nat → Int32) × Nat × (Nat → Int32) × (Nat → Int64) × (Nat → Int32) × (Nat → Int64) × Nat × (Nat → Int32) × Nat × (Nat → Int32) × Nat × (Nat → Int32)) :=
  if 0 ≤ MC ∧ 0 ≤ MS then
    Option.bind (f_X11_within N v1 (1 : Int32) (5000 : Int32)) fun r1z =>
    if r1z = 0 then
      if 0 ≤ MC ∧ 0 ≤ MS then
        some ((-1 : Int32), sp_unlike, sp_number, sp_partsKept, sp_partsNumber, n_row, a_row, n_list, a_list, a_prime, a_times, a_parts, n_all, a_all, n_apart, a_apart, n_traits, a_traits)
      else
        none
    else
      if 0 ≤ MC ∧ 0 ≤ MS then
        Option.bind (f_X10_firstFault N  wi_length a_text) fun r6z =>
        if r6z = (-4 : Int32) then
          if 0 + MC ≤ MC ∧ 0 + MS ≤ MS then
            Option.bind (f_X11_prepareTraits N MC MS  sp_unlike sp_number sp_partsKept sp_partsNumber n_row a_row n_list a_list a_prime a_times a_parts n_all a_all n_apart a_apart n_traits a_traits) fun r11z =>
            if 0 + MC ≤ MC ∧ 0 + MS ≤ MS then
              Option.bind (f_X10_agrees N v1 wi_length r11z.2.2.2.2.2.2.2.2.2.2.2.2.2.2.2.1 r11z.2.2.2.2.2.2.2.2.2.2.2.2.2.2.2.2 a_text) fun r15z =>
              if r15z = 0 then
                if 0 + MC ≤ MC ∧ 0 + MS ≤ MS then
                  some ((0 : Int32), r11z.1, r11z.2.1, r11z.2.2.1, r11z.2.2.2.1, r11z.2.2.2.2.1, r11z.2.2.2.2.2.1, r11z.2.2.2.2.2.2.1, r11z.2.2.2.2.2.2.2.1, r11z.2.2.2.2.2.2.2.2.1, r11z.2.2.2.2.2.2.2.2.2.1, r11z.2.2.2.2.2.2.2.2.2.2.1, r11z.2.2.2.2.2.2.2.2.2.2.2.1, r11z.2.2.2.2.2.2.2.2.2.2.2.2.1, r11z.2.2.2.2.2.2.2.2.2.2.2.2.2.1, r11z.2.2.2.2.2.2.2.2.2.2.2.2.2.2.1, r11z.2.2.2.2.2.2.2.2.2.2.2.2.2.2.2.1, r11z.2.2.2.2.2.2.2.2.2.2.2.2.2.2.2.2)
                else
                  none
              else
                if 0 + MC ≤ MC ∧ 0 + MS ≤ MS then
                  some ((1 : Int32), r11z.1, r11z.2.1, r11z.2.2.1, r11z.2.2.2.1, r11z.2.2.2.2.1, r11z.2.2.2.2.2.1, r11z.2.2.2.2.2.2.1, r11z.2.2.2.2.2.2.2.1, r11z.2.2.2.2.2.2.2.2.1, r11z.2.2.2.2.2.2.2.2.2.1, r11z.2.2.2.2.2.2.2.2.2.2.1, r11z.2.2.2.2.2.2.2.2.2.2.2.1, r11z.2.2.2.2.2.2.2.2.2.2.2.2.1, r11z.2.2.2.2.2.2.2.2.2.2.2.2.2.1, r11z.2.2.2.2.2.2.2.2.2.2.2.2.2.2.1, r11z.2.2.2.2.2.2.2.2.2.2.2.2.2.2.2.1, r11z.2.2.2.2.2.2.2.2.2.2.2.2.2.2.2.2)
                else
                  none
            else
              none
          else
            none
        else
          if 0 ≤ MC ∧ 0 ≤ MS then
            some ((-2 : Int32), sp_unlike, sp_number, sp_partsKept, sp_partsNumber, n_row, a_row, n_list, a_list, a_prime, a_times, a_parts, n_all, a_all, n_apart, a_apart, n_traits, a_traits)
          else
            none
      else
        none
  else
    none
set_option maxRecDepth 100000 in
set_option maxHeartbeats 4000000 in
theorem k_X11_holds_0 {p : Program} {l : Launch} {e : Env} {s : State} {m : MethodId} {args : Array Value} {below : List Frame} {meth : Method} {c : Code} {dC : Nat → ClassId} {dI : Nat → Nat → Nat} {cyI cyJ cyZ : ClassId} {A : Nat → Prop} (C0 : mC p s m meth c args cX11_holds (some .int) 2 RX11 wsX11_holds (gK dC dI cyI cyJ cyZ) A) (N : Nat) (MC MS : Nat) (res : Int32 × Int32 × Int64 × Int32 × Int64 × Nat × (Nat → Int32) × Nat × (Nat → Int32) × (Nat → Int64) × (Nat → Int32) × (Nat → Int64) × Nat × (Nat → Int32) × Nat × (Nat → Int32) × Nat × (Nat → Int32)) (q_G : Nat) (q_Sc : Nat) (q_Pr : Nat) (q_Sp : Nat) (q_Tb : Nat) (q_Mk : Nat) (q_Tr : Nat) (q_Ws : Nat) (q_prime : Nat) (q_times : Nat) (q_parts : Nat) (q_text : Nat) (q_Ch : Nat) (q_Sk : Nat) (q_Wh : Nat) (q_Pk2 : Nat) (v1 : Int32) (sp_unlike : Int32) (sp_number : Int64) (sp_partsKept : Int32) (sp_partsNumber : Int64) (wi_length : Int32) (n_row : Nat) (a_row : Nat → Int32) (n_list : Nat) (a_list : Nat → Int32) (a_prime : Nat → Int64) (a_times : Nat → Int32) (a_parts : Nat → Int64) (n_all : Nat) (a_all : Nat → Int32) (n_apart : Nat) (a_apart : Nat → Int32) (n_traits : Nat) (a_traits : Nat → Int32) (a_text : Nat → Int32) (q_row : Nat) (q_list : Nat) (q_all : Nat) (q_apart : Nat) (q_traits : Nat) (h : f_X11_holds N MC MS v1 sp_unlike sp_number sp_partsKept sp_partsNumber wi_length n_row a_row n_list a_list a_prime a_times a_parts n_all a_all n_apart a_apart n_traits a_traits a_text = some res) : ∀ (H : Heap) (locs : List Loc), va_P (dC, dI) vwCl (wd54 cyI cyJ cyZ q_G q_Sc q_Pr q_Sp q_Tb q_Mk q_Tr q_Ws q_row q_list q_prime q_times q_parts q_all q_apart q_traits q_text q_Ch q_Sk q_Wh q_Pk2 sp_unlike sp_number sp_partsKept sp_partsNumber wi_length n_row a_row n_list a_list a_prime a_times a_parts n_all a_all n_apart a_apart n_traits a_traits a_text) H → va_D A (wd54 cyI cyJ cyZ q_G q_Sc q_Pr q_Sp q_Tb q_Mk q_Tr q_Ws q_row q_list q_prime q_times q_parts q_all q_apart q_traits q_text q_Ch q_Sk q_Wh q_Pk2 sp_unlike sp_number sp_partsKept sp_partsNumber wi_length n_row a_row n_list a_list a_prime a_times a_parts n_all a_all n_apart a_apart n_traits a_traits a_text) → va_S A s.heap H locs → ∀ (ls : Array Slot), lv_has ls 2 [(0, .ref q_G), (1, .int v1)] → W p l e (headSpec wsX11_holds (rm_X11_holds MC MS)).room s m args below meth c H locs 0 0 (MQ below (va_Qi (fun (r : Int32) (_ : Nat × Nat × Nat × Nat × Nat) => r = res.1) (bW dC dI (fun (u : Nat × Nat × Nat × Nat × Nat) => (wd54 cyI cyJ cyZ q_G q_Sc q_Pr q_Sp q_Tb q_Mk q_Tr q_Ws u.1 u.2.1 q_prime q_times q_parts u.2.2.1 u.2.2.2.1 u.2.2.2.2 q_text q_Ch q_Sk q_Wh q_Pk2 res.2.1 res.2.2.1 res.2.2.2.1 res.2.2.2.2.1 wi_length res.2.2.2.2.2.1 res.2.2.2.2.2.2.1 res.2.2.2.2.2.2.2.1 res.2.2.2.2.2.2.2.2.1 res.2.2.2.2.2.2.2.2.2.1 res.2.2.2.2.2.2.2.2.2.2.1 res.2.2.2.2.2.2.2.2.2.2.2.1 res.2.2.2.2.2.2.2.2.2.2.2.2.1 res.2.2.2.2.2.2.2.2.2.2.2.2.2.1 res.2.2.2.2.2.2.2.2.2.2.2.2.2.2.1 res.2.2.2.2.2.2.2.2.2.2.2.2.2.2.2.1 res.2.2.2.2.2.2.2.2.2.2.2.2.2.2.2.2.1 res.2.2.2.2.2.2.2.2.2.2.2.2.2.2.2.2.2 a_text)) A) A) args s MC MS A) (F0 m 0 ls []) := by
  obtain ⟨hx, hb, hr, hml, hown, hts, hlocks, hG, hA⟩ := id C0
  have hK := hG.1
  intro H locs hP hD hS ls hl
  unfold f_X11_holds at h
  refine lv_iload_n hx hb dX11_holds_0 rfl (lv_at hl 1 rfl) ?_
  refine lv_iconst (v := (1 : Int32)) hx hb dX11_holds_1 (by decide) ?_
  refine lv_sipush (v := (5000 : Int32)) hx hb dX11_holds_2 (by decide) ?_
  obtain ⟨b2z, h⟩ := xa h
  obtain ⟨r1z, hr1z, h⟩ := xb_at h
  have hPc := hP.sub (ws' := (wd37 cyI cyJ cyZ)) [] rfl
  have hDc := hD.sub (ws' := (wd37 cyI cyJ cyZ)) [] (by decide) rfl
  refine cal_i [] [0, 1, 2, 3, 4, 5, 6, 7, 8, 9, 10, 11, 12, 13, 14, 15, 16] (va_runS (As := [.int v1, .int (1 : Int32), .int (5000 : Int32)]) (rest := []) ⟨hx, hb, hml, hown, hts⟩ (c_X11_within l dC dI cyI cyJ cyZ N r1z H.size  v1 (1 : Int32) (5000 : Int32)  hr1z) (va_cwS 3 hts gX11_holds_X11_within rfl rfl rfl hd_X11_within ⟨Nat.le_of_ble_eq_true rfl, Nat.le_of_ble_eq_true rfl⟩) ⟨pC.blind, pC.pre hPc hG hDc⟩ rfl rfl hl.1 rfl (lv_room (Nat.le_of_ble_eq_true rfl)) dX11_holds_5 ⟨b2z.1, b2z.2⟩) hP hD hS hA rfl rfl rfl (by decide) (fun x4z u3z H locs hw hP hD hS => ?_)
  obtain rfl := hw.symm
  have hP : va_P (dC, dI) vwCl (wd54 cyI cyJ cyZ q_G q_Sc q_Pr q_Sp q_Tb q_Mk q_Tr q_Ws q_row q_list q_prime q_times q_parts q_all q_apart q_traits q_text q_Ch q_Sk q_Wh q_Pk2 sp_unlike sp_number sp_partsKept sp_partsNumber wi_length n_row a_row n_list a_list a_prime a_times a_parts n_all a_all n_apart a_apart n_traits a_traits a_text) H := hP.sub [0, 1, 2, 3, 4, 5, 6, 7, 8, 9, 10, 11, 12, 13, 14, 15, 16] rfl
  have hD : va_D A (wd54 cyI cyJ cyZ q_G q_Sc q_Pr q_Sp q_Tb q_Mk q_Tr q_Ws q_row q_list q_prime q_times q_parts q_all q_apart q_traits q_text q_Ch q_Sk q_Wh q_Pk2 sp_unlike sp_number sp_partsKept sp_partsNumber wi_length n_row a_row n_list a_list a_prime a_times a_parts n_all a_all n_apart a_apart n_traits a_traits a_text) := hD.sub [0, 1, 2, 3, 4, 5, 6, 7, 8, 9, 10, 11, 12, 13, 14, 15, 16] (by decide) rfl
  refine lv_if_ne (tgt := 13) hx hb dX11_holds_8 (by decide) (fun c5z => ?_) (fun c5z => ?_)
  · have h := xf h c5z
    refine lv_aload_n hx hb dX11_holds_13 rfl (lv_at hl 0 rfl) ?_
    refine va_get (D := (dC, dI)) (ci := 11) (v := .ref q_Ws) (C := RX11) (T := TX11) (N := 9) hx hb hts iw_X11_holds_X11 hown hK hP 0 rfl rfl 8 (by decide) (hts (.fieldLink RX11 87 "GoesInto" "wishes" "LGoesInto$Wishes;") (List.mem_of_getElem? (i := 1) rfl)) (fun _ h9 => h9) rfl dX11_holds_14 ?_
    obtain ⟨b7z, h⟩ := xa h
    obtain ⟨r6z, hr6z, h⟩ := xb_at h
    have hPc := hP.sub (ws' := (wd38 cyI cyJ cyZ q_Ws q_text q_Tr q_Pk2 wi_length a_text)) [7, 16] rfl
    have hDc := hD.sub (ws' := (wd38 cyI cyJ cyZ q_Ws q_text q_Tr q_Pk2 wi_length a_text)) [7, 16] (by decide) rfl
    refine cal_i [7, 16] [0, 1, 2, 3, 4, 5, 6, 8, 9, 10, 11, 12, 13, 14, 15] (va_runV (As := []) (rest := []) ⟨hx, hb, hml, hown, hts⟩ (c_X10_firstFault l dC dI cyI cyJ cyZ N r6z H.size q_Ws q_text q_Tr q_Pk2  wi_length a_text hr6z) (cwV 0 hts gX11_holds_X10_firstFault rfl rfl rfl ⟨rfl, hd_X10_firstFault⟩ ⟨Nat.le_of_ble_eq_true rfl, Nat.le_of_ble_eq_true rfl⟩) ⟨pC.blind, va_recv hK hPc (ci := 10) (q0 := 0) rfl rfl, pC.pre hPc hG hDc⟩ rfl rfl hl.1 rfl (lv_room (Nat.le_of_ble_eq_true rfl)) dX11_holds_17 ⟨b7z.1, b7z.2⟩) hP hD hS hA rfl rfl rfl (by decide) (fun x9z u8z H locs hw hP hD hS => ?_)
    obtain rfl := hw.symm
    have hP : va_P (dC, dI) vwCl (wd54 cyI cyJ cyZ q_G q_Sc q_Pr q_Sp q_Tb q_Mk q_Tr q_Ws q_row q_list q_prime q_times q_parts q_all q_apart q_traits q_text q_Ch q_Sk q_Wh q_Pk2 sp_unlike sp_number sp_partsKept sp_partsNumber wi_length n_row a_row n_list a_list a_prime a_times a_parts n_all a_all n_apart a_apart n_traits a_traits a_text) H := hP.sub [0, 1, 2, 3, 4, 5, 6, 15, 7, 8, 9, 10, 11, 12, 13, 14, 16] rfl
    have hD : va_D A (wd54 cyI cyJ cyZ q_G q_Sc q_Pr q_Sp q_Tb q_Mk q_Tr q_Ws q_row q_list q_prime q_times q_parts q_all q_apart q_traits q_text q_Ch q_Sk q_Wh q_Pk2 sp_unlike sp_number sp_partsKept sp_partsNumber wi_length n_row a_row n_list a_list a_prime a_times a_parts n_all a_all n_apart a_apart n_traits a_traits a_text) := hD.sub [0, 1, 2, 3, 4, 5, 6, 15, 7, 8, 9, 10, 11, 12, 13, 14, 16] (by decide) rfl
    refine lv_bipush (v := (-4 : Int32)) hx hb dX11_holds_20 (by decide) ?_
    refine lv_icmp_eq (tgt := 28) hx hb dX11_holds_22 (by decide) (fun c10z => ?_) (fun c10z => ?_)
    · have h := xt h c10z
      refine lv_aload_n hx hb dX11_holds_28 rfl (lv_at hl 0 rfl) ?_
      obtain ⟨b12z, h⟩ := xa h
      obtain ⟨r11z, hr11z, h⟩ := xb_at h
      have hPc := hP.sub (ws' := (wd42 cyI cyJ cyZ q_G q_Sc q_Pr q_Sp q_Tb q_Mk q_Tr q_row q_list q_prime q_times q_parts q_all q_apart q_traits q_Ch q_Sk q_Wh q_Ws sp_unlike sp_number sp_partsKept sp_partsNumber n_row a_row n_list a_list a_prime a_times a_parts n_all a_all n_apart a_apart n_traits a_traits)) [0, 1, 2, 3, 4, 5, 6, 8, 9, 10, 11, 12, 13, 14, 15] rfl
      have hDc := hD.sub (ws' := (wd42 cyI cyJ cyZ q_G q_Sc q_Pr q_Sp q_Tb q_Mk q_Tr q_row q_list q_prime q_times q_parts q_all q_apart q_traits q_Ch q_Sk q_Wh q_Ws sp_unlike sp_number sp_partsKept sp_partsNumber n_row a_row n_list a_list a_prime a_times a_parts n_all a_all n_apart a_apart n_traits a_traits)) [0, 1, 2, 3, 4, 5, 6, 8, 9, 10, 11, 12, 13, 14, 15] (by decide) rfl
      refine cal_v [0, 1, 2, 3, 4, 5, 6, 8, 9, 10, 11, 12, 13, 14, 15] [7, 16] (va_runV (As := []) (rest := []) ⟨hx, hb, hml, hown, hts⟩ (c_X11_prepareTraits l dC dI cyI cyJ cyZ N MC MS r11z H.size q_G q_Sc q_Pr q_Sp q_Tb q_Mk q_Tr q_row q_list q_prime q_times q_parts q_all q_apart q_traits q_Ch q_Sk q_Wh q_Ws  sp_unlike sp_number sp_partsKept sp_partsNumber n_row a_row n_list a_list a_prime a_times a_parts n_all a_all n_apart a_apart n_traits a_traits hr11z) (cwV 0 hts gX11_holds_X11_prepareTraits rfl rfl rfl ⟨rfl, hd_X11_prepareTraits⟩ ⟨Nat.le_of_ble_eq_true rfl, Nat.le_of_ble_eq_true rfl⟩) ⟨pC.blind, va_recv hK hPc (ci := 11) (q0 := 0) rfl rfl, pC.pre hPc hG hDc⟩ rfl rfl hl.1 rfl (lv_room (Nat.le_of_ble_eq_true rfl)) dX11_holds_29 ⟨b12z.1, b12z.2⟩) hP hD hS hA rfl rfl rfl (by decide) (fun u13z H locs _ hP hD hS => ?_)
      have hP : va_P (dC, dI) vwCl (wd54 cyI cyJ cyZ q_G q_Sc q_Pr q_Sp q_Tb q_Mk q_Tr q_Ws u13z.1 u13z.2.1 q_prime q_times q_parts u13z.2.2.1 u13z.2.2.2.1 u13z.2.2.2.2 q_text q_Ch q_Sk q_Wh q_Pk2 r11z.1 r11z.2.1 r11z.2.2.1 r11z.2.2.2.1 wi_length r11z.2.2.2.2.1 r11z.2.2.2.2.2.1 r11z.2.2.2.2.2.2.1 r11z.2.2.2.2.2.2.2.1 r11z.2.2.2.2.2.2.2.2.1 r11z.2.2.2.2.2.2.2.2.2.1 r11z.2.2.2.2.2.2.2.2.2.2.1 r11z.2.2.2.2.2.2.2.2.2.2.2.1 r11z.2.2.2.2.2.2.2.2.2.2.2.2.1 r11z.2.2.2.2.2.2.2.2.2.2.2.2.2.1 r11z.2.2.2.2.2.2.2.2.2.2.2.2.2.2.1 r11z.2.2.2.2.2.2.2.2.2.2.2.2.2.2.2.1 r11z.2.2.2.2.2.2.2.2.2.2.2.2.2.2.2.2 a_text) H := hP.sub [2, 3, 4, 5, 6, 7, 8, 0, 9, 10, 11, 12, 13, 14, 15, 16, 1] rfl
      have hD : va_D A (wd54 cyI cyJ cyZ q_G q_Sc q_Pr q_Sp q_Tb q_Mk q_Tr q_Ws u13z.1 u13z.2.1 q_prime q_times q_parts u13z.2.2.1 u13z.2.2.2.1 u13z.2.2.2.2 q_text q_Ch q_Sk q_Wh q_Pk2 r11z.1 r11z.2.1 r11z.2.2.1 r11z.2.2.2.1 wi_length r11z.2.2.2.2.1 r11z.2.2.2.2.2.1 r11z.2.2.2.2.2.2.1 r11z.2.2.2.2.2.2.2.1 r11z.2.2.2.2.2.2.2.2.1 r11z.2.2.2.2.2.2.2.2.2.1 r11z.2.2.2.2.2.2.2.2.2.2.1 r11z.2.2.2.2.2.2.2.2.2.2.2.1 r11z.2.2.2.2.2.2.2.2.2.2.2.2.1 r11z.2.2.2.2.2.2.2.2.2.2.2.2.2.1 r11z.2.2.2.2.2.2.2.2.2.2.2.2.2.2.1 r11z.2.2.2.2.2.2.2.2.2.2.2.2.2.2.2.1 r11z.2.2.2.2.2.2.2.2.2.2.2.2.2.2.2.2 a_text) := hD.sub [2, 3, 4, 5, 6, 7, 8, 0, 9, 10, 11, 12, 13, 14, 15, 16, 1] (by decide) rfl
      refine lv_aload_n hx hb dX11_holds_32 rfl (lv_at hl 0 rfl) ?_
      refine va_get (D := (dC, dI)) (ci := 11) (v := .ref q_Ws) (C := RX11) (T := TX11) (N := 9) hx hb hts iw_X11_holds_X11 hown hK hP 0 rfl rfl 8 (by decide) (hts (.fieldLink RX11 87 "GoesInto" "wishes" "LGoesInto$Wishes;") (List.mem_of_getElem? (i := 1) rfl)) (fun _ h9 => h9) rfl dX11_holds_33 ?_
      refine lv_iload_n hx hb dX11_holds_36 rfl (lv_at hl 1 rfl) ?_
      obtain ⟨b16z, h⟩ := xa h
      obtain ⟨r15z, hr15z, h⟩ := xb_at h
      have hPc := hP.sub (ws' := (wd39 cyI cyJ cyZ q_Tr q_Ws u13z.2.2.2.2 q_text q_Sp q_Tb q_Mk q_Pk2 wi_length r11z.2.2.2.2.2.2.2.2.2.2.2.2.2.2.2.1 r11z.2.2.2.2.2.2.2.2.2.2.2.2.2.2.2.2 a_text)) [6, 7, 15, 16] rfl
      have hDc := hD.sub (ws' := (wd39 cyI cyJ cyZ q_Tr q_Ws u13z.2.2.2.2 q_text q_Sp q_Tb q_Mk q_Pk2 wi_length r11z.2.2.2.2.2.2.2.2.2.2.2.2.2.2.2.1 r11z.2.2.2.2.2.2.2.2.2.2.2.2.2.2.2.2 a_text)) [6, 7, 15, 16] (by decide) rfl
      refine cal_i [6, 7, 15, 16] [0, 1, 2, 3, 4, 5, 8, 9, 10, 11, 12, 13, 14] (va_runV (As := [.int v1]) (rest := []) ⟨hx, hb, hml, hown, hts⟩ (c_X10_agrees l dC dI cyI cyJ cyZ N r15z H.size q_Tr q_Ws u13z.2.2.2.2 q_text q_Sp q_Tb q_Mk q_Pk2 v1 wi_length r11z.2.2.2.2.2.2.2.2.2.2.2.2.2.2.2.1 r11z.2.2.2.2.2.2.2.2.2.2.2.2.2.2.2.2 a_text hr15z) (cwV 1 hts gX11_holds_X10_agrees rfl rfl rfl ⟨rfl, hd_X10_agrees⟩ ⟨Nat.le_of_ble_eq_true rfl, Nat.le_of_ble_eq_true rfl⟩) ⟨pC.blind, va_recv hK hPc (ci := 10) (q0 := 1) rfl rfl, pC.pre hPc hG hDc⟩ rfl rfl hl.1 rfl (lv_room (Nat.le_of_ble_eq_true rfl)) dX11_holds_37 ⟨b16z.1, b16z.2⟩) hP hD hS hA rfl rfl rfl (by decide) (fun x18z u17z H locs hw hP hD hS => ?_)
      obtain rfl := hw.symm
      have hP : va_P (dC, dI) vwCl (wd54 cyI cyJ cyZ q_G q_Sc q_Pr q_Sp q_Tb q_Mk q_Tr q_Ws u13z.1 u13z.2.1 q_prime q_times q_parts u13z.2.2.1 u13z.2.2.2.1 u13z.2.2.2.2 q_text q_Ch q_Sk q_Wh q_Pk2 r11z.1 r11z.2.1 r11z.2.2.1 r11z.2.2.2.1 wi_length r11z.2.2.2.2.1 r11z.2.2.2.2.2.1 r11z.2.2.2.2.2.2.1 r11z.2.2.2.2.2.2.2.1 r11z.2.2.2.2.2.2.2.2.1 r11z.2.2.2.2.2.2.2.2.2.1 r11z.2.2.2.2.2.2.2.2.2.2.1 r11z.2.2.2.2.2.2.2.2.2.2.2.1 r11z.2.2.2.2.2.2.2.2.2.2.2.2.1 r11z.2.2.2.2.2.2.2.2.2.2.2.2.2.1 r11z.2.2.2.2.2.2.2.2.2.2.2.2.2.2.1 r11z.2.2.2.2.2.2.2.2.2.2.2.2.2.2.2.1 r11z.2.2.2.2.2.2.2.2.2.2.2.2.2.2.2.2 a_text) H := hP.sub [0, 1, 2, 3, 4, 5, 13, 14, 6, 7, 8, 9, 10, 11, 12, 15, 16] rfl
      have hD : va_D A (wd54 cyI cyJ cyZ q_G q_Sc q_Pr q_Sp q_Tb q_Mk q_Tr q_Ws u13z.1 u13z.2.1 q_prime q_times q_parts u13z.2.2.1 u13z.2.2.2.1 u13z.2.2.2.2 q_text q_Ch q_Sk q_Wh q_Pk2 r11z.1 r11z.2.1 r11z.2.2.1 r11z.2.2.2.1 wi_length r11z.2.2.2.2.1 r11z.2.2.2.2.2.1 r11z.2.2.2.2.2.2.1 r11z.2.2.2.2.2.2.2.1 r11z.2.2.2.2.2.2.2.2.1 r11z.2.2.2.2.2.2.2.2.2.1 r11z.2.2.2.2.2.2.2.2.2.2.1 r11z.2.2.2.2.2.2.2.2.2.2.2.1 r11z.2.2.2.2.2.2.2.2.2.2.2.2.1 r11z.2.2.2.2.2.2.2.2.2.2.2.2.2.1 r11z.2.2.2.2.2.2.2.2.2.2.2.2.2.2.1 r11z.2.2.2.2.2.2.2.2.2.2.2.2.2.2.2.1 r11z.2.2.2.2.2.2.2.2.2.2.2.2.2.2.2.2 a_text) := hD.sub [0, 1, 2, 3, 4, 5, 13, 14, 6, 7, 8, 9, 10, 11, 12, 15, 16] (by decide) rfl
      refine lv_if_eq (tgt := 47) hx hb dX11_holds_40 (by decide) (fun c19z => ?_) (fun c19z => ?_)
      · have h := xt h c19z
        refine lv_iconst (v := (0 : Int32)) hx hb dX11_holds_47 (by decide) ?_
        obtain ⟨b20z, h⟩ := xa h
        refine W.widen (k := MC) (n := MS) b20z.1 b20z.2 ?_
        obtain rfl := Option.some.inj h
        exact W.iret (v := (0 : Int32)) hx hb hr (fun t ht hW => ⟨⟨_, (u13z.1, u13z.2.1, u13z.2.2.1, u13z.2.2.2.1, u13z.2.2.2.2), rfl, rfl, by rw [ht]; exact hP, hD⟩, hS.F ht⟩) hS.2.2 dX11_holds_48 hlocks
      · have h := xf h c19z
        refine lv_iconst (v := (1 : Int32)) hx hb dX11_holds_43 (by decide) ?_
        refine lv_goto (tgt := 48) hx hb dX11_holds_44 (by decide) ?_
        obtain ⟨b21z, h⟩ := xa h
        refine W.widen (k := MC) (n := MS) b21z.1 b21z.2 ?_
        obtain rfl := Option.some.inj h
        exact W.iret (v := (1 : Int32)) hx hb hr (fun t ht hW => ⟨⟨_, (u13z.1, u13z.2.1, u13z.2.2.1, u13z.2.2.2.1, u13z.2.2.2.2), rfl, rfl, by rw [ht]; exact hP, hD⟩, hS.F ht⟩) hS.2.2 dX11_holds_48 hlocks
    · have h := xf h c10z
      refine lv_bipush (v := (-2 : Int32)) hx hb dX11_holds_25 (by decide) ?_
      obtain ⟨b22z, h⟩ := xa h
      refine W.widen (k := MC) (n := MS) b22z.1 b22z.2 ?_
      obtain rfl := Option.some.inj h
      exact W.iret (v := (-2 : Int32)) hx hb hr (fun t ht hW => ⟨⟨_, (q_row, q_list, q_all, q_apart, q_traits), rfl, rfl, by rw [ht]; exact hP, hD⟩, hS.F ht⟩) hS.2.2 dX11_holds_27 hlocks
  · have h := xt h c5z
    refine lv_iconst (v := (-1 : Int32)) hx hb dX11_holds_11 (by decide) ?_
    obtain ⟨b23z, h⟩ := xa h
    refine W.widen (k := MC) (n := MS) b23z.1 b23z.2 ?_
    obtain rfl := Option.some.inj h
    exact W.iret (v := (-1 : Int32)) hx hb hr (fun t ht hW => ⟨⟨_, (q_row, q_list, q_all, q_apart, q_traits), rfl, rfl, by rw [ht]; exact hP, hD⟩, hS.F ht⟩) hS.2.2 dX11_holds_12 hlocks
set_option maxRecDepth 100000 in
set_option maxHeartbeats 4000000 in
theorem c_X11_holds (l : Launch) (dC : Nat → ClassId) (dI : Nat → Nat → Nat) (cyI cyJ cyZ : ClassId) (N : Nat) (MC MS : Nat) (res : Int32 × Int32 × Int64 × Int32 × Int64 × Nat × (Nat → Int32) × Nat × (Nat → Int32) × (Nat → Int64) × (Nat → Int32) × (Nat → Int64) × Nat × (Nat → Int32) × Nat × (Nat → Int32) × Nat × (Nat → Int32)) (sz : Nat) (q_G : Nat) (q_Sc : Nat) (q_Pr : Nat) (q_Sp : Nat) (q_Tb : Nat) (q_Mk : Nat) (q_Tr : Nat) (q_Ws : Nat) (q_row : Nat) (q_list : Nat) (q_prime : Nat) (q_times : Nat) (q_parts : Nat) (q_all : Nat) (q_apart : Nat) (q_traits : Nat) (q_text : Nat) (q_Ch : Nat) (q_Sk : Nat) (q_Wh : Nat) (q_Pk2 : Nat) (v1 : Int32) (sp_unlike : Int32) (sp_number : Int64) (sp_partsKept : Int32) (sp_partsNumber : Int64) (wi_length : Int32) (n_row : Nat) (a_row : Nat → Int32) (n_list : Nat) (a_list : Nat → Int32) (a_prime : Nat → Int64) (a_times : Nat → Int32) (a_parts : Nat → Int64) (n_all : Nat) (a_all : Nat → Int32) (n_apart : Nat) (a_apart : Nat → Int32) (n_traits : Nat) (a_traits : Nat → Int32) (a_text : Nat → Int32) (h : f_X11_holds N MC MS v1 sp_unlike sp_number sp_partsKept sp_partsNumber wi_length n_row a_row n_list a_list a_prime a_times a_parts n_all a_all n_apart a_apart n_traits a_traits a_text = some res) : Met l yX11_holds wsX11_holds (rm_X11_holds MC MS) (pC dC dI cyI cyJ cyZ [.ref q_G, .int v1] sz (wd54 cyI cyJ cyZ q_G q_Sc q_Pr q_Sp q_Tb q_Mk q_Tr q_Ws q_row q_list q_prime q_times q_parts q_all q_apart q_traits q_text q_Ch q_Sk q_Wh q_Pk2 sp_unlike sp_number sp_partsKept sp_partsNumber wi_length n_row a_row n_list a_list a_prime a_times a_parts n_all a_all n_apart a_apart n_traits a_traits a_text)) (va_Qi (fun (r : Int32) (_ : Nat × Nat × Nat × Nat × Nat) => r = res.1) (bW dC dI (fun (u : Nat × Nat × Nat × Nat × Nat) => (wd54 cyI cyJ cyZ q_G q_Sc q_Pr q_Sp q_Tb q_Mk q_Tr q_Ws u.1 u.2.1 q_prime q_times q_parts u.2.2.1 u.2.2.2.1 u.2.2.2.2 q_text q_Ch q_Sk q_Wh q_Pk2 res.2.1 res.2.2.1 res.2.2.2.1 res.2.2.2.2.1 wi_length res.2.2.2.2.2.1 res.2.2.2.2.2.2.1 res.2.2.2.2.2.2.2.1 res.2.2.2.2.2.2.2.2.1 res.2.2.2.2.2.2.2.2.2.1 res.2.2.2.2.2.2.2.2.2.2.1 res.2.2.2.2.2.2.2.2.2.2.2.1 res.2.2.2.2.2.2.2.2.2.2.2.2.1 res.2.2.2.2.2.2.2.2.2.2.2.2.2.1 res.2.2.2.2.2.2.2.2.2.2.2.2.2.2.1 res.2.2.2.2.2.2.2.2.2.2.2.2.2.2.2.1 res.2.2.2.2.2.2.2.2.2.2.2.2.2.2.2.2.1 res.2.2.2.2.2.2.2.2.2.2.2.2.2.2.2.2.2 a_text)) (va_A (wd54 cyI cyJ cyZ q_G q_Sc q_Pr q_Sp q_Tb q_Mk q_Tr q_Ws q_row q_list q_prime q_times q_parts q_all q_apart q_traits q_text q_Ch q_Sk q_Wh q_Pk2 sp_unlike sp_number sp_partsKept sp_partsNumber wi_length n_row a_row n_list a_list a_prime a_times a_parts n_all a_all n_apart a_apart n_traits a_traits a_text) sz)) (va_A (wd54 cyI cyJ cyZ q_G q_Sc q_Pr q_Sp q_Tb q_Mk q_Tr q_Ws q_row q_list q_prime q_times q_parts q_all q_apart q_traits q_text q_Ch q_Sk q_Wh q_Pk2 sp_unlike sp_number sp_partsKept sp_partsNumber wi_length n_row a_row n_list a_list a_prime a_times a_parts n_all a_all n_apart a_apart n_traits a_traits a_text) sz)) MC MS (va_A (wd54 cyI cyJ cyZ q_G q_Sc q_Pr q_Sp q_Tb q_Mk q_Tr q_Ws q_row q_list q_prime q_times q_parts q_all q_apart q_traits q_text q_Ch q_Sk q_Wh q_Pk2 sp_unlike sp_number sp_partsKept sp_partsNumber wi_length n_row a_row n_list a_list a_prime a_times a_parts n_all a_all n_apart a_apart n_traits a_traits a_text) sz) := by
  refine Met.ofW (cc := cX11_holds) (maxL := 2) (ret := (some .int)) (by decide) rfl ?_
  intro p e s m args below meth c s₁ B hml hv
  obtain ⟨rfl, hsz, hP, hG, hD0⟩ := hv
  have hx := B.exec
  have hb := B.bytes
  have hr := B.returns
  have hts := atoms_spec (ws := wsX11_holds) B.pre
  have hown : s.vm.findClass RX11 = some m.cls := findClass_of_methodNamed B.named
  have hlocks := B.notSynchronized
  subst hsz
  have hD := hD0.self (sz := s.heap.size)
  generalize hAe : va_A (wd54 cyI cyJ cyZ q_G q_Sc q_Pr q_Sp q_Tb q_Mk q_Tr q_Ws q_row q_list q_prime q_times q_parts q_all q_apart q_traits q_text q_Ch q_Sk q_Wh q_Pk2 sp_unlike sp_number sp_partsKept sp_partsNumber wi_length n_row a_row n_list a_list a_prime a_times a_parts n_all a_all n_apart a_apart n_traits a_traits a_text) s.heap.size = A at hD ⊢
  have hA : ∀ q : Nat, s.heap.size ≤ q → A q := fun q h => by rw [← hAe]; exact Or.inr h
  have hS : va_S A s.heap s.heap [] := va_S.rf
  have hl := lv_entry ([.ref q_G, .int v1]) (n := 2) (Nat.le_of_ble_eq_true rfl)
  rw [lg_entry_eq]
  generalize (lg_sl ([.ref q_G, .int v1]) ++ List.replicate (2 - (lg_sl ([.ref q_G, .int v1])).length) Slot.unset).toArray = ls at hl ⊢
  have hl : lv_has ls 2 [(0, .ref q_G), (1, .int v1)] := hl
  exact k_X11_holds_0 ⟨hx, hb, hr, hml, hown, hts, hlocks, hG, hA⟩ N MC MS res q_G q_Sc q_Pr q_Sp q_Tb q_Mk q_Tr q_Ws q_prime q_times q_parts q_text q_Ch q_Sk q_Wh q_Pk2 v1 sp_unlike sp_number sp_partsKept sp_partsNumber wi_length n_row a_row n_list a_list a_prime a_times a_parts n_all a_all n_apart a_apart n_traits a_traits a_text q_row q_list q_all q_apart q_traits h _ _ hP hD hS _ hl
abbrev rm_X11_count : Room := { frames := 2, cells := 0, slots := 0, locals := 42 }
theorem hd_X11_count : yX11_count.cls ≠ "java/lang/invoke/MethodHandle" ∧ yX11_count.cls ≠ "java/lang/invoke/VarHandle" ∧ (parseMethodDescriptor yX11_count.desc).map (fun d => d.parameters.length) = some 1 := by decide +kernel
theorem iw_X11_count_X11 : ∀ w ∈ wsX110, w ∈ wsX11_count := List.forall_mem_cons.mpr ⟨List.mem_of_getElem? (i := 16) rfl, List.forall_mem_cons.mpr ⟨List.mem_of_getElem? (i := 17) rfl, List.forall_mem_cons.mpr ⟨List.mem_of_getElem? (i := 18) rfl, List.forall_mem_cons.mpr ⟨List.mem_of_getElem? (i := 19) rfl, List.forall_mem_cons.mpr ⟨List.mem_of_getElem? (i := 20) rfl, List.forall_mem_cons.mpr ⟨List.mem_of_getElem? (i := 21) rfl, List.forall_mem_cons.mpr ⟨List.mem_of_getElem? (i := 22) rfl, List.forall_mem_cons.mpr ⟨List.mem_of_getElem? (i := 23) rfl, List.forall_mem_cons.mpr ⟨List.mem_of_getElem? (i := 24) rfl, fun _ h => absurd h List.not_mem_nil⟩⟩⟩⟩⟩⟩⟩⟩⟩
theorem iw_X11_count_X10 : ∀ w ∈ wsX100, w ∈ wsX11_count := List.forall_mem_cons.mpr ⟨List.mem_of_getElem? (i := 25) rfl, List.forall_mem_cons.mpr ⟨List.mem_of_getElem? (i := 26) rfl, List.forall_mem_cons.mpr ⟨List.mem_of_getElem? (i := 27) rfl, List.forall_mem_cons.mpr ⟨List.mem_of_getElem? (i := 28) rfl, fun _ h => absurd h List.not_mem_nil⟩⟩⟩⟩
def f_X11_count (N : Nat) (v1 : Int32) (wi_length : Int32) (a_text : Nat → Int32) : Option (Int32) :=
  Option.bind (f_X11_within N v1 (0 : Int32) (1 : Int32)) fun r1z =>
  if r1z = 0 then
    some (-1 : Int32)
  else
    if v1 = 0 then
      some wi_length
    else
      Option.bind (f_X10_howManyLook N  wi_length a_text) fun r6z =>
      some r6z
set_option maxRecDepth 100000 in
set_option maxHeartbeats 4000000 in
theorem k_X11_count_0 {p : Program} {l : Launch} {e : Env} {s : State} {m : MethodId} {args : Array Value} {below : List Frame} {meth : Method} {c : Code} {dC : Nat → ClassId} {dI : Nat → Nat → Nat} {cyI cyJ cyZ : ClassId} {A : Nat → Prop} (C0 : mC p s m meth c args cX11_count (some .int) 2 RX11 wsX11_count (gK dC dI cyI cyJ cyZ) A) (N : Nat) (res : Int32) (q_G : Nat) (q_Ws : Nat) (q_text : Nat) (q_Pr : Nat) (q_Sp : Nat) (q_Ch : Nat) (q_Tb : Nat) (q_Sk : Nat) (q_Wh : Nat) (q_Mk : Nat) (q_Tr : Nat) (q_Pk2 : Nat) (v1 : Int32) (wi_length : Int32) (a_text : Nat → Int32) (h : f_X11_count N v1 wi_length a_text = some res) : ∀ (H : Heap) (locs : List Loc), va_P (dC, dI) vwCl (wd52 cyI cyJ cyZ q_G q_Ws q_text q_Pr q_Sp q_Ch q_Tb q_Sk q_Wh q_Mk q_Tr q_Pk2 wi_length a_text) H → va_D A (wd52 cyI cyJ cyZ q_G q_Ws q_text q_Pr q_Sp q_Ch q_Tb q_Sk q_Wh q_Mk q_Tr q_Pk2 wi_length a_text) → va_S A s.heap H locs → ∀ (ls : Array Slot), lv_has ls 2 [(0, .ref q_G), (1, .int v1)] → W p l e (headSpec wsX11_count rm_X11_count).room s m args below meth c H locs 0 0 (MQ below (va_Qi (fun (r : Int32) (_ : Unit) => r = res) (bW dC dI (fun (u : Unit) => (wd52 cyI cyJ cyZ q_G q_Ws q_text q_Pr q_Sp q_Ch q_Tb q_Sk q_Wh q_Mk q_Tr q_Pk2 wi_length a_text)) A) A) args s 0 0 A) (F0 m 0 ls []) := by
  obtain ⟨hx, hb, hr, hml, hown, hts, hlocks, hG, hA⟩ := id C0
  have hK := hG.1
  intro H locs hP hD hS ls hl
  unfold f_X11_count at h
  refine lv_iload_n hx hb dX11_count_0 rfl (lv_at hl 1 rfl) ?_
  refine lv_iconst (v := (0 : Int32)) hx hb dX11_count_1 (by decide) ?_
  refine lv_iconst (v := (1 : Int32)) hx hb dX11_count_2 (by decide) ?_
  obtain ⟨r1z, hr1z, h⟩ := xb_at h
  have hPc := hP.sub (ws' := (wd37 cyI cyJ cyZ)) [] rfl
  have hDc := hD.sub (ws' := (wd37 cyI cyJ cyZ)) [] (by decide) rfl
  refine cal_i [] [0, 1, 2] (va_runS (As := [.int v1, .int (0 : Int32), .int (1 : Int32)]) (rest := []) ⟨hx, hb, hml, hown, hts⟩ (c_X11_within l dC dI cyI cyJ cyZ N r1z H.size  v1 (0 : Int32) (1 : Int32)  hr1z) (va_cwS 3 hts gX11_count_X11_within rfl rfl rfl hd_X11_within ⟨Nat.le_of_ble_eq_true rfl, Nat.le_of_ble_eq_true rfl⟩) ⟨pC.blind, pC.pre hPc hG hDc⟩ rfl rfl hl.1 rfl (lv_room (Nat.le_of_ble_eq_true rfl)) dX11_count_3 ⟨Nat.zero_le _, Nat.zero_le _⟩) hP hD hS hA rfl rfl rfl (by decide) (fun x3z u2z H locs hw hP hD hS => ?_)
  obtain rfl := hw.symm
  have hP : va_P (dC, dI) vwCl (wd52 cyI cyJ cyZ q_G q_Ws q_text q_Pr q_Sp q_Ch q_Tb q_Sk q_Wh q_Mk q_Tr q_Pk2 wi_length a_text) H := hP.sub [0, 1, 2] rfl
  have hD : va_D A (wd52 cyI cyJ cyZ q_G q_Ws q_text q_Pr q_Sp q_Ch q_Tb q_Sk q_Wh q_Mk q_Tr q_Pk2 wi_length a_text) := hD.sub [0, 1, 2] (by decide) rfl
  refine lv_if_ne (tgt := 11) hx hb dX11_count_6 (by decide) (fun c4z => ?_) (fun c4z => ?_)
  · have h := xf h c4z
    refine lv_iload_n hx hb dX11_count_11 rfl (lv_at hl 1 rfl) ?_
    refine lv_if_ne (tgt := 25) hx hb dX11_count_12 (by decide) (fun c5z => ?_) (fun c5z => ?_)
    · have h := xf h c5z
      refine lv_aload_n hx hb dX11_count_25 rfl (lv_at hl 0 rfl) ?_
      refine va_get (D := (dC, dI)) (ci := 11) (v := .ref q_Ws) (C := RX11) (T := TX11) (N := 9) hx hb hts iw_X11_count_X11 hown hK hP 0 rfl rfl 8 (by decide) (hts (.fieldLink RX11 87 "GoesInto" "wishes" "LGoesInto$Wishes;") (List.mem_of_getElem? (i := 1) rfl)) (fun _ h9 => h9) rfl dX11_count_26 ?_
      obtain ⟨r6z, hr6z, h⟩ := xb_at h
      have hPc := hP.sub (ws' := (wd38 cyI cyJ cyZ q_Ws q_text q_Tr q_Pk2 wi_length a_text)) [1, 2] rfl
      have hDc := hD.sub (ws' := (wd38 cyI cyJ cyZ q_Ws q_text q_Tr q_Pk2 wi_length a_text)) [1, 2] (by decide) rfl
      refine cal_i [1, 2] [0] (va_runV (As := []) (rest := []) ⟨hx, hb, hml, hown, hts⟩ (c_X10_howManyLook l dC dI cyI cyJ cyZ N r6z H.size q_Ws q_text q_Tr q_Pk2  wi_length a_text hr6z) (cwV 0 hts gX11_count_X10_howManyLook rfl rfl rfl ⟨rfl, hd_X10_howManyLook⟩ ⟨Nat.le_of_ble_eq_true rfl, Nat.le_of_ble_eq_true rfl⟩) ⟨pC.blind, va_recv hK hPc (ci := 10) (q0 := 0) rfl rfl, pC.pre hPc hG hDc⟩ rfl rfl hl.1 rfl (lv_room (Nat.le_of_ble_eq_true rfl)) dX11_count_29 ⟨Nat.zero_le _, Nat.zero_le _⟩) hP hD hS hA rfl rfl rfl (by decide) (fun x8z u7z H locs hw hP hD hS => ?_)
      obtain rfl := hw.symm
      have hP : va_P (dC, dI) vwCl (wd52 cyI cyJ cyZ q_G q_Ws q_text q_Pr q_Sp q_Ch q_Tb q_Sk q_Wh q_Mk q_Tr q_Pk2 wi_length a_text) H := hP.sub [0, 1, 2] rfl
      have hD : va_D A (wd52 cyI cyJ cyZ q_G q_Ws q_text q_Pr q_Sp q_Ch q_Tb q_Sk q_Wh q_Mk q_Tr q_Pk2 wi_length a_text) := hD.sub [0, 1, 2] (by decide) rfl
      obtain rfl := Option.some.inj h
      exact W.iret (v := r6z) hx hb hr (fun t ht hW => ⟨⟨_, (), rfl, rfl, by rw [ht]; exact hP, hD⟩, hS.F ht⟩) hS.2.2 dX11_count_32 hlocks
    · have h := xt h c5z
      refine lv_aload_n hx hb dX11_count_15 rfl (lv_at hl 0 rfl) ?_
      refine va_get (D := (dC, dI)) (ci := 11) (v := .ref q_Ws) (C := RX11) (T := TX11) (N := 9) hx hb hts iw_X11_count_X11 hown hK hP 0 rfl rfl 8 (by decide) (hts (.fieldLink RX11 87 "GoesInto" "wishes" "LGoesInto$Wishes;") (List.mem_of_getElem? (i := 1) rfl)) (fun _ h9 => h9) rfl dX11_count_16 ?_
      refine va_getN (D := (dC, dI)) (ci := 10) (v := .int wi_length) (C := RX10) (T := TX10) (N := 4) (host := "GoesInto") hx hb hts iw_X11_count_X10 hown hK hP 1 rfl rfl 3 (by decide) (va_Nw.use rfl hG.2.2.2.2.2.1) (fun _ h9 => h9) rfl dX11_count_19 ?_
      refine lv_goto (tgt := 32) hx hb dX11_count_22 (by decide) ?_
      obtain rfl := Option.some.inj h
      exact W.iret (v := wi_length) hx hb hr (fun t ht hW => ⟨⟨_, (), rfl, rfl, by rw [ht]; exact hP, hD⟩, hS.F ht⟩) hS.2.2 dX11_count_32 hlocks
  · have h := xt h c4z
    refine lv_iconst (v := (-1 : Int32)) hx hb dX11_count_9 (by decide) ?_
    obtain rfl := Option.some.inj h
    exact W.iret (v := (-1 : Int32)) hx hb hr (fun t ht hW => ⟨⟨_, (), rfl, rfl, by rw [ht]; exact hP, hD⟩, hS.F ht⟩) hS.2.2 dX11_count_10 hlocks
set_option maxRecDepth 100000 in
set_option maxHeartbeats 4000000 in
theorem c_X11_count (l : Launch) (dC : Nat → ClassId) (dI : Nat → Nat → Nat) (cyI cyJ cyZ : ClassId) (N : Nat) (res : Int32) (sz : Nat) (q_G : Nat) (q_Ws : Nat) (q_text : Nat) (q_Pr : Nat) (q_Sp : Nat) (q_Ch : Nat) (q_Tb : Nat) (q_Sk : Nat) (q_Wh : Nat) (q_Mk : Nat) (q_Tr : Nat) (q_Pk2 : Nat) (v1 : Int32) (wi_length : Int32) (a_text : Nat → Int32) (h : f_X11_count N v1 wi_length a_text = some res) : Met l yX11_count wsX11_count rm_X11_count (pC dC dI cyI cyJ cyZ [.ref q_G, .int v1] sz (wd52 cyI cyJ cyZ q_G q_Ws q_text q_Pr q_Sp q_Ch q_Tb q_Sk q_Wh q_Mk q_Tr q_Pk2 wi_length a_text)) (va_Qi (fun (r : Int32) (_ : Unit) => r = res) (bW dC dI (fun (u : Unit) => (wd52 cyI cyJ cyZ q_G q_Ws q_text q_Pr q_Sp q_Ch q_Tb q_Sk q_Wh q_Mk q_Tr q_Pk2 wi_length a_text)) (va_A (wd52 cyI cyJ cyZ q_G q_Ws q_text q_Pr q_Sp q_Ch q_Tb q_Sk q_Wh q_Mk q_Tr q_Pk2 wi_length a_text) sz)) (va_A (wd52 cyI cyJ cyZ q_G q_Ws q_text q_Pr q_Sp q_Ch q_Tb q_Sk q_Wh q_Mk q_Tr q_Pk2 wi_length a_text) sz)) 0 0 (va_A (wd52 cyI cyJ cyZ q_G q_Ws q_text q_Pr q_Sp q_Ch q_Tb q_Sk q_Wh q_Mk q_Tr q_Pk2 wi_length a_text) sz) := by
  refine Met.ofW (cc := cX11_count) (maxL := 2) (ret := (some .int)) (by decide) rfl ?_
  intro p e s m args below meth c s₁ B hml hv
  obtain ⟨rfl, hsz, hP, hG, hD0⟩ := hv
  have hx := B.exec
  have hb := B.bytes
  have hr := B.returns
  have hts := atoms_spec (ws := wsX11_count) B.pre
  have hown : s.vm.findClass RX11 = some m.cls := findClass_of_methodNamed B.named
  have hlocks := B.notSynchronized
  subst hsz
  have hD := hD0.self (sz := s.heap.size)
  generalize hAe : va_A (wd52 cyI cyJ cyZ q_G q_Ws q_text q_Pr q_Sp q_Ch q_Tb q_Sk q_Wh q_Mk q_Tr q_Pk2 wi_length a_text) s.heap.size = A at hD ⊢
  have hA : ∀ q : Nat, s.heap.size ≤ q → A q := fun q h => by rw [← hAe]; exact Or.inr h
  have hS : va_S A s.heap s.heap [] := va_S.rf
  have hl := lv_entry ([.ref q_G, .int v1]) (n := 2) (Nat.le_of_ble_eq_true rfl)
  rw [lg_entry_eq]
  generalize (lg_sl ([.ref q_G, .int v1]) ++ List.replicate (2 - (lg_sl ([.ref q_G, .int v1])).length) Slot.unset).toArray = ls at hl ⊢
  have hl : lv_has ls 2 [(0, .ref q_G), (1, .int v1)] := hl
  exact k_X11_count_0 ⟨hx, hb, hr, hml, hown, hts, hlocks, hG, hA⟩ N res q_G q_Ws q_text q_Pr q_Sp q_Ch q_Tb q_Sk q_Wh q_Mk q_Tr q_Pk2 v1 wi_length a_text  h _ _ hP hD hS _ hl
