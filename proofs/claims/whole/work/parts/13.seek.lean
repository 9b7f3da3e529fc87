/-- the cells Pi -/
abbrev wd16 (cyI cyJ cyZ : ClassId) (q_Pi : Nat) (pi_wanted : Int32) (pi_seen : Int32) : va_W := [(q_Pi, .inr (2, [.int pi_wanted, .int pi_seen]))]
abbrev rm_X2_begin : Room := { frames := 0, cells := 0, slots := 0, locals := 0 }
theorem hd_X2_begin : yX2_begin.cls ≠ "java/lang/invoke/MethodHandle" ∧ yX2_begin.cls ≠ "java/lang/invoke/VarHandle" ∧ (parseMethodDescriptor yX2_begin.desc).map (fun d => d.parameters.length) = some 1 := by decide +kernel
theorem iw_X2_begin_X2 : ∀ w ∈ wsX20, w ∈ wsX2_begin := List.forall_mem_cons.mpr ⟨List.mem_of_getElem? (i := 3) rfl, List.forall_mem_cons.mpr ⟨List.mem_of_getElem? (i := 4) rfl, fun _ h => absurd h List.not_mem_nil⟩⟩
def f_X2_begin (N : Nat) (v1 : Int32) (pi_wanted : Int32) (pi_seen : Int32) : Option (Int32 × Int32) :=
  some (v1, (0 : Int32))
set_option maxRecDepth 100000 in
set_option maxHeartbeats 4000000 in
theorem k_X2_begin_0 {p : Program} {l : Launch} {e : Env} {s : State} {m : MethodId} {args : Array Value} {below : List Frame} {meth : Method} {c : Code} {dC : Nat → ClassId} {dI : Nat → Nat → Nat} {cyI cyJ cyZ : ClassId} {A : Nat → Prop} (C0 : mC p s m meth c args cX2_begin none 2 RX2 wsX2_begin (gK dC dI cyI cyJ cyZ) A) (N : Nat) (res : Int32 × Int32) (q_Pi : Nat) (v1 : Int32) (pi_wanted : Int32) (pi_seen : Int32) (h : f_X2_begin N v1 pi_wanted pi_seen = some res) : ∀ (H : Heap) (locs : List Loc), va_P (dC, dI) vwCl (wd16 cyI cyJ cyZ q_Pi pi_wanted pi_seen) H → va_D A (wd16 cyI cyJ cyZ q_Pi pi_wanted pi_seen) → va_S A s.heap H locs → ∀ (ls : Array Slot), lv_has ls 2 [(0, .ref q_Pi), (1, .int v1)] → W p l e (headSpec wsX2_begin rm_X2_begin).room s m args below meth c H locs 0 0 (MQ below (va_Qv (fun (_ : Unit) => True) (bW dC dI (fun (u : Unit) => (wd16 cyI cyJ cyZ q_Pi res.1 res.2)) A) A) args s 0 0 A) (F0 m 0 ls []) := by
  obtain ⟨hx, hb, hr, hml, hown, hts, hlocks, hG, hA⟩ := id C0
  have hK := hG.1
  intro H locs hP hD hS ls hl
  unfold f_X2_begin at h
  refine lv_aload_n hx hb dX2_begin_0 rfl (lv_at hl 0 rfl) ?_
  refine lv_iload_n hx hb dX2_begin_1 rfl (lv_at hl 1 rfl) ?_
  refine va_put (D := (dC, dI)) (ci := 2) (v := .int v1) (ty := .int) (C := RX2) (T := TX2) (N := 2) hx hb hts iw_X2_begin_X2 tyX2 tyX2_ok nmX2 hown hK hP hD hS 0 rfl rfl 0 (by decide) (hts (.fieldLink RX2 9 "GoesInto$Pick" "wanted" "I") (List.mem_of_getElem? (i := 1) rfl)) (fun _ h9 => h9) rfl (tyX2_ok 0 (by decide)) rfl rfl (Nat.le_of_ble_eq_true rfl) dX2_begin_2 (fun H locs hP hD hS => ?_)
  have hP : va_P (dC, dI) vwCl (wd16 cyI cyJ cyZ q_Pi v1 pi_seen) H := hP
  have hD : va_D A (wd16 cyI cyJ cyZ q_Pi v1 pi_seen) := hD
  refine lv_aload_n hx hb dX2_begin_5 rfl (lv_at hl 0 rfl) ?_
  refine lv_iconst (v := (0 : Int32)) hx hb dX2_begin_6 (by decide) ?_
  refine va_put (D := (dC, dI)) (ci := 2) (v := .int (0 : Int32)) (ty := .int) (C := RX2) (T := TX2) (N := 2) hx hb hts iw_X2_begin_X2 tyX2 tyX2_ok nmX2 hown hK hP hD hS 0 rfl rfl 1 (by decide) (hts (.fieldLink RX2 15 "GoesInto$Pick" "seen" "I") (List.mem_of_getElem? (i := 2) rfl)) (fun _ h9 => h9) rfl (tyX2_ok 1 (by decide)) rfl rfl (Nat.le_of_ble_eq_true rfl) dX2_begin_7 (fun H locs hP hD hS => ?_)
  have hP : va_P (dC, dI) vwCl (wd16 cyI cyJ cyZ q_Pi v1 (0 : Int32)) H := hP
  have hD : va_D A (wd16 cyI cyJ cyZ q_Pi v1 (0 : Int32)) := hD
  obtain rfl := Option.some.inj h
  exact W.vret hx hb hr (fun t ht hW => ⟨⟨(), rfl, trivial, by rw [ht]; exact hP, hD⟩, hS.F ht⟩) hS.2.2 dX2_begin_10 hlocks
set_option maxRecDepth 100000 in
set_option maxHeartbeats 4000000 in
theorem c_X2_begin (l : Launch) (dC : Nat → ClassId) (dI : Nat → Nat → Nat) (cyI cyJ cyZ : ClassId) (N : Nat) (res : Int32 × Int32) (sz : Nat) (q_Pi : Nat) (v1 : Int32) (pi_wanted : Int32) (pi_seen : Int32) (h : f_X2_begin N v1 pi_wanted pi_seen = some res) : Met l yX2_begin wsX2_begin rm_X2_begin (pC dC dI cyI cyJ cyZ [.ref q_Pi, .int v1] sz (wd16 cyI cyJ cyZ q_Pi pi_wanted pi_seen)) (va_Qv (fun (_ : Unit) => True) (bW dC dI (fun (u : Unit) => (wd16 cyI cyJ cyZ q_Pi res.1 res.2)) (va_A (wd16 cyI cyJ cyZ q_Pi pi_wanted pi_seen) sz)) (va_A (wd16 cyI cyJ cyZ q_Pi pi_wanted pi_seen) sz)) 0 0 (va_A (wd16 cyI cyJ cyZ q_Pi pi_wanted pi_seen) sz) := by
  refine Met.ofW (cc := cX2_begin) (maxL := 2) (ret := none) (by decide) rfl ?_
  intro p e s m args below meth c s₁ B hml hv
  obtain ⟨rfl, hsz, hP, hG, hD0⟩ := hv
  have hx := B.exec
  have hb := B.bytes
  have hr := B.returns
  have hts := atoms_spec (ws := wsX2_begin) B.pre
  have hown : s.vm.findClass RX2 = some m.cls := findClass_of_methodNamed B.named
  have hlocks := B.notSynchronized
  subst hsz
  have hD := hD0.self (sz := s.heap.size)
  generalize hAe : va_A (wd16 cyI cyJ cyZ q_Pi pi_wanted pi_seen) s.heap.size = A at hD ⊢
  have hA : ∀ q : Nat, s.heap.size ≤ q → A q := fun q h => by rw [← hAe]; exact Or.inr h
  have hS : va_S A s.heap s.heap [] := va_S.rf
  have hl := lv_entry ([.ref q_Pi, .int v1]) (n := 2) (Nat.le_of_ble_eq_true rfl)
  rw [lg_entry_eq]
  generalize (lg_sl ([.ref q_Pi, .int v1]) ++ List.replicate (2 - (lg_sl ([.ref q_Pi, .int v1])).length) Slot.unset).toArray = ls at hl ⊢
  have hl : lv_has ls 2 [(0, .ref q_Pi), (1, .int v1)] := hl
  exact k_X2_begin_0 ⟨hx, hb, hr, hml, hown, hts, hlocks, hG, hA⟩ N res q_Pi v1 pi_wanted pi_seen  h _ _ hP hD hS _ hl
abbrev rm_X2_isNext : Room := { frames := 0, cells := 0, slots := 0, locals := 0 }
theorem hd_X2_isNext : yX2_isNext.cls ≠ "java/lang/invoke/MethodHandle" ∧ yX2_isNext.cls ≠ "java/lang/invoke/VarHandle" ∧ (parseMethodDescriptor yX2_isNext.desc).map (fun d => d.parameters.length) = some 0 := by decide +kernel
theorem iw_X2_isNext_X2 : ∀ w ∈ wsX20, w ∈ wsX2_isNext := List.forall_mem_cons.mpr ⟨List.mem_of_getElem? (i := 3) rfl, List.forall_mem_cons.mpr ⟨List.mem_of_getElem? (i := 4) rfl, fun _ h => absurd h List.not_mem_nil⟩⟩
def j_X2_isNext_16 (N : Nat) (s0 : Int32) (pi_seen : Int32) : Option (Int32 × Int32) :=
  xl (pi_seen + (1 : Int32)) fun y2z =>
  if s0 = 0 ∨ s0 = 1 then
    some (s0, y2z)
  else
    none
set_option maxRecDepth 100000 in
set_option maxHeartbeats 4000000 in
theorem k_X2_isNext_16 {p : Program} {l : Launch} {e : Env} {s : State} {m : MethodId} {args : Array Value} {below : List Frame} {meth : Method} {c : Code} {dC : Nat → ClassId} {dI : Nat → Nat → Nat} {cyI cyJ cyZ : ClassId} {A : Nat → Prop} (C0 : mC p s m meth c args cX2_isNext (some .boolean) 2 RX2 wsX2_isNext (gK dC dI cyI cyJ cyZ) A) (N : Nat) (res : Int32 × Int32) (q_Pi : Nat) (s0 : Int32) (pi_wanted : Int32) (pi_seen : Int32) (h : j_X2_isNext_16 N s0 pi_seen = some res) : ∀ (H : Heap) (locs : List Loc), va_P (dC, dI) vwCl (wd16 cyI cyJ cyZ q_Pi pi_wanted pi_seen) H → va_D A (wd16 cyI cyJ cyZ q_Pi pi_wanted pi_seen) → va_S A s.heap H locs → ∀ (ls : Array Slot), lv_has ls 2 [(0, .ref q_Pi)] → W p l e (headSpec wsX2_isNext rm_X2_isNext).room s m args below meth c H locs 0 0 (MQ below (va_Qi (fun (r : Int32) (_ : Unit) => r = res.1) (bW dC dI (fun (u : Unit) => (wd16 cyI cyJ cyZ q_Pi pi_wanted res.2)) A) A) args s 0 0 A) (F0 m 16 ls [.int s0]) := by
  obtain ⟨hx, hb, hr, hml, hown, hts, hlocks, hG, hA⟩ := id C0
  have hK := hG.1
  intro H locs hP hD hS ls hl
  unfold j_X2_isNext_16 at h
  refine lv_istore_n (lv' := [(1, .int s0), (0, .ref q_Pi)]) hx hb dX2_isNext_16 rfl hl (by decide) rfl (fun ls hl => ?_)
  refine lv_aload_n hx hb dX2_isNext_17 rfl (lv_at hl 1 rfl) ?_
  refine lv_dup hx hb dX2_isNext_18 rfl ?_
  refine va_get (D := (dC, dI)) (ci := 2) (v := .int pi_seen) (C := RX2) (T := TX2) (N := 2) hx hb hts iw_X2_isNext_X2 hown hK hP 0 rfl rfl 1 (by decide) (hts (.fieldLink RX2 15 "GoesInto$Pick" "seen" "I") (List.mem_of_getElem? (i := 1) rfl)) (fun _ h9 => h9) rfl dX2_isNext_19 ?_
  refine lv_iconst (v := (1 : Int32)) hx hb dX2_isNext_22 (by decide) ?_
  refine lv_iadd hx hb dX2_isNext_23 ?_
  refine lv_topi (fun y2z ey2z => ?_)
  have h := xl_at h ey2z
  refine va_put (D := (dC, dI)) (ci := 2) (v := .int y2z) (ty := .int) (C := RX2) (T := TX2) (N := 2) hx hb hts iw_X2_isNext_X2 tyX2 tyX2_ok nmX2 hown hK hP hD hS 0 rfl rfl 1 (by decide) (hts (.fieldLink RX2 15 "GoesInto$Pick" "seen" "I") (List.mem_of_getElem? (i := 1) rfl)) (fun _ h9 => h9) rfl (tyX2_ok 1 (by decide)) rfl rfl (Nat.le_of_ble_eq_true rfl) dX2_isNext_24 (fun H locs hP hD hS => ?_)
  have hP : va_P (dC, dI) vwCl (wd16 cyI cyJ cyZ q_Pi pi_wanted y2z) H := hP
  have hD : va_D A (wd16 cyI cyJ cyZ q_Pi pi_wanted y2z) := hD
  refine lv_iload_n hx hb dX2_isNext_27 rfl (lv_at hl 0 rfl) ?_
  obtain ⟨b3z, h⟩ := xa h
  obtain rfl := Option.some.inj h
  exact W.zret (v := s0) hx hb hr (xz01 b3z) (fun t ht hW => ⟨⟨_, (), rfl, rfl, by rw [ht]; exact hP, hD⟩, hS.F ht⟩) hS.2.2 dX2_isNext_28 hlocks
def f_X2_isNext (N : Nat) (pi_wanted : Int32) (pi_seen : Int32) : Option (Int32 × Int32) :=
  if pi_seen = pi_wanted then
    j_X2_isNext_16 N (1 : Int32) pi_seen
  else
    j_X2_isNext_16 N (0 : Int32) pi_seen
set_option maxRecDepth 100000 in
set_option maxHeartbeats 4000000 in
theorem k_X2_isNext_0 {p : Program} {l : Launch} {e : Env} {s : State} {m : MethodId} {args : Array Value} {below : List Frame} {meth : Method} {c : Code} {dC : Nat → ClassId} {dI : Nat → Nat → Nat} {cyI cyJ cyZ : ClassId} {A : Nat → Prop} (C0 : mC p s m meth c args cX2_isNext (some .boolean) 2 RX2 wsX2_isNext (gK dC dI cyI cyJ cyZ) A) (N : Nat) (res : Int32 × Int32) (q_Pi : Nat) (pi_wanted : Int32) (pi_seen : Int32) (h : f_X2_isNext N pi_wanted pi_seen = some res) : ∀ (H : Heap) (locs : List Loc), va_P (dC, dI) vwCl (wd16 cyI cyJ cyZ q_Pi pi_wanted pi_seen) H → va_D A (wd16 cyI cyJ cyZ q_Pi pi_wanted pi_seen) → va_S A s.heap H locs → ∀ (ls : Array Slot), lv_has ls 2 [(0, .ref q_Pi)] → W p l e (headSpec wsX2_isNext rm_X2_isNext).room s m args below meth c H locs 0 0 (MQ below (va_Qi (fun (r : Int32) (_ : Unit) => r = res.1) (bW dC dI (fun (u : Unit) => (wd16 cyI cyJ cyZ q_Pi pi_wanted res.2)) A) A) args s 0 0 A) (F0 m 0 ls []) := by
  obtain ⟨hx, hb, hr, hml, hown, hts, hlocks, hG, hA⟩ := id C0
  have hK := hG.1
  intro H locs hP hD hS ls hl
  unfold f_X2_isNext at h
  refine lv_aload_n hx hb dX2_isNext_0 rfl (lv_at hl 0 rfl) ?_
  refine va_get (D := (dC, dI)) (ci := 2) (v := .int pi_seen) (C := RX2) (T := TX2) (N := 2) hx hb hts iw_X2_isNext_X2 hown hK hP 0 rfl rfl 1 (by decide) (hts (.fieldLink RX2 15 "GoesInto$Pick" "seen" "I") (List.mem_of_getElem? (i := 1) rfl)) (fun _ h9 => h9) rfl dX2_isNext_1 ?_
  refine lv_aload_n hx hb dX2_isNext_4 rfl (lv_at hl 0 rfl) ?_
  refine va_get (D := (dC, dI)) (ci := 2) (v := .int pi_wanted) (C := RX2) (T := TX2) (N := 2) hx hb hts iw_X2_isNext_X2 hown hK hP 0 rfl rfl 0 (by decide) (hts (.fieldLink RX2 9 "GoesInto$Pick" "wanted" "I") (List.mem_of_getElem? (i := 2) rfl)) (fun _ h9 => h9) rfl dX2_isNext_5 ?_
  refine lv_icmp_ne (tgt := 15) hx hb dX2_isNext_8 (by decide) (fun c1z => ?_) (fun c1z => ?_)
  · have h := xf h c1z
    refine lv_iconst (v := (0 : Int32)) hx hb dX2_isNext_15 (by decide) ?_
    exact k_X2_isNext_16 C0 N res q_Pi (0 : Int32) pi_wanted pi_seen  h _ _ hP hD hS _ (lv_sub hl [0] rfl)
  · have h := xt h c1z
    refine lv_iconst (v := (1 : Int32)) hx hb dX2_isNext_11 (by decide) ?_
    refine lv_goto (tgt := 16) hx hb dX2_isNext_12 (by decide) ?_
    exact k_X2_isNext_16 C0 N res q_Pi (1 : Int32) pi_wanted pi_seen  h _ _ hP hD hS _ (lv_sub hl [0] rfl)
set_option maxRecDepth 100000 in
set_option maxHeartbeats 4000000 in
theorem c_X2_isNext (l : Launch) (dC : Nat → ClassId) (dI : Nat → Nat → Nat) (cyI cyJ cyZ : ClassId) (N : Nat) (res : Int32 × Int32) (sz : Nat) (q_Pi : Nat) (pi_wanted : Int32) (pi_seen : Int32) (h : f_X2_isNext N  pi_wanted pi_seen = some res) : Met l yX2_isNext wsX2_isNext rm_X2_isNext (pC dC dI cyI cyJ cyZ [.ref q_Pi] sz (wd16 cyI cyJ cyZ q_Pi pi_wanted pi_seen)) (va_Qi (fun (r : Int32) (_ : Unit) => r = res.1) (bW dC dI (fun (u : Unit) => (wd16 cyI cyJ cyZ q_Pi pi_wanted res.2)) (va_A (wd16 cyI cyJ cyZ q_Pi pi_wanted pi_seen) sz)) (va_A (wd16 cyI cyJ cyZ q_Pi pi_wanted pi_seen) sz)) 0 0 (va_A (wd16 cyI cyJ cyZ q_Pi pi_wanted pi_seen) sz) := by
  refine Met.ofW (cc := cX2_isNext) (maxL := 2) (ret := (some .boolean)) (by decide) rfl ?_
  intro p e s m args below meth c s₁ B hml hv
  obtain ⟨rfl, hsz, hP, hG, hD0⟩ := hv
  have hx := B.exec
  have hb := B.bytes
  have hr := B.returns
  have hts := atoms_spec (ws := wsX2_isNext) B.pre
  have hown : s.vm.findClass RX2 = some m.cls := findClass_of_methodNamed B.named
  have hlocks := B.notSynchronized
  subst hsz
  have hD := hD0.self (sz := s.heap.size)
  generalize hAe : va_A (wd16 cyI cyJ cyZ q_Pi pi_wanted pi_seen) s.heap.size = A at hD ⊢
  have hA : ∀ q : Nat, s.heap.size ≤ q → A q := fun q h => by rw [← hAe]; exact Or.inr h
  have hS : va_S A s.heap s.heap [] := va_S.rf
  have hl := lv_entry ([.ref q_Pi]) (n := 2) (Nat.le_of_ble_eq_true rfl)
  rw [lg_entry_eq]
  generalize (lg_sl ([.ref q_Pi]) ++ List.replicate (2 - (lg_sl ([.ref q_Pi])).length) Slot.unset).toArray = ls at hl ⊢
  have hl : lv_has ls 2 [(0, .ref q_Pi)] := hl
  exact k_X2_isNext_0 ⟨hx, hb, hr, hml, hown, hts, hlocks, hG, hA⟩ N res q_Pi pi_wanted pi_seen  h _ _ hP hD hS _ hl
abbrev rm_X2_notFound : Room := { frames := 0, cells := 0, slots := 0, locals := 0 }
theorem hd_X2_notFound : yX2_notFound.cls ≠ "java/lang/invoke/MethodHandle" ∧ yX2_notFound.cls ≠ "java/lang/invoke/VarHandle" ∧ (parseMethodDescriptor yX2_notFound.desc).map (fun d => d.parameters.length) = some 0 := by decide +kernel
theorem iw_X2_notFound_X2 : ∀ w ∈ wsX20, w ∈ wsX2_notFound := List.forall_mem_cons.mpr ⟨List.mem_of_getElem? (i := 3) rfl, List.forall_mem_cons.mpr ⟨List.mem_of_getElem? (i := 4) rfl, fun _ h => absurd h List.not_mem_nil⟩⟩
def f_X2_notFound (N : Nat) (pi_wanted : Int32) (pi_seen : Int32) : Option (Int32) :=
  if pi_wanted = (-1 : Int32) then
    some pi_seen
  else
    some (-4 : Int32)
set_option maxRecDepth 100000 in
set_option maxHeartbeats 4000000 in
theorem k_X2_notFound_0 {p : Program} {l : Launch} {e : Env} {s : State} {m : MethodId} {args : Array Value} {below : List Frame} {meth : Method} {c : Code} {dC : Nat → ClassId} {dI : Nat → Nat → Nat} {cyI cyJ cyZ : ClassId} {A : Nat → Prop} (C0 : mC p s m meth c args cX2_notFound (some .int) 1 RX2 wsX2_notFound (gK dC dI cyI cyJ cyZ) A) (N : Nat) (res : Int32) (q_Pi : Nat) (pi_wanted : Int32) (pi_seen : Int32) (h : f_X2_notFound N pi_wanted pi_seen = some res) : ∀ (H : Heap) (locs : List Loc), va_P (dC, dI) vwCl (wd16 cyI cyJ cyZ q_Pi pi_wanted pi_seen) H → va_D A (wd16 cyI cyJ cyZ q_Pi pi_wanted pi_seen) → va_S A s.heap H locs → ∀ (ls : Array Slot), lv_has ls 1 [(0, .ref q_Pi)] → W p l e (headSpec wsX2_notFound rm_X2_notFound).room s m args below meth c H locs 0 0 (MQ below (va_Qi (fun (r : Int32) (_ : Unit) => r = res) (bW dC dI (fun (u : Unit) => (wd16 cyI cyJ cyZ q_Pi pi_wanted pi_seen)) A) A) args s 0 0 A) (F0 m 0 ls []) := by
  obtain ⟨hx, hb, hr, hml, hown, hts, hlocks, hG, hA⟩ := id C0
  have hK := hG.1
  intro H locs hP hD hS ls hl
  unfold f_X2_notFound at h
  refine lv_aload_n hx hb dX2_notFound_0 rfl (lv_at hl 0 rfl) ?_
  refine va_get (D := (dC, dI)) (ci := 2) (v := .int pi_wanted) (C := RX2) (T := TX2) (N := 2) hx hb hts iw_X2_notFound_X2 hown hK hP 0 rfl rfl 0 (by decide) (hts (.fieldLink RX2 9 "GoesInto$Pick" "wanted" "I") (List.mem_of_getElem? (i := 1) rfl)) (fun _ h9 => h9) rfl dX2_notFound_1 ?_
  refine lv_iconst (v := (-1 : Int32)) hx hb dX2_notFound_4 (by decide) ?_
  refine lv_icmp_ne (tgt := 15) hx hb dX2_notFound_5 (by decide) (fun c1z => ?_) (fun c1z => ?_)
  · have h := xf h c1z
    refine lv_bipush (v := (-4 : Int32)) hx hb dX2_notFound_15 (by decide) ?_
    obtain rfl := Option.some.inj h
    exact W.iret (v := (-4 : Int32)) hx hb hr (fun t ht hW => ⟨⟨_, (), rfl, rfl, by rw [ht]; exact hP, hD⟩, hS.F ht⟩) hS.2.2 dX2_notFound_17 hlocks
  · have h := xt h c1z
    refine lv_aload_n hx hb dX2_notFound_8 rfl (lv_at hl 0 rfl) ?_
    refine va_get (D := (dC, dI)) (ci := 2) (v := .int pi_seen) (C := RX2) (T := TX2) (N := 2) hx hb hts iw_X2_notFound_X2 hown hK hP 0 rfl rfl 1 (by decide) (hts (.fieldLink RX2 15 "GoesInto$Pick" "seen" "I") (List.mem_of_getElem? (i := 2) rfl)) (fun _ h9 => h9) rfl dX2_notFound_9 ?_
    refine lv_goto (tgt := 17) hx hb dX2_notFound_12 (by decide) ?_
    obtain rfl := Option.some.inj h
    exact W.iret (v := pi_seen) hx hb hr (fun t ht hW => ⟨⟨_, (), rfl, rfl, by rw [ht]; exact hP, hD⟩, hS.F ht⟩) hS.2.2 dX2_notFound_17 hlocks
set_option maxRecDepth 100000 in
set_option maxHeartbeats 4000000 in
theorem c_X2_notFound (l : Launch) (dC : Nat → ClassId) (dI : Nat → Nat → Nat) (cyI cyJ cyZ : ClassId) (N : Nat) (res : Int32) (sz : Nat) (q_Pi : Nat) (pi_wanted : Int32) (pi_seen : Int32) (h : f_X2_notFound N  pi_wanted pi_seen = some res) : Met l yX2_notFound wsX2_notFound rm_X2_notFound (pC dC dI cyI cyJ cyZ [.ref q_Pi] sz (wd16 cyI cyJ cyZ q_Pi pi_wanted pi_seen)) (va_Qi (fun (r : Int32) (_ : Unit) => r = res) (bW dC dI (fun (u : Unit) => (wd16 cyI cyJ cyZ q_Pi pi_wanted pi_seen)) (va_A (wd16 cyI cyJ cyZ q_Pi pi_wanted pi_seen) sz)) (va_A (wd16 cyI cyJ cyZ q_Pi pi_wanted pi_seen) sz)) 0 0 (va_A (wd16 cyI cyJ cyZ q_Pi pi_wanted pi_seen) sz) := by
  refine Met.ofW (cc := cX2_notFound) (maxL := 1) (ret := (some .int)) (by decide) rfl ?_
  intro p e s m args below meth c s₁ B hml hv
  obtain ⟨rfl, hsz, hP, hG, hD0⟩ := hv
  have hx := B.exec
  have hb := B.bytes
  have hr := B.returns
  have hts := atoms_spec (ws := wsX2_notFound) B.pre
  have hown : s.vm.findClass RX2 = some m.cls := findClass_of_methodNamed B.named
  have hlocks := B.notSynchronized
  subst hsz
  have hD := hD0.self (sz := s.heap.size)
  generalize hAe : va_A (wd16 cyI cyJ cyZ q_Pi pi_wanted pi_seen) s.heap.size = A at hD ⊢
  have hA : ∀ q : Nat, s.heap.size ≤ q → A q := fun q h => by rw [← hAe]; exact Or.inr h
  have hS : va_S A s.heap s.heap [] := va_S.rf
  have hl := lv_entry ([.ref q_Pi]) (n := 1) (Nat.le_of_ble_eq_true rfl)
  rw [lg_entry_eq]
  generalize (lg_sl ([.ref q_Pi]) ++ List.replicate (1 - (lg_sl ([.ref q_Pi])).length) Slot.unset).toArray = ls at hl ⊢
  have hl : lv_has ls 1 [(0, .ref q_Pi)] := hl
  exact k_X2_notFound_0 ⟨hx, hb, hr, hml, hown, hts, hlocks, hG, hA⟩ N res q_Pi pi_wanted pi_seen  h _ _ hP hD hS _ hl
/-- the cells Tb, Sk, all, apart -/
abbrev wd17 (cyI cyJ cyZ : ClassId) (q_Tb : Nat) (q_Sk : Nat) (q_all : Nat) (q_apart : Nat) (q_Sc : Nat) (q_Pk1 : Nat) (n_all : Nat) (a_all : Nat → Int32) (n_apart : Nat) (a_apart : Nat → Int32) : va_W := [(q_Tb, .inr (7, [.ref q_Sc, .ref q_all, .ref q_apart])), (q_Sk, .inr (5, [.ref q_Tb, .ref q_Sc, .ref q_Pk1])), (q_all, .inl (cyI, n_all, .inl a_all)), (q_apart, .inl (cyI, n_apart, .inl a_apart))]
abbrev rm_X5_beginsRing : Room := { frames := 1, cells := 0, slots := 0, locals := 22 }
theorem hd_X5_beginsRing : yX5_beginsRing.cls ≠ "java/lang/invoke/MethodHandle" ∧ yX5_beginsRing.cls ≠ "java/lang/invoke/VarHandle" ∧ (parseMethodDescriptor yX5_beginsRing.desc).map (fun d => d.parameters.length) = some 4 := by decide +kernel
theorem iw_X5_beginsRing_X7 : ∀ w ∈ wsX70, w ∈ wsX5_beginsRing := List.forall_mem_cons.mpr ⟨List.mem_of_getElem? (i := 12) rfl, List.forall_mem_cons.mpr ⟨List.mem_of_getElem? (i := 13) rfl, List.forall_mem_cons.mpr ⟨List.mem_of_getElem? (i := 14) rfl, fun _ h => absurd h List.not_mem_nil⟩⟩⟩
theorem iw_X5_beginsRing_X5 : ∀ w ∈ wsX50, w ∈ wsX5_beginsRing := List.forall_mem_cons.mpr ⟨List.mem_of_getElem? (i := 9) rfl, List.forall_mem_cons.mpr ⟨List.mem_of_getElem? (i := 10) rfl, List.forall_mem_cons.mpr ⟨List.mem_of_getElem? (i := 11) rfl, fun _ h => absurd h List.not_mem_nil⟩⟩⟩
def j_X5_beginsRing_47 (N : Nat) (v2 : Int32) (v6 : Int32) : Option (Int32) :=
  if v6 = v2 then
    some (1 : Int32)
  else
    some (0 : Int32)
set_option maxRecDepth 100000 in
set_option maxHeartbeats 4000000 in
theorem k_X5_beginsRing_47 {p : Program} {l : Launch} {e : Env} {s : State} {m : MethodId} {args : Array Value} {below : List Frame} {meth : Method} {c : Code} {dC : Nat → ClassId} {dI : Nat → Nat → Nat} {cyI cyJ cyZ : ClassId} {A : Nat → Prop} (C0 : mC p s m meth c args cX5_beginsRing (some .boolean) 7 RX5 wsX5_beginsRing (gK dC dI cyI cyJ cyZ) A) (N : Nat) (res : Int32) (q_Tb : Nat) (q_Sk : Nat) (q_all : Nat) (q_apart : Nat) (q_Sc : Nat) (q_Pk1 : Nat) (v2 : Int32) (v6 : Int32) (n_all : Nat) (a_all : Nat → Int32) (n_apart : Nat) (a_apart : Nat → Int32) (h : j_X5_beginsRing_47 N v2 v6 = some res) : ∀ (H : Heap) (locs : List Loc), va_P (dC, dI) vwCl (wd17 cyI cyJ cyZ q_Tb q_Sk q_all q_apart q_Sc q_Pk1 n_all a_all n_apart a_apart) H → va_D A (wd17 cyI cyJ cyZ q_Tb q_Sk q_all q_apart q_Sc q_Pk1 n_all a_all n_apart a_apart) → va_S A s.heap H locs → ∀ (ls : Array Slot), lv_has ls 7 [(2, .int v2), (6, .int v6)] → W p l e (headSpec wsX5_beginsRing rm_X5_beginsRing).room s m args below meth c H locs 0 0 (MQ below (va_Qi (fun (r : Int32) (_ : Unit) => r = res) (bW dC dI (fun (u : Unit) => (wd17 cyI cyJ cyZ q_Tb q_Sk q_all q_apart q_Sc q_Pk1 n_all a_all n_apart a_apart)) A) A) args s 0 0 A) (F0 m 47 ls []) := by
  obtain ⟨hx, hb, hr, hml, hown, hts, hlocks, hG, hA⟩ := id C0
  have hK := hG.1
  intro H locs hP hD hS ls hl
  unfold j_X5_beginsRing_47 at h
  refine lv_iload hx hb dX5_beginsRing_47 (lv_at hl 1 rfl) ?_
  refine lv_iload_n hx hb dX5_beginsRing_49 rfl (lv_at hl 0 rfl) ?_
  refine lv_icmp_ne (tgt := 57) hx hb dX5_beginsRing_50 (by decide) (fun c9z => ?_) (fun c9z => ?_)
  · have h := xf h c9z
    refine lv_iconst (v := (0 : Int32)) hx hb dX5_beginsRing_57 (by decide) ?_
    obtain rfl := Option.some.inj h
    exact W.zret (v := (0 : Int32)) hx hb hr rfl (fun t ht hW => ⟨⟨_, (), rfl, rfl, by rw [ht]; exact hP, hD⟩, hS.F ht⟩) hS.2.2 dX5_beginsRing_58 hlocks
  · have h := xt h c9z
    refine lv_iconst (v := (1 : Int32)) hx hb dX5_beginsRing_53 (by decide) ?_
    refine lv_goto (tgt := 58) hx hb dX5_beginsRing_54 (by decide) ?_
    obtain rfl := Option.some.inj h
    exact W.zret (v := (1 : Int32)) hx hb hr rfl (fun t ht hW => ⟨⟨_, (), rfl, rfl, by rw [ht]; exact hP, hD⟩, hS.F ht⟩) hS.2.2 dX5_beginsRing_58 hlocks
def s_X5_beginsRing_7 (N : Nat) (v1 : Int32) (v2 : Int32) (v3 : Int32) (v4 : Int32) (n_all : Nat) (a_all : Nat → Int32) (n_apart : Nat) (a_apart : Nat → Int32) (k_7 : (Int32 × Int32) → Option (Int32)) (v5 : Int32) (v6 : Int32) : Option (Int32) :=
  if v2 < v6 then
    some (0 : Int32)
  else
    Option.bind (f_X7_summed N v1 v5 n_all a_all n_apart a_apart) fun r2z =>
    if r2z < v4 then
      some (0 : Int32)
    else
      if r2z ≤ v3 then
        if r2z = v4 then
          j_X5_beginsRing_47 N v2 v6
        else
          xl (v6 + (1 : Int32)) fun y8z =>
          k_7 (r2z, y8z)
      else
        some (0 : Int32)
def l_X5_beginsRing_7 (N : Nat) (v1 : Int32) (v2 : Int32) (v3 : Int32) (v4 : Int32) (n_all : Nat) (a_all : Nat → Int32) (n_apart : Nat) (a_apart : Nat → Int32) (n : Nat) (z : Int32 × Int32) : Option (Int32) := lp (fun k z => s_X5_beginsRing_7 N v1 v2 v3 v4 n_all a_all n_apart a_apart k z.1 z.2) n z
set_option maxRecDepth 100000 in
set_option maxHeartbeats 4000000 in
theorem k_X5_beginsRing_7 {p : Program} {l : Launch} {e : Env} {s : State} {m : MethodId} {args : Array Value} {below : List Frame} {meth : Method} {c : Code} {dC : Nat → ClassId} {dI : Nat → Nat → Nat} {cyI cyJ cyZ : ClassId} {A : Nat → Prop} (C0 : mC p s m meth c args cX5_beginsRing (some .boolean) 7 RX5 wsX5_beginsRing (gK dC dI cyI cyJ cyZ) A) (N : Nat) (res : Int32) (q_Tb : Nat) (q_Sk : Nat) (q_all : Nat) (q_apart : Nat) (q_Sc : Nat) (q_Pk1 : Nat) (v1 : Int32) (v2 : Int32) (v3 : Int32) (v4 : Int32) (n_all : Nat) (a_all : Nat → Int32) (n_apart : Nat) (a_apart : Nat → Int32) : ∀ (n : Nat) (v5 : Int32) (v6 : Int32), l_X5_beginsRing_7 N v1 v2 v3 v4 n_all a_all n_apart a_apart n (v5, v6) = some res → ∀ (H : Heap) (locs : List Loc), va_P (dC, dI) vwCl (wd17 cyI cyJ cyZ q_Tb q_Sk q_all q_apart q_Sc q_Pk1 n_all a_all n_apart a_apart) H → va_D A (wd17 cyI cyJ cyZ q_Tb q_Sk q_all q_apart q_Sc q_Pk1 n_all a_all n_apart a_apart) → va_S A s.heap H locs → ∀ (ls : Array Slot), lv_has ls 7 [(0, .ref q_Sk), (1, .int v1), (2, .int v2), (3, .int v3), (4, .int v4), (5, .int v5), (6, .int v6)] → W p l e (headSpec wsX5_beginsRing rm_X5_beginsRing).room s m args below meth c H locs 0 0 (MQ below (va_Qi (fun (r : Int32) (_ : Unit) => r = res) (bW dC dI (fun (u : Unit) => (wd17 cyI cyJ cyZ q_Tb q_Sk q_all q_apart q_Sc q_Pk1 n_all a_all n_apart a_apart)) A) A) args s 0 0 A) (F0 m 7 ls []) := by
  obtain ⟨hx, hb, hr, hml, hown, hts, hlocks, hG, hA⟩ := id C0
  have hK := hG.1
  intro n
  induction n with
  | zero =>
    intro v5 v6 h
    cases h
  | succ n ih =>
    intro v5 v6 h H locs hP hD hS ls hl
    have h : s_X5_beginsRing_7 N v1 v2 v3 v4 n_all a_all n_apart a_apart (l_X5_beginsRing_7 N v1 v2 v3 v4 n_all a_all n_apart a_apart n) v5 v6 = some res := h
    unfold s_X5_beginsRing_7 at h
    refine lv_iload hx hb dX5_beginsRing_7 (lv_at hl 6 rfl) ?_
    refine lv_iload_n hx hb dX5_beginsRing_9 rfl (lv_at hl 2 rfl) ?_
    refine lv_icmp_gt (tgt := 65) hx hb dX5_beginsRing_10 (by decide) (fun c1z => ?_) (fun c1z => ?_)
    · have h := xt h c1z
      refine lv_iconst (v := (0 : Int32)) hx hb dX5_beginsRing_65 (by decide) ?_
      obtain rfl := Option.some.inj h
      exact W.zret (v := (0 : Int32)) hx hb hr rfl (fun t ht hW => ⟨⟨_, (), rfl, rfl, by rw [ht]; exact hP, hD⟩, hS.F ht⟩) hS.2.2 dX5_beginsRing_66 hlocks
    · have h := xf h c1z
      refine lv_aload_n hx hb dX5_beginsRing_13 rfl (lv_at hl 0 rfl) ?_
      refine va_get (D := (dC, dI)) (ci := 5) (v := .ref q_Tb) (C := RX5) (T := TX5) (N := 3) hx hb hts iw_X5_beginsRing_X5 hown hK hP 1 rfl rfl 0 (by decide) (hts (.fieldLink RX5 18 "GoesInto$Seeker" "tables" "LGoesInto$Tables;") (List.mem_of_getElem? (i := 1) rfl)) (fun _ h9 => h9) rfl dX5_beginsRing_14 ?_
      refine lv_iload_n hx hb dX5_beginsRing_17 rfl (lv_at hl 1 rfl) ?_
      refine lv_iload hx hb dX5_beginsRing_18 (lv_at hl 5 rfl) ?_
      obtain ⟨r2z, hr2z, h⟩ := xb_at h
      have hPc := hP.sub (ws' := (wd15 cyI cyJ cyZ q_Tb q_all q_apart q_Sc n_all a_all n_apart a_apart)) [0, 2, 3] rfl
      have hDc := hD.sub (ws' := (wd15 cyI cyJ cyZ q_Tb q_all q_apart q_Sc n_all a_all n_apart a_apart)) [0, 2, 3] (by decide) rfl
      refine cal_i [0, 2, 3] [1] (va_runV (As := [.int v1, .int v5]) (rest := []) ⟨hx, hb, hml, hown, hts⟩ (c_X7_summed l dC dI cyI cyJ cyZ N r2z H.size q_Tb q_all q_apart q_Sc v1 v5 n_all a_all n_apart a_apart hr2z) (cwV 2 hts gX5_beginsRing_X7_summed rfl rfl rfl ⟨rfl, hd_X7_summed⟩ ⟨Nat.le_of_ble_eq_true rfl, Nat.le_of_ble_eq_true rfl⟩) ⟨pC.blind, va_recv hK hPc (ci := 7) (q0 := 0) rfl rfl, pC.pre hPc hG hDc⟩ rfl rfl hl.1 rfl (lv_room (Nat.le_of_ble_eq_true rfl)) dX5_beginsRing_20 ⟨Nat.zero_le _, Nat.zero_le _⟩) hP hD hS hA rfl rfl rfl (by decide) (fun x4z u3z H locs hw hP hD hS => ?_)
      obtain rfl := hw.symm
      have hP : va_P (dC, dI) vwCl (wd17 cyI cyJ cyZ q_Tb q_Sk q_all q_apart q_Sc q_Pk1 n_all a_all n_apart a_apart) H := hP.sub [1, 0, 2, 3] rfl
      have hD : va_D A (wd17 cyI cyJ cyZ q_Tb q_Sk q_all q_apart q_Sc q_Pk1 n_all a_all n_apart a_apart) := hD.sub [1, 0, 2, 3] (by decide) rfl
      refine lv_istore (lv' := [(5, .int r2z), (0, .ref q_Sk), (1, .int v1), (2, .int v2), (3, .int v3), (4, .int v4), (6, .int v6)]) hx hb dX5_beginsRing_23 hl (by decide) rfl (fun ls hl => ?_)
      refine lv_iload hx hb dX5_beginsRing_25 (lv_at hl 0 rfl) ?_
      refine lv_iload hx hb dX5_beginsRing_27 (lv_at hl 5 rfl) ?_
      refine lv_icmp_lt (tgt := 38) hx hb dX5_beginsRing_29 (by decide) (fun c5z => ?_) (fun c5z => ?_)
      · have h := xt h c5z
        refine lv_iconst (v := (0 : Int32)) hx hb dX5_beginsRing_38 (by decide) ?_
        obtain rfl := Option.some.inj h
        exact W.zret (v := (0 : Int32)) hx hb hr rfl (fun t ht hW => ⟨⟨_, (), rfl, rfl, by rw [ht]; exact hP, hD⟩, hS.F ht⟩) hS.2.2 dX5_beginsRing_39 hlocks
      · have h := xf h c5z
        refine lv_iload hx hb dX5_beginsRing_32 (lv_at hl 0 rfl) ?_
        refine lv_iload_n hx hb dX5_beginsRing_34 rfl (lv_at hl 4 rfl) ?_
        refine lv_icmp_le (tgt := 40) hx hb dX5_beginsRing_35 (by decide) (fun c6z => ?_) (fun c6z => ?_)
        · have h := xt h c6z
          refine lv_iload hx hb dX5_beginsRing_40 (lv_at hl 0 rfl) ?_
          refine lv_iload hx hb dX5_beginsRing_42 (lv_at hl 5 rfl) ?_
          refine lv_icmp_ne (tgt := 59) hx hb dX5_beginsRing_44 (by decide) (fun c7z => ?_) (fun c7z => ?_)
          · have h := xf h c7z
            obtain ⟨y8z, ey8z⟩ : ∃ z : Int32, z = v6 + (1 : Int32) := ⟨_, rfl⟩
            have h := xl_at h ey8z
            refine lv_iinc (v := y8z) (lv' := [(6, .int y8z), (5, .int r2z), (0, .ref q_Sk), (1, .int v1), (2, .int v2), (3, .int v3), (4, .int v4)]) hx hb dX5_beginsRing_59 hl (k := 6) rfl (by rw [ey8z]; rfl) (by decide) rfl (fun ls hl => ?_)
            refine lv_goto (tgt := 7) hx hb dX5_beginsRing_62 (by decide) ?_
            exact ih r2z y8z h _ _ hP hD hS _ (lv_sub hl [2, 3, 4, 5, 6, 1, 0] rfl)
          · have h := xt h c7z
            exact k_X5_beginsRing_47 C0 N res q_Tb q_Sk q_all q_apart q_Sc q_Pk1 v2 v6 n_all a_all n_apart a_apart  h _ _ hP hD hS _ (lv_sub hl [3, 6] rfl)
        · have h := xf h c6z
          refine lv_iconst (v := (0 : Int32)) hx hb dX5_beginsRing_38 (by decide) ?_
          obtain rfl := Option.some.inj h
          exact W.zret (v := (0 : Int32)) hx hb hr rfl (fun t ht hW => ⟨⟨_, (), rfl, rfl, by rw [ht]; exact hP, hD⟩, hS.F ht⟩) hS.2.2 dX5_beginsRing_39 hlocks
def f_X5_beginsRing (N : Nat) (v1 : Int32) (v2 : Int32) (v3 : Int32) (v4 : Int32) (n_all : Nat) (a_all : Nat → Int32) (n_apart : Nat) (a_apart : Nat → Int32) : Option (Int32) :=
  l_X5_beginsRing_7 N v1 v2 v3 v4 n_all a_all n_apart a_apart N (v4, (1 : Int32))
set_option maxRecDepth 100000 in
set_option maxHeartbeats 4000000 in
theorem k_X5_beginsRing_0 {p : Program} {l : Launch} {e : Env} {s : State} {m : MethodId} {args : Array Value} {below : List Frame} {meth : Method} {c : Code} {dC : Nat → ClassId} {dI : Nat → Nat → Nat} {cyI cyJ cyZ : ClassId} {A : Nat → Prop} (C0 : mC p s m meth c args cX5_beginsRing (some .boolean) 7 RX5 wsX5_beginsRing (gK dC dI cyI cyJ cyZ) A) (N : Nat) (res : Int32) (q_Tb : Nat) (q_Sk : Nat) (q_all : Nat) (q_apart : Nat) (q_Sc : Nat) (q_Pk1 : Nat) (v1 : Int32) (v2 : Int32) (v3 : Int32) (v4 : Int32) (n_all : Nat) (a_all : Nat → Int32) (n_apart : Nat) (a_apart : Nat → Int32) (h : f_X5_beginsRing N v1 v2 v3 v4 n_all a_all n_apart a_apart = some res) : ∀ (H : Heap) (locs : List Loc), va_P (dC, dI) vwCl (wd17 cyI cyJ cyZ q_Tb q_Sk q_all q_apart q_Sc q_Pk1 n_all a_all n_apart a_apart) H → va_D A (wd17 cyI cyJ cyZ q_Tb q_Sk q_all q_apart q_Sc q_Pk1 n_all a_all n_apart a_apart) → va_S A s.heap H locs → ∀ (ls : Array Slot), lv_has ls 7 [(0, .ref q_Sk), (1, .int v1), (2, .int v2), (3, .int v3), (4, .int v4)] → W p l e (headSpec wsX5_beginsRing rm_X5_beginsRing).room s m args below meth c H locs 0 0 (MQ below (va_Qi (fun (r : Int32) (_ : Unit) => r = res) (bW dC dI (fun (u : Unit) => (wd17 cyI cyJ cyZ q_Tb q_Sk q_all q_apart q_Sc q_Pk1 n_all a_all n_apart a_apart)) A) A) args s 0 0 A) (F0 m 0 ls []) := by
  obtain ⟨hx, hb, hr, hml, hown, hts, hlocks, hG, hA⟩ := id C0
  have hK := hG.1
  intro H locs hP hD hS ls hl
  unfold f_X5_beginsRing at h
  refine lv_iload hx hb dX5_beginsRing_0 (lv_at hl 4 rfl) ?_
  refine lv_istore (lv' := [(5, .int v4), (0, .ref q_Sk), (1, .int v1), (2, .int v2), (3, .int v3), (4, .int v4)]) hx hb dX5_beginsRing_2 hl (by decide) rfl (fun ls hl => ?_)
  refine lv_iconst (v := (1 : Int32)) hx hb dX5_beginsRing_4 (by decide) ?_
  refine lv_istore (lv' := [(6, .int (1 : Int32)), (5, .int v4), (0, .ref q_Sk), (1, .int v1), (2, .int v2), (3, .int v3), (4, .int v4)]) hx hb dX5_beginsRing_5 hl (by decide) rfl (fun ls hl => ?_)
  exact k_X5_beginsRing_7 C0 N res q_Tb q_Sk q_all q_apart q_Sc q_Pk1 v1 v2 v3 v4 n_all a_all n_apart a_apart N v4 (1 : Int32) h _ _ hP hD hS _ (lv_sub hl [2, 3, 4, 5, 6, 1, 0] rfl)
set_option maxRecDepth 100000 in
set_option maxHeartbeats 4000000 in
theorem c_X5_beginsRing (l : Launch) (dC : Nat → ClassId) (dI : Nat → Nat → Nat) (cyI cyJ cyZ : ClassId) (N : Nat) (res : Int32) (sz : Nat) (q_Tb : Nat) (q_Sk : Nat) (q_all : Nat) (q_apart : Nat) (q_Sc : Nat) (q_Pk1 : Nat) (v1 : Int32) (v2 : Int32) (v3 : Int32) (v4 : Int32) (n_all : Nat) (a_all : Nat → Int32) (n_apart : Nat) (a_apart : Nat → Int32) (h : f_X5_beginsRing N v1 v2 v3 v4 n_all a_all n_apart a_apart = some res) : Met l yX5_beginsRing wsX5_beginsRing rm_X5_beginsRing (pC dC dI cyI cyJ cyZ [.ref q_Sk, .int v1, .int v2, .int v3, .int v4] sz (wd17 cyI cyJ cyZ q_Tb q_Sk q_all q_apart q_Sc q_Pk1 n_all a_all n_apart a_apart)) (va_Qi (fun (r : Int32) (_ : Unit) => r = res) (bW dC dI (fun (u : Unit) => (wd17 cyI cyJ cyZ q_Tb q_Sk q_all q_apart q_Sc q_Pk1 n_all a_all n_apart a_apart)) (va_A (wd17 cyI cyJ cyZ q_Tb q_Sk q_all q_apart q_Sc q_Pk1 n_all a_all n_apart a_apart) sz)) (va_A (wd17 cyI cyJ cyZ q_Tb q_Sk q_all q_apart q_Sc q_Pk1 n_all a_all n_apart a_apart) sz)) 0 0 (va_A (wd17 cyI cyJ cyZ q_Tb q_Sk q_all q_apart q_Sc q_Pk1 n_all a_all n_apart a_apart) sz) := by
  refine Met.ofW (cc := cX5_beginsRing) (maxL := 7) (ret := (some .boolean)) (by decide) rfl ?_
  intro p e s m args below meth c s₁ B hml hv
  obtain ⟨rfl, hsz, hP, hG, hD0⟩ := hv
  have hx := B.exec
  have hb := B.bytes
  have hr := B.returns
  have hts := atoms_spec (ws := wsX5_beginsRing) B.pre
  have hown : s.vm.findClass RX5 = some m.cls := findClass_of_methodNamed B.named
  have hlocks := B.notSynchronized
  subst hsz
  have hD := hD0.self (sz := s.heap.size)
  generalize hAe : va_A (wd17 cyI cyJ cyZ q_Tb q_Sk q_all q_apart q_Sc q_Pk1 n_all a_all n_apart a_apart) s.heap.size = A at hD ⊢
  have hA : ∀ q : Nat, s.heap.size ≤ q → A q := fun q h => by rw [← hAe]; exact Or.inr h
  have hS : va_S A s.heap s.heap [] := va_S.rf
  have hl := lv_entry ([.ref q_Sk, .int v1, .int v2, .int v3, .int v4]) (n := 7) (Nat.le_of_ble_eq_true rfl)
  rw [lg_entry_eq]
  generalize (lg_sl ([.ref q_Sk, .int v1, .int v2, .int v3, .int v4]) ++ List.replicate (7 - (lg_sl ([.ref q_Sk, .int v1, .int v2, .int v3, .int v4])).length) Slot.unset).toArray = ls at hl ⊢
  have hl : lv_has ls 7 [(0, .ref q_Sk), (1, .int v1), (2, .int v2), (3, .int v3), (4, .int v4)] := hl
  exact k_X5_beginsRing_0 ⟨hx, hb, hr, hml, hown, hts, hlocks, hG, hA⟩ N res q_Tb q_Sk q_all q_apart q_Sc q_Pk1 v1 v2 v3 v4 n_all a_all n_apart a_apart  h _ _ hP hD hS _ hl
/-- the cells Tb, Sk, Pk1, all, apart -/
abbrev wd18 (cyI cyJ cyZ : ClassId) (q_Tb : Nat) (q_Sk : Nat) (q_Pk1 : Nat) (q_all : Nat) (q_apart : Nat) (q_Sc : Nat) (pk1_wanted : Int32) (pk1_seen : Int32) (n_all : Nat) (a_all : Nat → Int32) (n_apart : Nat) (a_apart : Nat → Int32) : va_W := [(q_Tb, .inr (7, [.ref q_Sc, .ref q_all, .ref q_apart])), (q_Sk, .inr (5, [.ref q_Tb, .ref q_Sc, .ref q_Pk1])), (q_Pk1, .inr (2, [.int pk1_wanted, .int pk1_seen])), (q_all, .inl (cyI, n_all, .inl a_all)), (q_apart, .inl (cyI, n_apart, .inl a_apart))]
abbrev rm_X5_ringAt : Room := { frames := 2, cells := 0, slots := 0, locals := 48 }
theorem hd_X5_ringAt : yX5_ringAt.cls ≠ "java/lang/invoke/MethodHandle" ∧ yX5_ringAt.cls ≠ "java/lang/invoke/VarHandle" ∧ (parseMethodDescriptor yX5_ringAt.desc).map (fun d => d.parameters.length) = some 4 := by decide +kernel
theorem iw_X5_ringAt_X7 : ∀ w ∈ wsX70, w ∈ wsX5_ringAt := List.forall_mem_cons.mpr ⟨List.mem_of_getElem? (i := 35) rfl, List.forall_mem_cons.mpr ⟨List.mem_of_getElem? (i := 36) rfl, List.forall_mem_cons.mpr ⟨List.mem_of_getElem? (i := 37) rfl, fun _ h => absurd h List.not_mem_nil⟩⟩⟩
theorem iw_X5_ringAt_X5 : ∀ w ∈ wsX50, w ∈ wsX5_ringAt := List.forall_mem_cons.mpr ⟨List.mem_of_getElem? (i := 30) rfl, List.forall_mem_cons.mpr ⟨List.mem_of_getElem? (i := 31) rfl, List.forall_mem_cons.mpr ⟨List.mem_of_getElem? (i := 32) rfl, fun _ h => absurd h List.not_mem_nil⟩⟩⟩
theorem iw_X5_ringAt_X2 : ∀ w ∈ wsX20, w ∈ wsX5_ringAt := List.forall_mem_cons.mpr ⟨List.mem_of_getElem? (i := 33) rfl, List.forall_mem_cons.mpr ⟨List.mem_of_getElem? (i := 34) rfl, fun _ h => absurd h List.not_mem_nil⟩⟩
def j_X5_ringAt_49 (N : Nat) (pk1_wanted : Int32) (pk1_seen : Int32) : Option (Int32 × Int32 × Int32) :=
  Option.bind (f_X2_notFound N  pk1_wanted pk1_seen) fun r5z =>
  some (r5z, pk1_wanted, pk1_seen)
set_option maxRecDepth 100000 in
set_option maxHeartbeats 4000000 in
theorem k_X5_ringAt_49 {p : Program} {l : Launch} {e : Env} {s : State} {m : MethodId} {args : Array Value} {below : List Frame} {meth : Method} {c : Code} {dC : Nat → ClassId} {dI : Nat → Nat → Nat} {cyI cyJ cyZ : ClassId} {A : Nat → Prop} (C0 : mC p s m meth c args cX5_ringAt (some .int) 6 RX5 wsX5_ringAt (gK dC dI cyI cyJ cyZ) A) (N : Nat) (res : Int32 × Int32 × Int32) (q_Tb : Nat) (q_Sk : Nat) (q_Pk1 : Nat) (q_all : Nat) (q_apart : Nat) (q_Sc : Nat) (pk1_wanted : Int32) (pk1_seen : Int32) (n_all : Nat) (a_all : Nat → Int32) (n_apart : Nat) (a_apart : Nat → Int32) (h : j_X5_ringAt_49 N pk1_wanted pk1_seen = some res) : ∀ (H : Heap) (locs : List Loc), va_P (dC, dI) vwCl (wd18 cyI cyJ cyZ q_Tb q_Sk q_Pk1 q_all q_apart q_Sc pk1_wanted pk1_seen n_all a_all n_apart a_apart) H → va_D A (wd18 cyI cyJ cyZ q_Tb q_Sk q_Pk1 q_all q_apart q_Sc pk1_wanted pk1_seen n_all a_all n_apart a_apart) → va_S A s.heap H locs → ∀ (ls : Array Slot), lv_has ls 6 [(0, .ref q_Sk)] → W p l e (headSpec wsX5_ringAt rm_X5_ringAt).room s m args below meth c H locs 0 0 (MQ below (va_Qi (fun (r : Int32) (_ : Unit) => r = res.1) (bW dC dI (fun (u : Unit) => (wd18 cyI cyJ cyZ q_Tb q_Sk q_Pk1 q_all q_apart q_Sc res.2.1 res.2.2 n_all a_all n_apart a_apart)) A) A) args s 0 0 A) (F0 m 49 ls []) := by
  obtain ⟨hx, hb, hr, hml, hown, hts, hlocks, hG, hA⟩ := id C0
  have hK := hG.1
  intro H locs hP hD hS ls hl
  unfold j_X5_ringAt_49 at h
  refine lv_aload_n hx hb dX5_ringAt_49 rfl (lv_at hl 0 rfl) ?_
  refine va_get (D := (dC, dI)) (ci := 5) (v := .ref q_Pk1) (C := RX5) (T := TX5) (N := 3) hx hb hts iw_X5_ringAt_X5 hown hK hP 1 rfl rfl 2 (by decide) (hts (.fieldLink RX5 12 "GoesInto$Seeker" "pick" "LGoesInto$Pick;") (List.mem_of_getElem? (i := 1) rfl)) (fun _ h9 => h9) rfl dX5_ringAt_50 ?_
  obtain ⟨r5z, hr5z, h⟩ := xb_at h
  have hPc := hP.sub (ws' := (wd16 cyI cyJ cyZ q_Pk1 pk1_wanted pk1_seen)) [2] rfl
  have hDc := hD.sub (ws' := (wd16 cyI cyJ cyZ q_Pk1 pk1_wanted pk1_seen)) [2] (by decide) rfl
  refine cal_i [2] [0, 1, 3, 4] (va_runV (As := []) (rest := []) ⟨hx, hb, hml, hown, hts⟩ (c_X2_notFound l dC dI cyI cyJ cyZ N r5z H.size q_Pk1  pk1_wanted pk1_seen hr5z) (cwV 0 hts gX5_ringAt_X2_notFound rfl rfl rfl ⟨rfl, hd_X2_notFound⟩ ⟨Nat.le_of_ble_eq_true rfl, Nat.le_of_ble_eq_true rfl⟩) ⟨pC.blind, va_recv hK hPc (ci := 2) (q0 := 0) rfl rfl, pC.pre hPc hG hDc⟩ rfl rfl hl.1 rfl (lv_room (Nat.le_of_ble_eq_true rfl)) dX5_ringAt_53 ⟨Nat.zero_le _, Nat.zero_le _⟩) hP hD hS hA rfl rfl rfl (by decide) (fun x7z u6z H locs hw hP hD hS => ?_)
  obtain rfl := hw.symm
  have hP : va_P (dC, dI) vwCl (wd18 cyI cyJ cyZ q_Tb q_Sk q_Pk1 q_all q_apart q_Sc pk1_wanted pk1_seen n_all a_all n_apart a_apart) H := hP.sub [0, 1, 4, 2, 3] rfl
  have hD : va_D A (wd18 cyI cyJ cyZ q_Tb q_Sk q_Pk1 q_all q_apart q_Sc pk1_wanted pk1_seen n_all a_all n_apart a_apart) := hD.sub [0, 1, 4, 2, 3] (by decide) rfl
  obtain rfl := Option.some.inj h
  exact W.iret (v := r5z) hx hb hr (fun t ht hW => ⟨⟨_, (), rfl, rfl, by rw [ht]; exact hP, hD⟩, hS.F ht⟩) hS.2.2 dX5_ringAt_56 hlocks
def s_X5_ringAt_12 (N : Nat) (v1 : Int32) (v2 : Int32) (v3 : Int32) (pk1_wanted : Int32) (n_all : Nat) (a_all : Nat → Int32) (n_apart : Nat) (a_apart : Nat → Int32) (k_12 : (Int32 × Int32) → Option (Int32 × Int32 × Int32)) (v5 : Int32) (pk1_seen : Int32) : Option (Int32 × Int32 × Int32) :=
  if v3 < v5 then
    j_X5_ringAt_49 N pk1_wanted pk1_seen
  else
    Option.bind (f_X5_beginsRing N v1 v2 v3 v5 n_all a_all n_apart a_apart) fun r8z =>
    if r8z = 0 then
      xl (v5 + (1 : Int32)) fun y12z =>
      k_12 (y12z, pk1_seen)
    else
      Option.bind (f_X2_isNext N  pk1_wanted pk1_seen) fun r13z =>
      if r13z.1 = 0 then
        xl (v5 + (1 : Int32)) fun y17z =>
        k_12 (y17z, r13z.2)
      else
        some (v5, pk1_wanted, r13z.2)
def l_X5_ringAt_12 (N : Nat) (v1 : Int32) (v2 : Int32) (v3 : Int32) (pk1_wanted : Int32) (n_all : Nat) (a_all : Nat → Int32) (n_apart : Nat) (a_apart : Nat → Int32) (n : Nat) (z : Int32 × Int32) : Option (Int32 × Int32 × Int32) := lp (fun k z => s_X5_ringAt_12 N v1 v2 v3 pk1_wanted n_all a_all n_apart a_apart k z.1 z.2) n z
set_option maxRecDepth 100000 in
set_option maxHeartbeats 4000000 in
theorem k_X5_ringAt_12 {p : Program} {l : Launch} {e : Env} {s : State} {m : MethodId} {args : Array Value} {below : List Frame} {meth : Method} {c : Code} {dC : Nat → ClassId} {dI : Nat → Nat → Nat} {cyI cyJ cyZ : ClassId} {A : Nat → Prop} (C0 : mC p s m meth c args cX5_ringAt (some .int) 6 RX5 wsX5_ringAt (gK dC dI cyI cyJ cyZ) A) (N : Nat) (res : Int32 × Int32 × Int32) (q_Tb : Nat) (q_Sk : Nat) (q_Pk1 : Nat) (q_all : Nat) (q_apart : Nat) (q_Sc : Nat) (v1 : Int32) (v2 : Int32) (v3 : Int32) (pk1_wanted : Int32) (n_all : Nat) (a_all : Nat → Int32) (n_apart : Nat) (a_apart : Nat → Int32) : ∀ (n : Nat) (v5 : Int32) (pk1_seen : Int32), l_X5_ringAt_12 N v1 v2 v3 pk1_wanted n_all a_all n_apart a_apart n (v5, pk1_seen) = some res → ∀ (H : Heap) (locs : List Loc), va_P (dC, dI) vwCl (wd18 cyI cyJ cyZ q_Tb q_Sk q_Pk1 q_all q_apart q_Sc pk1_wanted pk1_seen n_all a_all n_apart a_apart) H → va_D A (wd18 cyI cyJ cyZ q_Tb q_Sk q_Pk1 q_all q_apart q_Sc pk1_wanted pk1_seen n_all a_all n_apart a_apart) → va_S A s.heap H locs → ∀ (ls : Array Slot), lv_has ls 6 [(0, .ref q_Sk), (1, .int v1), (2, .int v2), (3, .int v3), (5, .int v5)] → W p l e (headSpec wsX5_ringAt rm_X5_ringAt).room s m args below meth c H locs 0 0 (MQ below (va_Qi (fun (r : Int32) (_ : Unit) => r = res.1) (bW dC dI (fun (u : Unit) => (wd18 cyI cyJ cyZ q_Tb q_Sk q_Pk1 q_all q_apart q_Sc res.2.1 res.2.2 n_all a_all n_apart a_apart)) A) A) args s 0 0 A) (F0 m 12 ls []) := by
  obtain ⟨hx, hb, hr, hml, hown, hts, hlocks, hG, hA⟩ := id C0
  have hK := hG.1
  intro n
  induction n with
  | zero =>
    intro v5 pk1_seen h
    cases h
  | succ n ih =>
    intro v5 pk1_seen h H locs hP hD hS ls hl
    have h : s_X5_ringAt_12 N v1 v2 v3 pk1_wanted n_all a_all n_apart a_apart (l_X5_ringAt_12 N v1 v2 v3 pk1_wanted n_all a_all n_apart a_apart n) v5 pk1_seen = some res := h
    unfold s_X5_ringAt_12 at h
    refine lv_iload hx hb dX5_ringAt_12 (lv_at hl 4 rfl) ?_
    refine lv_iload_n hx hb dX5_ringAt_14 rfl (lv_at hl 3 rfl) ?_
    refine lv_icmp_gt (tgt := 49) hx hb dX5_ringAt_15 (by decide) (fun c4z => ?_) (fun c4z => ?_)
    · have h := xt h c4z
      exact k_X5_ringAt_49 C0 N res q_Tb q_Sk q_Pk1 q_all q_apart q_Sc pk1_wanted pk1_seen n_all a_all n_apart a_apart  h _ _ hP hD hS _ (lv_sub hl [0] rfl)
    · have h := xf h c4z
      refine lv_aload_n hx hb dX5_ringAt_18 rfl (lv_at hl 0 rfl) ?_
      refine lv_iload_n hx hb dX5_ringAt_19 rfl (lv_at hl 1 rfl) ?_
      refine lv_iload_n hx hb dX5_ringAt_20 rfl (lv_at hl 2 rfl) ?_
      refine lv_iload_n hx hb dX5_ringAt_21 rfl (lv_at hl 3 rfl) ?_
      refine lv_iload hx hb dX5_ringAt_22 (lv_at hl 4 rfl) ?_
      obtain ⟨r8z, hr8z, h⟩ := xb_at h
      have hPc := hP.sub (ws' := (wd17 cyI cyJ cyZ q_Tb q_Sk q_all q_apart q_Sc q_Pk1 n_all a_all n_apart a_apart)) [0, 1, 3, 4] rfl
      have hDc := hD.sub (ws' := (wd17 cyI cyJ cyZ q_Tb q_Sk q_all q_apart q_Sc q_Pk1 n_all a_all n_apart a_apart)) [0, 1, 3, 4] (by decide) rfl
      refine cal_i [0, 1, 3, 4] [2] (va_runV (As := [.int v1, .int v2, .int v3, .int v5]) (rest := []) ⟨hx, hb, hml, hown, hts⟩ (c_X5_beginsRing l dC dI cyI cyJ cyZ N r8z H.size q_Tb q_Sk q_all q_apart q_Sc q_Pk1 v1 v2 v3 v5 n_all a_all n_apart a_apart hr8z) (cwV 4 hts gX5_ringAt_X5_beginsRing rfl rfl rfl ⟨rfl, hd_X5_beginsRing⟩ ⟨Nat.le_of_ble_eq_true rfl, Nat.le_of_ble_eq_true rfl⟩) ⟨pC.blind, va_recv hK hPc (ci := 5) (q0 := 1) rfl rfl, pC.pre hPc hG hDc⟩ rfl rfl hl.1 rfl (lv_room (Nat.le_of_ble_eq_true rfl)) dX5_ringAt_24 ⟨Nat.zero_le _, Nat.zero_le _⟩) hP hD hS hA rfl rfl rfl (by decide) (fun x10z u9z H locs hw hP hD hS => ?_)
      obtain rfl := hw.symm
      have hP : va_P (dC, dI) vwCl (wd18 cyI cyJ cyZ q_Tb q_Sk q_Pk1 q_all q_apart q_Sc pk1_wanted pk1_seen n_all a_all n_apart a_apart) H := hP.sub [1, 2, 0, 3, 4] rfl
      have hD : va_D A (wd18 cyI cyJ cyZ q_Tb q_Sk q_Pk1 q_all q_apart q_Sc pk1_wanted pk1_seen n_all a_all n_apart a_apart) := hD.sub [1, 2, 0, 3, 4] (by decide) rfl
      refine lv_if_eq (tgt := 43) hx hb dX5_ringAt_27 (by decide) (fun c11z => ?_) (fun c11z => ?_)
      · have h := xt h c11z
        obtain ⟨y12z, ey12z⟩ : ∃ z : Int32, z = v5 + (1 : Int32) := ⟨_, rfl⟩
        have h := xl_at h ey12z
        refine lv_iinc (v := y12z) (lv' := [(5, .int y12z), (0, .ref q_Sk), (1, .int v1), (2, .int v2), (3, .int v3)]) hx hb dX5_ringAt_43 hl (k := 4) rfl (by rw [ey12z]; rfl) (by decide) rfl (fun ls hl => ?_)
        refine lv_goto (tgt := 12) hx hb dX5_ringAt_46 (by decide) ?_
        exact ih y12z pk1_seen h _ _ hP hD hS _ (lv_sub hl [1, 2, 3, 4, 0] rfl)
      · have h := xf h c11z
        refine lv_aload_n hx hb dX5_ringAt_30 rfl (lv_at hl 0 rfl) ?_
        refine va_get (D := (dC, dI)) (ci := 5) (v := .ref q_Pk1) (C := RX5) (T := TX5) (N := 3) hx hb hts iw_X5_ringAt_X5 hown hK hP 1 rfl rfl 2 (by decide) (hts (.fieldLink RX5 12 "GoesInto$Seeker" "pick" "LGoesInto$Pick;") (List.mem_of_getElem? (i := 1) rfl)) (fun _ h9 => h9) rfl dX5_ringAt_31 ?_
        obtain ⟨r13z, hr13z, h⟩ := xb_at h
        have hPc := hP.sub (ws' := (wd16 cyI cyJ cyZ q_Pk1 pk1_wanted pk1_seen)) [2] rfl
        have hDc := hD.sub (ws' := (wd16 cyI cyJ cyZ q_Pk1 pk1_wanted pk1_seen)) [2] (by decide) rfl
        refine cal_i [2] [0, 1, 3, 4] (va_runV (As := []) (rest := []) ⟨hx, hb, hml, hown, hts⟩ (c_X2_isNext l dC dI cyI cyJ cyZ N r13z H.size q_Pk1  pk1_wanted pk1_seen hr13z) (cwV 0 hts gX5_ringAt_X2_isNext rfl rfl rfl ⟨rfl, hd_X2_isNext⟩ ⟨Nat.le_of_ble_eq_true rfl, Nat.le_of_ble_eq_true rfl⟩) ⟨pC.blind, va_recv hK hPc (ci := 2) (q0 := 0) rfl rfl, pC.pre hPc hG hDc⟩ rfl rfl hl.1 rfl (lv_room (Nat.le_of_ble_eq_true rfl)) dX5_ringAt_34 ⟨Nat.zero_le _, Nat.zero_le _⟩) hP hD hS hA rfl rfl rfl (by decide) (fun x15z u14z H locs hw hP hD hS => ?_)
        obtain rfl := hw.symm
        have hP : va_P (dC, dI) vwCl (wd18 cyI cyJ cyZ q_Tb q_Sk q_Pk1 q_all q_apart q_Sc pk1_wanted r13z.2 n_all a_all n_apart a_apart) H := hP.sub [0, 1, 4, 2, 3] rfl
        have hD : va_D A (wd18 cyI cyJ cyZ q_Tb q_Sk q_Pk1 q_all q_apart q_Sc pk1_wanted r13z.2 n_all a_all n_apart a_apart) := hD.sub [0, 1, 4, 2, 3] (by decide) rfl
        refine lv_if_eq (tgt := 43) hx hb dX5_ringAt_37 (by decide) (fun c16z => ?_) (fun c16z => ?_)
        · have h := xt h c16z
          obtain ⟨y17z, ey17z⟩ : ∃ z : Int32, z = v5 + (1 : Int32) := ⟨_, rfl⟩
          have h := xl_at h ey17z
          refine lv_iinc (v := y17z) (lv' := [(5, .int y17z), (0, .ref q_Sk), (1, .int v1), (2, .int v2), (3, .int v3)]) hx hb dX5_ringAt_43 hl (k := 4) rfl (by rw [ey17z]; rfl) (by decide) rfl (fun ls hl => ?_)
          refine lv_goto (tgt := 12) hx hb dX5_ringAt_46 (by decide) ?_
          exact ih y17z r13z.2 h _ _ hP hD hS _ (lv_sub hl [1, 2, 3, 4, 0] rfl)
        · have h := xf h c16z
          refine lv_iload hx hb dX5_ringAt_40 (lv_at hl 4 rfl) ?_
          obtain rfl := Option.some.inj h
          exact W.iret (v := v5) hx hb hr (fun t ht hW => ⟨⟨_, (), rfl, rfl, by rw [ht]; exact hP, hD⟩, hS.F ht⟩) hS.2.2 dX5_ringAt_42 hlocks
def f_X5_ringAt (N : Nat) (v1 : Int32) (v2 : Int32) (v3 : Int32) (v4 : Int32) (pk1_wanted : Int32) (pk1_seen : Int32) (n_all : Nat) (a_all : Nat → Int32) (n_apart : Nat) (a_apart : Nat → Int32) : Option (Int32 × Int32 × Int32) :=
  Option.bind (f_X2_begin N v4 pk1_wanted pk1_seen) fun r1z =>
  l_X5_ringAt_12 N v1 v2 v3 r1z.1 n_all a_all n_apart a_apart N ((1 : Int32), r1z.2)
set_option maxRecDepth 100000 in
set_option maxHeartbeats 4000000 in
theorem k_X5_ringAt_0 {p : Program} {l : Launch} {e : Env} {s : State} {m : MethodId} {args : Array Value} {below : List Frame} {meth : Method} {c : Code} {dC : Nat → ClassId} {dI : Nat → Nat → Nat} {cyI cyJ cyZ : ClassId} {A : Nat → Prop} (C0 : mC p s m meth c args cX5_ringAt (some .int) 6 RX5 wsX5_ringAt (gK dC dI cyI cyJ cyZ) A) (N : Nat) (res : Int32 × Int32 × Int32) (q_Tb : Nat) (q_Sk : Nat) (q_Pk1 : Nat) (q_all : Nat) (q_apart : Nat) (q_Sc : Nat) (v1 : Int32) (v2 : Int32) (v3 : Int32) (v4 : Int32) (pk1_wanted : Int32) (pk1_seen : Int32) (n_all : Nat) (a_all : Nat → Int32) (n_apart : Nat) (a_apart : Nat → Int32) (h : f_X5_ringAt N v1 v2 v3 v4 pk1_wanted pk1_seen n_all a_all n_apart a_apart = some res) : ∀ (H : Heap) (locs : List Loc), va_P (dC, dI) vwCl (wd18 cyI cyJ cyZ q_Tb q_Sk q_Pk1 q_all q_apart q_Sc pk1_wanted pk1_seen n_all a_all n_apart a_apart) H → va_D A (wd18 cyI cyJ cyZ q_Tb q_Sk q_Pk1 q_all q_apart q_Sc pk1_wanted pk1_seen n_all a_all n_apart a_apart) → va_S A s.heap H locs → ∀ (ls : Array Slot), lv_has ls 6 [(0, .ref q_Sk), (1, .int v1), (2, .int v2), (3, .int v3), (4, .int v4)] → W p l e (headSpec wsX5_ringAt rm_X5_ringAt).room s m args below meth c H locs 0 0 (MQ below (va_Qi (fun (r : Int32) (_ : Unit) => r = res.1) (bW dC dI (fun (u : Unit) => (wd18 cyI cyJ cyZ q_Tb q_Sk q_Pk1 q_all q_apart q_Sc res.2.1 res.2.2 n_all a_all n_apart a_apart)) A) A) args s 0 0 A) (F0 m 0 ls []) := by
  obtain ⟨hx, hb, hr, hml, hown, hts, hlocks, hG, hA⟩ := id C0
  have hK := hG.1
  intro H locs hP hD hS ls hl
  unfold f_X5_ringAt at h
  refine lv_aload_n hx hb dX5_ringAt_0 rfl (lv_at hl 0 rfl) ?_
  refine va_get (D := (dC, dI)) (ci := 5) (v := .ref q_Pk1) (C := RX5) (T := TX5) (N := 3) hx hb hts iw_X5_ringAt_X5 hown hK hP 1 rfl rfl 2 (by decide) (hts (.fieldLink RX5 12 "GoesInto$Seeker" "pick" "LGoesInto$Pick;") (List.mem_of_getElem? (i := 1) rfl)) (fun _ h9 => h9) rfl dX5_ringAt_1 ?_
  refine lv_iload hx hb dX5_ringAt_4 (lv_at hl 4 rfl) ?_
  obtain ⟨r1z, hr1z, h⟩ := xb_at h
  have hPc := hP.sub (ws' := (wd16 cyI cyJ cyZ q_Pk1 pk1_wanted pk1_seen)) [2] rfl
  have hDc := hD.sub (ws' := (wd16 cyI cyJ cyZ q_Pk1 pk1_wanted pk1_seen)) [2] (by decide) rfl
  refine cal_v [2] [0, 1, 3, 4] (va_runV (As := [.int v4]) (rest := []) ⟨hx, hb, hml, hown, hts⟩ (c_X2_begin l dC dI cyI cyJ cyZ N r1z H.size q_Pk1 v4 pk1_wanted pk1_seen hr1z) (cwV 1 hts gX5_ringAt_X2_begin rfl rfl rfl ⟨rfl, hd_X2_begin⟩ ⟨Nat.le_of_ble_eq_true rfl, Nat.le_of_ble_eq_true rfl⟩) ⟨pC.blind, va_recv hK hPc (ci := 2) (q0 := 0) rfl rfl, pC.pre hPc hG hDc⟩ rfl rfl hl.1 rfl (lv_room (Nat.le_of_ble_eq_true rfl)) dX5_ringAt_6 ⟨Nat.zero_le _, Nat.zero_le _⟩) hP hD hS hA rfl rfl rfl (by decide) (fun u2z H locs _ hP hD hS => ?_)
  have hP : va_P (dC, dI) vwCl (wd18 cyI cyJ cyZ q_Tb q_Sk q_Pk1 q_all q_apart q_Sc r1z.1 r1z.2 n_all a_all n_apart a_apart) H := hP.sub [0, 1, 4, 2, 3] rfl
  have hD : va_D A (wd18 cyI cyJ cyZ q_Tb q_Sk q_Pk1 q_all q_apart q_Sc r1z.1 r1z.2 n_all a_all n_apart a_apart) := hD.sub [0, 1, 4, 2, 3] (by decide) rfl
  refine lv_iconst (v := (1 : Int32)) hx hb dX5_ringAt_9 (by decide) ?_
  refine lv_istore (lv' := [(5, .int (1 : Int32)), (0, .ref q_Sk), (1, .int v1), (2, .int v2), (3, .int v3), (4, .int v4)]) hx hb dX5_ringAt_10 hl (by decide) rfl (fun ls hl => ?_)
  exact k_X5_ringAt_12 C0 N res q_Tb q_Sk q_Pk1 q_all q_apart q_Sc v1 v2 v3 r1z.1 n_all a_all n_apart a_apart N (1 : Int32) r1z.2 h _ _ hP hD hS _ (lv_sub hl [1, 2, 3, 4, 0] rfl)
set_option maxRecDepth 100000 in
set_option maxHeartbeats 4000000 in
theorem c_X5_ringAt (l : Launch) (dC : Nat → ClassId) (dI : Nat → Nat → Nat) (cyI cyJ cyZ : ClassId) (N : Nat) (res : Int32 × Int32 × Int32) (sz : Nat) (q_Tb : Nat) (q_Sk : Nat) (q_Pk1 : Nat) (q_all : Nat) (q_apart : Nat) (q_Sc : Nat) (v1 : Int32) (v2 : Int32) (v3 : Int32) (v4 : Int32) (pk1_wanted : Int32) (pk1_seen : Int32) (n_all : Nat) (a_all : Nat → Int32) (n_apart : Nat) (a_apart : Nat → Int32) (h : f_X5_ringAt N v1 v2 v3 v4 pk1_wanted pk1_seen n_all a_all n_apart a_apart = some res) : Met l yX5_ringAt wsX5_ringAt rm_X5_ringAt (pC dC dI cyI cyJ cyZ [.ref q_Sk, .int v1, .int v2, .int v3, .int v4] sz (wd18 cyI cyJ cyZ q_Tb q_Sk q_Pk1 q_all q_apart q_Sc pk1_wanted pk1_seen n_all a_all n_apart a_apart)) (va_Qi (fun (r : Int32) (_ : Unit) => r = res.1) (bW dC dI (fun (u : Unit) => (wd18 cyI cyJ cyZ q_Tb q_Sk q_Pk1 q_all q_apart q_Sc res.2.1 res.2.2 n_all a_all n_apart a_apart)) (va_A (wd18 cyI cyJ cyZ q_Tb q_Sk q_Pk1 q_all q_apart q_Sc pk1_wanted pk1_seen n_all a_all n_apart a_apart) sz)) (va_A (wd18 cyI cyJ cyZ q_Tb q_Sk q_Pk1 q_all q_apart q_Sc pk1_wanted pk1_seen n_all a_all n_apart a_apart) sz)) 0 0 (va_A (wd18 cyI cyJ cyZ q_Tb q_Sk q_Pk1 q_all q_apart q_Sc pk1_wanted pk1_seen n_all a_all n_apart a_apart) sz) := by
  refine Met.ofW (cc := cX5_ringAt) (maxL := 6) (ret := (some .int)) (by decide) rfl ?_
  intro p e s m args below meth c s₁ B hml hv
  obtain ⟨rfl, hsz, hP, hG, hD0⟩ := hv
  have hx := B.exec
  have hb := B.bytes
  have hr := B.returns
  have hts := atoms_spec (ws := wsX5_ringAt) B.pre
  have hown : s.vm.findClass RX5 = some m.cls := findClass_of_methodNamed B.named
  have hlocks := B.notSynchronized
  subst hsz
  have hD := hD0.self (sz := s.heap.size)
  generalize hAe : va_A (wd18 cyI cyJ cyZ q_Tb q_Sk q_Pk1 q_all q_apart q_Sc pk1_wanted pk1_seen n_all a_all n_apart a_apart) s.heap.size = A at hD ⊢
  have hA : ∀ q : Nat, s.heap.size ≤ q → A q := fun q h => by rw [← hAe]; exact Or.inr h
  have hS : va_S A s.heap s.heap [] := va_S.rf
  have hl := lv_entry ([.ref q_Sk, .int v1, .int v2, .int v3, .int v4]) (n := 6) (Nat.le_of_ble_eq_true rfl)
  rw [lg_entry_eq]
  generalize (lg_sl ([.ref q_Sk, .int v1, .int v2, .int v3, .int v4]) ++ List.replicate (6 - (lg_sl ([.ref q_Sk, .int v1, .int v2, .int v3, .int v4])).length) Slot.unset).toArray = ls at hl ⊢
  have hl : lv_has ls 6 [(0, .ref q_Sk), (1, .int v1), (2, .int v2), (3, .int v3), (4, .int v4)] := hl
  exact k_X5_ringAt_0 ⟨hx, hb, hr, hml, hown, hts, hlocks, hG, hA⟩ N res q_Tb q_Sk q_Pk1 q_all q_apart q_Sc v1 v2 v3 v4 pk1_wanted pk1_seen n_all a_all n_apart a_apart  h _ _ hP hD hS _ hl
abbrev rm_X5_havingAt : Room := { frames := 1, cells := 0, slots := 0, locals := 22 }
theorem hd_X5_havingAt : yX5_havingAt.cls ≠ "java/lang/invoke/MethodHandle" ∧ yX5_havingAt.cls ≠ "java/lang/invoke/VarHandle" ∧ (parseMethodDescriptor yX5_havingAt.desc).map (fun d => d.parameters.length) = some 4 := by decide +kernel
theorem iw_X5_havingAt_X7 : ∀ w ∈ wsX70, w ∈ wsX5_havingAt := List.forall_mem_cons.mpr ⟨List.mem_of_getElem? (i := 30) rfl, List.forall_mem_cons.mpr ⟨List.mem_of_getElem? (i := 31) rfl, List.forall_mem_cons.mpr ⟨List.mem_of_getElem? (i := 32) rfl, fun _ h => absurd h List.not_mem_nil⟩⟩⟩
theorem iw_X5_havingAt_X5 : ∀ w ∈ wsX50, w ∈ wsX5_havingAt := List.forall_mem_cons.mpr ⟨List.mem_of_getElem? (i := 25) rfl, List.forall_mem_cons.mpr ⟨List.mem_of_getElem? (i := 26) rfl, List.forall_mem_cons.mpr ⟨List.mem_of_getElem? (i := 27) rfl, fun _ h => absurd h List.not_mem_nil⟩⟩⟩
theorem iw_X5_havingAt_X2 : ∀ w ∈ wsX20, w ∈ wsX5_havingAt := List.forall_mem_cons.mpr ⟨List.mem_of_getElem? (i := 28) rfl, List.forall_mem_cons.mpr ⟨List.mem_of_getElem? (i := 29) rfl, fun _ h => absurd h List.not_mem_nil⟩⟩
def j_X5_havingAt_51 (N : Nat) (pk1_wanted : Int32) (pk1_seen : Int32) : Option (Int32 × Int32 × Int32) :=
  Option.bind (f_X2_notFound N  pk1_wanted pk1_seen) fun r5z =>
  some (r5z, pk1_wanted, pk1_seen)
set_option maxRecDepth 100000 in
set_option maxHeartbeats 4000000 in
theorem k_X5_havingAt_51 {p : Program} {l : Launch} {e : Env} {s : State} {m : MethodId} {args : Array Value} {below : List Frame} {meth : Method} {c : Code} {dC : Nat → ClassId} {dI : Nat → Nat → Nat} {cyI cyJ cyZ : ClassId} {A : Nat → Prop} (C0 : mC p s m meth c args cX5_havingAt (some .int) 6 RX5 wsX5_havingAt (gK dC dI cyI cyJ cyZ) A) (N : Nat) (res : Int32 × Int32 × Int32) (q_Tb : Nat) (q_Sk : Nat) (q_Pk1 : Nat) (q_all : Nat) (q_apart : Nat) (q_Sc : Nat) (pk1_wanted : Int32) (pk1_seen : Int32) (n_all : Nat) (a_all : Nat → Int32) (n_apart : Nat) (a_apart : Nat → Int32) (h : j_X5_havingAt_51 N pk1_wanted pk1_seen = some res) : ∀ (H : Heap) (locs : List Loc), va_P (dC, dI) vwCl (wd18 cyI cyJ cyZ q_Tb q_Sk q_Pk1 q_all q_apart q_Sc pk1_wanted pk1_seen n_all a_all n_apart a_apart) H → va_D A (wd18 cyI cyJ cyZ q_Tb q_Sk q_Pk1 q_all q_apart q_Sc pk1_wanted pk1_seen n_all a_all n_apart a_apart) → va_S A s.heap H locs → ∀ (ls : Array Slot), lv_has ls 6 [(0, .ref q_Sk)] → W p l e (headSpec wsX5_havingAt rm_X5_havingAt).room s m args below meth c H locs 0 0 (MQ below (va_Qi (fun (r : Int32) (_ : Unit) => r = res.1) (bW dC dI (fun (u : Unit) => (wd18 cyI cyJ cyZ q_Tb q_Sk q_Pk1 q_all q_apart q_Sc res.2.1 res.2.2 n_all a_all n_apart a_apart)) A) A) args s 0 0 A) (F0 m 51 ls []) := by
  obtain ⟨hx, hb, hr, hml, hown, hts, hlocks, hG, hA⟩ := id C0
  have hK := hG.1
  intro H locs hP hD hS ls hl
  unfold j_X5_havingAt_51 at h
  refine lv_aload_n hx hb dX5_havingAt_51 rfl (lv_at hl 0 rfl) ?_
  refine va_get (D := (dC, dI)) (ci := 5) (v := .ref q_Pk1) (C := RX5) (T := TX5) (N := 3) hx hb hts iw_X5_havingAt_X5 hown hK hP 1 rfl rfl 2 (by decide) (hts (.fieldLink RX5 12 "GoesInto$Seeker" "pick" "LGoesInto$Pick;") (List.mem_of_getElem? (i := 1) rfl)) (fun _ h9 => h9) rfl dX5_havingAt_52 ?_
  obtain ⟨r5z, hr5z, h⟩ := xb_at h
  have hPc := hP.sub (ws' := (wd16 cyI cyJ cyZ q_Pk1 pk1_wanted pk1_seen)) [2] rfl
  have hDc := hD.sub (ws' := (wd16 cyI cyJ cyZ q_Pk1 pk1_wanted pk1_seen)) [2] (by decide) rfl
  refine cal_i [2] [0, 1, 3, 4] (va_runV (As := []) (rest := []) ⟨hx, hb, hml, hown, hts⟩ (c_X2_notFound l dC dI cyI cyJ cyZ N r5z H.size q_Pk1  pk1_wanted pk1_seen hr5z) (cwV 0 hts gX5_havingAt_X2_notFound rfl rfl rfl ⟨rfl, hd_X2_notFound⟩ ⟨Nat.le_of_ble_eq_true rfl, Nat.le_of_ble_eq_true rfl⟩) ⟨pC.blind, va_recv hK hPc (ci := 2) (q0 := 0) rfl rfl, pC.pre hPc hG hDc⟩ rfl rfl hl.1 rfl (lv_room (Nat.le_of_ble_eq_true rfl)) dX5_havingAt_55 ⟨Nat.zero_le _, Nat.zero_le _⟩) hP hD hS hA rfl rfl rfl (by decide) (fun x7z u6z H locs hw hP hD hS => ?_)
  obtain rfl := hw.symm
  have hP : va_P (dC, dI) vwCl (wd18 cyI cyJ cyZ q_Tb q_Sk q_Pk1 q_all q_apart q_Sc pk1_wanted pk1_seen n_all a_all n_apart a_apart) H := hP.sub [0, 1, 4, 2, 3] rfl
  have hD : va_D A (wd18 cyI cyJ cyZ q_Tb q_Sk q_Pk1 q_all q_apart q_Sc pk1_wanted pk1_seen n_all a_all n_apart a_apart) := hD.sub [0, 1, 4, 2, 3] (by decide) rfl
  obtain rfl := Option.some.inj h
  exact W.iret (v := r5z) hx hb hr (fun t ht hW => ⟨⟨_, (), rfl, rfl, by rw [ht]; exact hP, hD⟩, hS.F ht⟩) hS.2.2 dX5_havingAt_58 hlocks
def s_X5_havingAt_12 (N : Nat) (v1 : Int32) (v2 : Int32) (v3 : Int32) (pk1_wanted : Int32) (n_all : Nat) (a_all : Nat → Int32) (n_apart : Nat) (a_apart : Nat → Int32) (k_12 : (Int32 × Int32) → Option (Int32 × Int32 × Int32)) (v5 : Int32) (pk1_seen : Int32) : Option (Int32 × Int32 × Int32) :=
  if v3 < v5 then
    j_X5_havingAt_51 N pk1_wanted pk1_seen
  else
    Option.bind (f_X7_summed N v1 v5 n_all a_all n_apart a_apart) fun r8z =>
    if r8z = v2 then
      Option.bind (f_X2_isNext N  pk1_wanted pk1_seen) fun r13z =>
      if r13z.1 = 0 then
        xl (v5 + (1 : Int32)) fun y17z =>
        k_12 (y17z, r13z.2)
      else
        some (v5, pk1_wanted, r13z.2)
    else
      xl (v5 + (1 : Int32)) fun y12z =>
      k_12 (y12z, pk1_seen)
def l_X5_havingAt_12 (N : Nat) (v1 : Int32) (v2 : Int32) (v3 : Int32) (pk1_wanted : Int32) (n_all : Nat) (a_all : Nat → Int32) (n_apart : Nat) (a_apart : Nat → Int32) (n : Nat) (z : Int32 × Int32) : Option (Int32 × Int32 × Int32) := lp (fun k z => s_X5_havingAt_12 N v1 v2 v3 pk1_wanted n_all a_all n_apart a_apart k z.1 z.2) n z
set_option maxRecDepth 100000 in
set_option maxHeartbeats 4000000 in
theorem k_X5_havingAt_12 {p : Program} {l : Launch} {e : Env} {s : State} {m : MethodId} {args : Array Value} {below : List Frame} {meth : Method} {c : Code} {dC : Nat → ClassId} {dI : Nat → Nat → Nat} {cyI cyJ cyZ : ClassId} {A : Nat → Prop} (C0 : mC p s m meth c args cX5_havingAt (some .int) 6 RX5 wsX5_havingAt (gK dC dI cyI cyJ cyZ) A) (N : Nat) (res : Int32 × Int32 × Int32) (q_Tb : Nat) (q_Sk : Nat) (q_Pk1 : Nat) (q_all : Nat) (q_apart : Nat) (q_Sc : Nat) (v1 : Int32) (v2 : Int32) (v3 : Int32) (pk1_wanted : Int32) (n_all : Nat) (a_all : Nat → Int32) (n_apart : Nat) (a_apart : Nat → Int32) : ∀ (n : Nat) (v5 : Int32) (pk1_seen : Int32), l_X5_havingAt_12 N v1 v2 v3 pk1_wanted n_all a_all n_apart a_apart n (v5, pk1_seen) = some res → ∀ (H : Heap) (locs : List Loc), va_P (dC, dI) vwCl (wd18 cyI cyJ cyZ q_Tb q_Sk q_Pk1 q_all q_apart q_Sc pk1_wanted pk1_seen n_all a_all n_apart a_apart) H → va_D A (wd18 cyI cyJ cyZ q_Tb q_Sk q_Pk1 q_all q_apart q_Sc pk1_wanted pk1_seen n_all a_all n_apart a_apart) → va_S A s.heap H locs → ∀ (ls : Array Slot), lv_has ls 6 [(0, .ref q_Sk), (1, .int v1), (2, .int v2), (3, .int v3), (5, .int v5)] → W p l e (headSpec wsX5_havingAt rm_X5_havingAt).room s m args below meth c H locs 0 0 (MQ below (va_Qi (fun (r : Int32) (_ : Unit) => r = res.1) (bW dC dI (fun (u : Unit) => (wd18 cyI cyJ cyZ q_Tb q_Sk q_Pk1 q_all q_apart q_Sc res.2.1 res.2.2 n_all a_all n_apart a_apart)) A) A) args s 0 0 A) (F0 m 12 ls []) := by
  obtain ⟨hx, hb, hr, hml, hown, hts, hlocks, hG, hA⟩ := id C0
  have hK := hG.1
  intro n
  induction n with
  | zero =>
    intro v5 pk1_seen h
    cases h
  | succ n ih =>
    intro v5 pk1_seen h H locs hP hD hS ls hl
    have h : s_X5_havingAt_12 N v1 v2 v3 pk1_wanted n_all a_all n_apart a_apart (l_X5_havingAt_12 N v1 v2 v3 pk1_wanted n_all a_all n_apart a_apart n) v5 pk1_seen = some res := h
    unfold s_X5_havingAt_12 at h
    refine lv_iload hx hb dX5_havingAt_12 (lv_at hl 4 rfl) ?_
    refine lv_iload_n hx hb dX5_havingAt_14 rfl (lv_at hl 3 rfl) ?_
    refine lv_icmp_gt (tgt := 51) hx hb dX5_havingAt_15 (by decide) (fun c4z => ?_) (fun c4z => ?_)
    · have h := xt h c4z
      exact k_X5_havingAt_51 C0 N res q_Tb q_Sk q_Pk1 q_all q_apart q_Sc pk1_wanted pk1_seen n_all a_all n_apart a_apart  h _ _ hP hD hS _ (lv_sub hl [0] rfl)
    · have h := xf h c4z
      refine lv_aload_n hx hb dX5_havingAt_18 rfl (lv_at hl 0 rfl) ?_
      refine va_get (D := (dC, dI)) (ci := 5) (v := .ref q_Tb) (C := RX5) (T := TX5) (N := 3) hx hb hts iw_X5_havingAt_X5 hown hK hP 1 rfl rfl 0 (by decide) (hts (.fieldLink RX5 18 "GoesInto$Seeker" "tables" "LGoesInto$Tables;") (List.mem_of_getElem? (i := 2) rfl)) (fun _ h9 => h9) rfl dX5_havingAt_19 ?_
      refine lv_iload_n hx hb dX5_havingAt_22 rfl (lv_at hl 1 rfl) ?_
      refine lv_iload hx hb dX5_havingAt_23 (lv_at hl 4 rfl) ?_
      obtain ⟨r8z, hr8z, h⟩ := xb_at h
      have hPc := hP.sub (ws' := (wd15 cyI cyJ cyZ q_Tb q_all q_apart q_Sc n_all a_all n_apart a_apart)) [0, 3, 4] rfl
      have hDc := hD.sub (ws' := (wd15 cyI cyJ cyZ q_Tb q_all q_apart q_Sc n_all a_all n_apart a_apart)) [0, 3, 4] (by decide) rfl
      refine cal_i [0, 3, 4] [1, 2] (va_runV (As := [.int v1, .int v5]) (rest := []) ⟨hx, hb, hml, hown, hts⟩ (c_X7_summed l dC dI cyI cyJ cyZ N r8z H.size q_Tb q_all q_apart q_Sc v1 v5 n_all a_all n_apart a_apart hr8z) (cwV 2 hts gX5_havingAt_X7_summed rfl rfl rfl ⟨rfl, hd_X7_summed⟩ ⟨Nat.le_of_ble_eq_true rfl, Nat.le_of_ble_eq_true rfl⟩) ⟨pC.blind, va_recv hK hPc (ci := 7) (q0 := 0) rfl rfl, pC.pre hPc hG hDc⟩ rfl rfl hl.1 rfl (lv_room (Nat.le_of_ble_eq_true rfl)) dX5_havingAt_25 ⟨Nat.zero_le _, Nat.zero_le _⟩) hP hD hS hA rfl rfl rfl (by decide) (fun x10z u9z H locs hw hP hD hS => ?_)
      obtain rfl := hw.symm
      have hP : va_P (dC, dI) vwCl (wd18 cyI cyJ cyZ q_Tb q_Sk q_Pk1 q_all q_apart q_Sc pk1_wanted pk1_seen n_all a_all n_apart a_apart) H := hP.sub [2, 0, 1, 3, 4] rfl
      have hD : va_D A (wd18 cyI cyJ cyZ q_Tb q_Sk q_Pk1 q_all q_apart q_Sc pk1_wanted pk1_seen n_all a_all n_apart a_apart) := hD.sub [2, 0, 1, 3, 4] (by decide) rfl
      refine lv_iload_n hx hb dX5_havingAt_28 rfl (lv_at hl 2 rfl) ?_
      refine lv_icmp_ne (tgt := 45) hx hb dX5_havingAt_29 (by decide) (fun c11z => ?_) (fun c11z => ?_)
      · have h := xf h c11z
        obtain ⟨y12z, ey12z⟩ : ∃ z : Int32, z = v5 + (1 : Int32) := ⟨_, rfl⟩
        have h := xl_at h ey12z
        refine lv_iinc (v := y12z) (lv' := [(5, .int y12z), (0, .ref q_Sk), (1, .int v1), (2, .int v2), (3, .int v3)]) hx hb dX5_havingAt_45 hl (k := 4) rfl (by rw [ey12z]; rfl) (by decide) rfl (fun ls hl => ?_)
        refine lv_goto (tgt := 12) hx hb dX5_havingAt_48 (by decide) ?_
        exact ih y12z pk1_seen h _ _ hP hD hS _ (lv_sub hl [1, 2, 3, 4, 0] rfl)
      · have h := xt h c11z
        refine lv_aload_n hx hb dX5_havingAt_32 rfl (lv_at hl 0 rfl) ?_
        refine va_get (D := (dC, dI)) (ci := 5) (v := .ref q_Pk1) (C := RX5) (T := TX5) (N := 3) hx hb hts iw_X5_havingAt_X5 hown hK hP 1 rfl rfl 2 (by decide) (hts (.fieldLink RX5 12 "GoesInto$Seeker" "pick" "LGoesInto$Pick;") (List.mem_of_getElem? (i := 1) rfl)) (fun _ h9 => h9) rfl dX5_havingAt_33 ?_
        obtain ⟨r13z, hr13z, h⟩ := xb_at h
        have hPc := hP.sub (ws' := (wd16 cyI cyJ cyZ q_Pk1 pk1_wanted pk1_seen)) [2] rfl
        have hDc := hD.sub (ws' := (wd16 cyI cyJ cyZ q_Pk1 pk1_wanted pk1_seen)) [2] (by decide) rfl
        refine cal_i [2] [0, 1, 3, 4] (va_runV (As := []) (rest := []) ⟨hx, hb, hml, hown, hts⟩ (c_X2_isNext l dC dI cyI cyJ cyZ N r13z H.size q_Pk1  pk1_wanted pk1_seen hr13z) (cwV 0 hts gX5_havingAt_X2_isNext rfl rfl rfl ⟨rfl, hd_X2_isNext⟩ ⟨Nat.le_of_ble_eq_true rfl, Nat.le_of_ble_eq_true rfl⟩) ⟨pC.blind, va_recv hK hPc (ci := 2) (q0 := 0) rfl rfl, pC.pre hPc hG hDc⟩ rfl rfl hl.1 rfl (lv_room (Nat.le_of_ble_eq_true rfl)) dX5_havingAt_36 ⟨Nat.zero_le _, Nat.zero_le _⟩) hP hD hS hA rfl rfl rfl (by decide) (fun x15z u14z H locs hw hP hD hS => ?_)
        obtain rfl := hw.symm
        have hP : va_P (dC, dI) vwCl (wd18 cyI cyJ cyZ q_Tb q_Sk q_Pk1 q_all q_apart q_Sc pk1_wanted r13z.2 n_all a_all n_apart a_apart) H := hP.sub [0, 1, 4, 2, 3] rfl
        have hD : va_D A (wd18 cyI cyJ cyZ q_Tb q_Sk q_Pk1 q_all q_apart q_Sc pk1_wanted r13z.2 n_all a_all n_apart a_apart) := hD.sub [0, 1, 4, 2, 3] (by decide) rfl
        refine lv_if_eq (tgt := 45) hx hb dX5_havingAt_39 (by decide) (fun c16z => ?_) (fun c16z => ?_)
        · have h := xt h c16z
          obtain ⟨y17z, ey17z⟩ : ∃ z : Int32, z = v5 + (1 : Int32) := ⟨_, rfl⟩
          have h := xl_at h ey17z
          refine lv_iinc (v := y17z) (lv' := [(5, .int y17z), (0, .ref q_Sk), (1, .int v1), (2, .int v2), (3, .int v3)]) hx hb dX5_havingAt_45 hl (k := 4) rfl (by rw [ey17z]; rfl) (by decide) rfl (fun ls hl => ?_)
          refine lv_goto (tgt := 12) hx hb dX5_havingAt_48 (by decide) ?_
          exact ih y17z r13z.2 h _ _ hP hD hS _ (lv_sub hl [1, 2, 3, 4, 0] rfl)
        · have h := xf h c16z
          refine lv_iload hx hb dX5_havingAt_42 (lv_at hl 4 rfl) ?_
          obtain rfl := Option.some.inj h
          exact W.iret (v := v5) hx hb hr (fun t ht hW => ⟨⟨_, (), rfl, rfl, by rw [ht]; exact hP, hD⟩, hS.F ht⟩) hS.2.2 dX5_havingAt_44 hlocks
def f_X5_havingAt (N : Nat) (v1 : Int32) (v2 : Int32) (v3 : Int32) (v4 : Int32) (pk1_wanted : Int32) (pk1_seen : Int32) (n_all : Nat) (a_all : Nat → Int32) (n_apart : Nat) (a_apart : Nat → Int32) : Option (Int32 × Int32 × Int32) :=
  Option.bind (f_X2_begin N v4 pk1_wanted pk1_seen) fun r1z =>
  l_X5_havingAt_12 N v1 v2 v3 r1z.1 n_all a_all n_apart a_apart N ((1 : Int32), r1z.2)
set_option maxRecDepth 100000 in
set_option maxHeartbeats 4000000 in
theorem k_X5_havingAt_0 {p : Program} {l : Launch} {e : Env} {s : State} {m : MethodId} {args : Array Value} {below : List Frame} {meth : Method} {c : Code} {dC : Nat → ClassId} {dI : Nat → Nat → Nat} {cyI cyJ cyZ : ClassId} {A : Nat → Prop} (C0 : mC p s m meth c args cX5_havingAt (some .int) 6 RX5 wsX5_havingAt (gK dC dI cyI cyJ cyZ) A) (N : Nat) (res : Int32 × Int32 × Int32) (q_Tb : Nat) (q_Sk : Nat) (q_Pk1 : Nat) (q_all : Nat) (q_apart : Nat) (q_Sc : Nat) (v1 : Int32) (v2 : Int32) (v3 : Int32) (v4 : Int32) (pk1_wanted : Int32) (pk1_seen : Int32) (n_all : Nat) (a_all : Nat → Int32) (n_apart : Nat) (a_apart : Nat → Int32) (h : f_X5_havingAt N v1 v2 v3 v4 pk1_wanted pk1_seen n_all a_all n_apart a_apart = some res) : ∀ (H : Heap) (locs : List Loc), va_P (dC, dI) vwCl (wd18 cyI cyJ cyZ q_Tb q_Sk q_Pk1 q_all q_apart q_Sc pk1_wanted pk1_seen n_all a_all n_apart a_apart) H → va_D A (wd18 cyI cyJ cyZ q_Tb q_Sk q_Pk1 q_all q_apart q_Sc pk1_wanted pk1_seen n_all a_all n_apart a_apart) → va_S A s.heap H locs → ∀ (ls : Array Slot), lv_has ls 6 [(0, .ref q_Sk), (1, .int v1), (2, .int v2), (3, .int v3), (4, .int v4)] → W p l e (headSpec wsX5_havingAt rm_X5_havingAt).room s m args below meth c H locs 0 0 (MQ below (va_Qi (fun (r : Int32) (_ : Unit) => r = res.1) (bW dC dI (fun (u : Unit) => (wd18 cyI cyJ cyZ q_Tb q_Sk q_Pk1 q_all q_apart q_Sc res.2.1 res.2.2 n_all a_all n_apart a_apart)) A) A) args s 0 0 A) (F0 m 0 ls []) := by
  obtain ⟨hx, hb, hr, hml, hown, hts, hlocks, hG, hA⟩ := id C0
  have hK := hG.1
  intro H locs hP hD hS ls hl
  unfold f_X5_havingAt at h
  refine lv_aload_n hx hb dX5_havingAt_0 rfl (lv_at hl 0 rfl) ?_
  refine va_get (D := (dC, dI)) (ci := 5) (v := .ref q_Pk1) (C := RX5) (T := TX5) (N := 3) hx hb hts iw_X5_havingAt_X5 hown hK hP 1 rfl rfl 2 (by decide) (hts (.fieldLink RX5 12 "GoesInto$Seeker" "pick" "LGoesInto$Pick;") (List.mem_of_getElem? (i := 1) rfl)) (fun _ h9 => h9) rfl dX5_havingAt_1 ?_
  refine lv_iload hx hb dX5_havingAt_4 (lv_at hl 4 rfl) ?_
  obtain ⟨r1z, hr1z, h⟩ := xb_at h
  have hPc := hP.sub (ws' := (wd16 cyI cyJ cyZ q_Pk1 pk1_wanted pk1_seen)) [2] rfl
  have hDc := hD.sub (ws' := (wd16 cyI cyJ cyZ q_Pk1 pk1_wanted pk1_seen)) [2] (by decide) rfl
  refine cal_v [2] [0, 1, 3, 4] (va_runV (As := [.int v4]) (rest := []) ⟨hx, hb, hml, hown, hts⟩ (c_X2_begin l dC dI cyI cyJ cyZ N r1z H.size q_Pk1 v4 pk1_wanted pk1_seen hr1z) (cwV 1 hts gX5_havingAt_X2_begin rfl rfl rfl ⟨rfl, hd_X2_begin⟩ ⟨Nat.le_of_ble_eq_true rfl, Nat.le_of_ble_eq_true rfl⟩) ⟨pC.blind, va_recv hK hPc (ci := 2) (q0 := 0) rfl rfl, pC.pre hPc hG hDc⟩ rfl rfl hl.1 rfl (lv_room (Nat.le_of_ble_eq_true rfl)) dX5_havingAt_6 ⟨Nat.zero_le _, Nat.zero_le _⟩) hP hD hS hA rfl rfl rfl (by decide) (fun u2z H locs _ hP hD hS => ?_)
  have hP : va_P (dC, dI) vwCl (wd18 cyI cyJ cyZ q_Tb q_Sk q_Pk1 q_all q_apart q_Sc r1z.1 r1z.2 n_all a_all n_apart a_apart) H := hP.sub [0, 1, 4, 2, 3] rfl
  have hD : va_D A (wd18 cyI cyJ cyZ q_Tb q_Sk q_Pk1 q_all q_apart q_Sc r1z.1 r1z.2 n_all a_all n_apart a_apart) := hD.sub [0, 1, 4, 2, 3] (by decide) rfl
  refine lv_iconst (v := (1 : Int32)) hx hb dX5_havingAt_9 (by decide) ?_
  refine lv_istore (lv' := [(5, .int (1 : Int32)), (0, .ref q_Sk), (1, .int v1), (2, .int v2), (3, .int v3), (4, .int v4)]) hx hb dX5_havingAt_10 hl (by decide) rfl (fun ls hl => ?_)
  exact k_X5_havingAt_12 C0 N res q_Tb q_Sk q_Pk1 q_all q_apart q_Sc v1 v2 v3 r1z.1 n_all a_all n_apart a_apart N (1 : Int32) r1z.2 h _ _ hP hD hS _ (lv_sub hl [1, 2, 3, 4, 0] rfl)
set_option maxRecDepth 100000 in
set_option maxHeartbeats 4000000 in
theorem c_X5_havingAt (l : Launch) (dC : Nat → ClassId) (dI : Nat → Nat → Nat) (cyI cyJ cyZ : ClassId) (N : Nat) (res : Int32 × Int32 × Int32) (sz : Nat) (q_Tb : Nat) (q_Sk : Nat) (q_Pk1 : Nat) (q_all : Nat) (q_apart : Nat) (q_Sc : Nat) (v1 : Int32) (v2 : Int32) (v3 : Int32) (v4 : Int32) (pk1_wanted : Int32) (pk1_seen : Int32) (n_all : Nat) (a_all : Nat → Int32) (n_apart : Nat) (a_apart : Nat → Int32) (h : f_X5_havingAt N v1 v2 v3 v4 pk1_wanted pk1_seen n_all a_all n_apart a_apart = some res) : Met l yX5_havingAt wsX5_havingAt rm_X5_havingAt (pC dC dI cyI cyJ cyZ [.ref q_Sk, .int v1, .int v2, .int v3, .int v4] sz (wd18 cyI cyJ cyZ q_Tb q_Sk q_Pk1 q_all q_apart q_Sc pk1_wanted pk1_seen n_all a_all n_apart a_apart)) (va_Qi (fun (r : Int32) (_ : Unit) => r = res.1) (bW dC dI (fun (u : Unit) => (wd18 cyI cyJ cyZ q_Tb q_Sk q_Pk1 q_all q_apart q_Sc res.2.1 res.2.2 n_all a_all n_apart a_apart)) (va_A (wd18 cyI cyJ cyZ q_Tb q_Sk q_Pk1 q_all q_apart q_Sc pk1_wanted pk1_seen n_all a_all n_apart a_apart) sz)) (va_A (wd18 cyI cyJ cyZ q_Tb q_Sk q_Pk1 q_all q_apart q_Sc pk1_wanted pk1_seen n_all a_all n_apart a_apart) sz)) 0 0 (va_A (wd18 cyI cyJ cyZ q_Tb q_Sk q_Pk1 q_all q_apart q_Sc pk1_wanted pk1_seen n_all a_all n_apart a_apart) sz) := by
  refine Met.ofW (cc := cX5_havingAt) (maxL := 6) (ret := (some .int)) (by decide) rfl ?_
  intro p e s m args below meth c s₁ B hml hv
  obtain ⟨rfl, hsz, hP, hG, hD0⟩ := hv
  have hx := B.exec
  have hb := B.bytes
  have hr := B.returns
  have hts := atoms_spec (ws := wsX5_havingAt) B.pre
  have hown : s.vm.findClass RX5 = some m.cls := findClass_of_methodNamed B.named
  have hlocks := B.notSynchronized
  subst hsz
  have hD := hD0.self (sz := s.heap.size)
  generalize hAe : va_A (wd18 cyI cyJ cyZ q_Tb q_Sk q_Pk1 q_all q_apart q_Sc pk1_wanted pk1_seen n_all a_all n_apart a_apart) s.heap.size = A at hD ⊢
  have hA : ∀ q : Nat, s.heap.size ≤ q → A q := fun q h => by rw [← hAe]; exact Or.inr h
  have hS : va_S A s.heap s.heap [] := va_S.rf
  have hl := lv_entry ([.ref q_Sk, .int v1, .int v2, .int v3, .int v4]) (n := 6) (Nat.le_of_ble_eq_true rfl)
  rw [lg_entry_eq]
  generalize (lg_sl ([.ref q_Sk, .int v1, .int v2, .int v3, .int v4]) ++ List.replicate (6 - (lg_sl ([.ref q_Sk, .int v1, .int v2, .int v3, .int v4])).length) Slot.unset).toArray = ls at hl ⊢
  have hl : lv_has ls 6 [(0, .ref q_Sk), (1, .int v1), (2, .int v2), (3, .int v3), (4, .int v4)] := hl
  exact k_X5_havingAt_0 ⟨hx, hb, hr, hml, hown, hts, hlocks, hG, hA⟩ N res q_Tb q_Sk q_Pk1 q_all q_apart q_Sc v1 v2 v3 v4 pk1_wanted pk1_seen n_all a_all n_apart a_apart  h _ _ hP hD hS _ hl
abbrev rm_X5_friendAt : Room := { frames := 1, cells := 0, slots := 0, locals := 22 }
theorem hd_X5_friendAt : yX5_friendAt.cls ≠ "java/lang/invoke/MethodHandle" ∧ yX5_friendAt.cls ≠ "java/lang/invoke/VarHandle" ∧ (parseMethodDescriptor yX5_friendAt.desc).map (fun d => d.parameters.length) = some 3 := by decide +kernel
theorem iw_X5_friendAt_X7 : ∀ w ∈ wsX70, w ∈ wsX5_friendAt := List.forall_mem_cons.mpr ⟨List.mem_of_getElem? (i := 28) rfl, List.forall_mem_cons.mpr ⟨List.mem_of_getElem? (i := 29) rfl, List.forall_mem_cons.mpr ⟨List.mem_of_getElem? (i := 30) rfl, fun _ h => absurd h List.not_mem_nil⟩⟩⟩
theorem iw_X5_friendAt_X5 : ∀ w ∈ wsX50, w ∈ wsX5_friendAt := List.forall_mem_cons.mpr ⟨List.mem_of_getElem? (i := 25) rfl, List.forall_mem_cons.mpr ⟨List.mem_of_getElem? (i := 26) rfl, List.forall_mem_cons.mpr ⟨List.mem_of_getElem? (i := 27) rfl, fun _ h => absurd h List.not_mem_nil⟩⟩⟩
theorem iw_X5_friendAt_X2 : ∀ w ∈ wsX20, w ∈ wsX5_friendAt := List.forall_mem_cons.mpr ⟨List.mem_of_getElem? (i := 31) rfl, List.forall_mem_cons.mpr ⟨List.mem_of_getElem? (i := 32) rfl, fun _ h => absurd h List.not_mem_nil⟩⟩
def j_X5_friendAt_90 (N : Nat) (pk1_wanted : Int32) (pk1_seen : Int32) : Option (Int32 × Int32 × Int32) :=
  Option.bind (f_X2_notFound N  pk1_wanted pk1_seen) fun r9z =>
  some (r9z, pk1_wanted, pk1_seen)
set_option maxRecDepth 100000 in
set_option maxHeartbeats 4000000 in
theorem k_X5_friendAt_90 {p : Program} {l : Launch} {e : Env} {s : State} {m : MethodId} {args : Array Value} {below : List Frame} {meth : Method} {c : Code} {dC : Nat → ClassId} {dI : Nat → Nat → Nat} {cyI cyJ cyZ : ClassId} {A : Nat → Prop} (C0 : mC p s m meth c args cX5_friendAt (some .int) 8 RX5 wsX5_friendAt (gK dC dI cyI cyJ cyZ) A) (N : Nat) (res : Int32 × Int32 × Int32) (q_Tb : Nat) (q_Sk : Nat) (q_Pk1 : Nat) (q_all : Nat) (q_apart : Nat) (q_Sc : Nat) (pk1_wanted : Int32) (pk1_seen : Int32) (n_all : Nat) (a_all : Nat → Int32) (n_apart : Nat) (a_apart : Nat → Int32) (h : j_X5_friendAt_90 N pk1_wanted pk1_seen = some res) : ∀ (H : Heap) (locs : List Loc), va_P (dC, dI) vwCl (wd18 cyI cyJ cyZ q_Tb q_Sk q_Pk1 q_all q_apart q_Sc pk1_wanted pk1_seen n_all a_all n_apart a_apart) H → va_D A (wd18 cyI cyJ cyZ q_Tb q_Sk q_Pk1 q_all q_apart q_Sc pk1_wanted pk1_seen n_all a_all n_apart a_apart) → va_S A s.heap H locs → ∀ (ls : Array Slot), lv_has ls 8 [(0, .ref q_Sk)] → W p l e (headSpec wsX5_friendAt rm_X5_friendAt).room s m args below meth c H locs 0 0 (MQ below (va_Qi (fun (r : Int32) (_ : Unit) => r = res.1) (bW dC dI (fun (u : Unit) => (wd18 cyI cyJ cyZ q_Tb q_Sk q_Pk1 q_all q_apart q_Sc res.2.1 res.2.2 n_all a_all n_apart a_apart)) A) A) args s 0 0 A) (F0 m 90 ls []) := by
  obtain ⟨hx, hb, hr, hml, hown, hts, hlocks, hG, hA⟩ := id C0
  have hK := hG.1
  intro H locs hP hD hS ls hl
  unfold j_X5_friendAt_90 at h
  refine lv_aload_n hx hb dX5_friendAt_90 rfl (lv_at hl 0 rfl) ?_
  refine va_get (D := (dC, dI)) (ci := 5) (v := .ref q_Pk1) (C := RX5) (T := TX5) (N := 3) hx hb hts iw_X5_friendAt_X5 hown hK hP 1 rfl rfl 2 (by decide) (hts (.fieldLink RX5 12 "GoesInto$Seeker" "pick" "LGoesInto$Pick;") (List.mem_of_getElem? (i := 2) rfl)) (fun _ h9 => h9) rfl dX5_friendAt_91 ?_
  obtain ⟨r9z, hr9z, h⟩ := xb_at h
  have hPc := hP.sub (ws' := (wd16 cyI cyJ cyZ q_Pk1 pk1_wanted pk1_seen)) [2] rfl
  have hDc := hD.sub (ws' := (wd16 cyI cyJ cyZ q_Pk1 pk1_wanted pk1_seen)) [2] (by decide) rfl
  refine cal_i [2] [0, 1, 3, 4] (va_runV (As := []) (rest := []) ⟨hx, hb, hml, hown, hts⟩ (c_X2_notFound l dC dI cyI cyJ cyZ N r9z H.size q_Pk1  pk1_wanted pk1_seen hr9z) (cwV 0 hts gX5_friendAt_X2_notFound rfl rfl rfl ⟨rfl, hd_X2_notFound⟩ ⟨Nat.le_of_ble_eq_true rfl, Nat.le_of_ble_eq_true rfl⟩) ⟨pC.blind, va_recv hK hPc (ci := 2) (q0 := 0) rfl rfl, pC.pre hPc hG hDc⟩ rfl rfl hl.1 rfl (lv_room (Nat.le_of_ble_eq_true rfl)) dX5_friendAt_94 ⟨Nat.zero_le _, Nat.zero_le _⟩) hP hD hS hA rfl rfl rfl (by decide) (fun x11z u10z H locs hw hP hD hS => ?_)
  obtain rfl := hw.symm
  have hP : va_P (dC, dI) vwCl (wd18 cyI cyJ cyZ q_Tb q_Sk q_Pk1 q_all q_apart q_Sc pk1_wanted pk1_seen n_all a_all n_apart a_apart) H := hP.sub [0, 1, 4, 2, 3] rfl
  have hD : va_D A (wd18 cyI cyJ cyZ q_Tb q_Sk q_Pk1 q_all q_apart q_Sc pk1_wanted pk1_seen n_all a_all n_apart a_apart) := hD.sub [0, 1, 4, 2, 3] (by decide) rfl
  obtain rfl := Option.some.inj h
  exact W.iret (v := r9z) hx hb hr (fun t ht hW => ⟨⟨_, (), rfl, rfl, by rw [ht]; exact hP, hD⟩, hS.F ht⟩) hS.2.2 dX5_friendAt_97 hlocks
def j_X5_friendAt_58 (N : Nat) (k_23 : (Int32 × Int32) → Option (Int32 × Int32 × Int32)) (v1 : Int32) (v6 : Int32) (s0 : Int32) (pk1_wanted : Int32) (pk1_seen : Int32) : Option (Int32 × Int32 × Int32) :=
  if v6 = v1 then
    xl (v6 + (1 : Int32)) fun y17z =>
    k_23 (y17z, pk1_seen)
  else
    if s0 = 0 then
      xl (v6 + (1 : Int32)) fun y19z =>
      k_23 (y19z, pk1_seen)
    else
      Option.bind (f_X2_isNext N  pk1_wanted pk1_seen) fun r20z =>
      if r20z.1 = 0 then
        xl (v6 + (1 : Int32)) fun y24z =>
        k_23 (y24z, r20z.2)
      else
        some (v6, pk1_wanted, r20z.2)
set_option maxRecDepth 100000 in
set_option maxHeartbeats 4000000 in
theorem k_X5_friendAt_58 {p : Program} {l : Launch} {e : Env} {s : State} {m : MethodId} {args : Array Value} {below : List Frame} {meth : Method} {c : Code} {dC : Nat → ClassId} {dI : Nat → Nat → Nat} {cyI cyJ cyZ : ClassId} {A : Nat → Prop} (C0 : mC p s m meth c args cX5_friendAt (some .int) 8 RX5 wsX5_friendAt (gK dC dI cyI cyJ cyZ) A) (N : Nat) (res : Int32 × Int32 × Int32) (q_Tb : Nat) (q_Sk : Nat) (q_Pk1 : Nat) (q_all : Nat) (q_apart : Nat) (q_Sc : Nat) (v1 : Int32) (v2 : Int32) (v4 : Int64) (s0 : Int32) (pk1_wanted : Int32) (n_all : Nat) (a_all : Nat → Int32) (n_apart : Nat) (a_apart : Nat → Int32) (k_23 : (Int32 × Int32) → Option (Int32 × Int32 × Int32)) (hk_23 : ∀ (v6 : Int32) (pk1_seen : Int32), k_23 (v6, pk1_seen) = some res → ∀ (H : Heap) (locs : List Loc), va_P (dC, dI) vwCl (wd18 cyI cyJ cyZ q_Tb q_Sk q_Pk1 q_all q_apart q_Sc pk1_wanted pk1_seen n_all a_all n_apart a_apart) H → va_D A (wd18 cyI cyJ cyZ q_Tb q_Sk q_Pk1 q_all q_apart q_Sc pk1_wanted pk1_seen n_all a_all n_apart a_apart) → va_S A s.heap H locs → ∀ (ls : Array Slot), lv_has ls 8 [(0, .ref q_Sk), (1, .int v1), (2, .int v2), (4, .long v4), (6, .int v6)] → W p l e (headSpec wsX5_friendAt rm_X5_friendAt).room s m args below meth c H locs 0 0 (MQ below (va_Qi (fun (r : Int32) (_ : Unit) => r = res.1) (bW dC dI (fun (u : Unit) => (wd18 cyI cyJ cyZ q_Tb q_Sk q_Pk1 q_all q_apart q_Sc res.2.1 res.2.2 n_all a_all n_apart a_apart)) A) A) args s 0 0 A) (F0 m 23 ls [])) (v6 : Int32) (pk1_seen : Int32) (h : j_X5_friendAt_58 N k_23 v1 v6 s0 pk1_wanted pk1_seen = some res) : ∀ (H : Heap) (locs : List Loc), va_P (dC, dI) vwCl (wd18 cyI cyJ cyZ q_Tb q_Sk q_Pk1 q_all q_apart q_Sc pk1_wanted pk1_seen n_all a_all n_apart a_apart) H → va_D A (wd18 cyI cyJ cyZ q_Tb q_Sk q_Pk1 q_all q_apart q_Sc pk1_wanted pk1_seen n_all a_all n_apart a_apart) → va_S A s.heap H locs → ∀ (ls : Array Slot), lv_has ls 8 [(0, .ref q_Sk), (1, .int v1), (2, .int v2), (4, .long v4), (6, .int v6)] → W p l e (headSpec wsX5_friendAt rm_X5_friendAt).room s m args below meth c H locs 0 0 (MQ below (va_Qi (fun (r : Int32) (_ : Unit) => r = res.1) (bW dC dI (fun (u : Unit) => (wd18 cyI cyJ cyZ q_Tb q_Sk q_Pk1 q_all q_apart q_Sc res.2.1 res.2.2 n_all a_all n_apart a_apart)) A) A) args s 0 0 A) (F0 m 58 ls [.int s0]) := by
  obtain ⟨hx, hb, hr, hml, hown, hts, hlocks, hG, hA⟩ := id C0
  have hK := hG.1
  intro H locs hP hD hS ls hl
  unfold j_X5_friendAt_58 at h
  refine lv_istore (lv' := [(7, .int s0), (0, .ref q_Sk), (1, .int v1), (2, .int v2), (4, .long v4), (6, .int v6)]) hx hb dX5_friendAt_58 hl (by decide) rfl (fun ls hl => ?_)
  refine lv_iload hx hb dX5_friendAt_60 (lv_at hl 5 rfl) ?_
  refine lv_iload_n hx hb dX5_friendAt_62 rfl (lv_at hl 2 rfl) ?_
  refine lv_icmp_eq (tgt := 84) hx hb dX5_friendAt_63 (by decide) (fun c16z => ?_) (fun c16z => ?_)
  · have h := xt h c16z
    obtain ⟨y17z, ey17z⟩ : ∃ z : Int32, z = v6 + (1 : Int32) := ⟨_, rfl⟩
    have h := xl_at h ey17z
    refine lv_iinc (v := y17z) (lv' := [(6, .int y17z), (7, .int s0), (0, .ref q_Sk), (1, .int v1), (2, .int v2), (4, .long v4)]) hx hb dX5_friendAt_84 hl (k := 5) rfl (by rw [ey17z]; rfl) (by decide) rfl (fun ls hl => ?_)
    refine lv_goto (tgt := 23) hx hb dX5_friendAt_87 (by decide) ?_
    exact hk_23 y17z pk1_seen h _ _ hP hD hS _ (lv_sub hl [2, 3, 4, 5, 0] rfl)
  · have h := xf h c16z
    refine lv_iload hx hb dX5_friendAt_66 (lv_at hl 0 rfl) ?_
    refine lv_if_eq (tgt := 84) hx hb dX5_friendAt_68 (by decide) (fun c18z => ?_) (fun c18z => ?_)
    · have h := xt h c18z
      obtain ⟨y19z, ey19z⟩ : ∃ z : Int32, z = v6 + (1 : Int32) := ⟨_, rfl⟩
      have h := xl_at h ey19z
      refine lv_iinc (v := y19z) (lv' := [(6, .int y19z), (7, .int s0), (0, .ref q_Sk), (1, .int v1), (2, .int v2), (4, .long v4)]) hx hb dX5_friendAt_84 hl (k := 5) rfl (by rw [ey19z]; rfl) (by decide) rfl (fun ls hl => ?_)
      refine lv_goto (tgt := 23) hx hb dX5_friendAt_87 (by decide) ?_
      exact hk_23 y19z pk1_seen h _ _ hP hD hS _ (lv_sub hl [2, 3, 4, 5, 0] rfl)
    · have h := xf h c18z
      refine lv_aload_n hx hb dX5_friendAt_71 rfl (lv_at hl 1 rfl) ?_
      refine va_get (D := (dC, dI)) (ci := 5) (v := .ref q_Pk1) (C := RX5) (T := TX5) (N := 3) hx hb hts iw_X5_friendAt_X5 hown hK hP 1 rfl rfl 2 (by decide) (hts (.fieldLink RX5 12 "GoesInto$Seeker" "pick" "LGoesInto$Pick;") (List.mem_of_getElem? (i := 2) rfl)) (fun _ h9 => h9) rfl dX5_friendAt_72 ?_
      obtain ⟨r20z, hr20z, h⟩ := xb_at h
      have hPc := hP.sub (ws' := (wd16 cyI cyJ cyZ q_Pk1 pk1_wanted pk1_seen)) [2] rfl
      have hDc := hD.sub (ws' := (wd16 cyI cyJ cyZ q_Pk1 pk1_wanted pk1_seen)) [2] (by decide) rfl
      refine cal_i [2] [0, 1, 3, 4] (va_runV (As := []) (rest := []) ⟨hx, hb, hml, hown, hts⟩ (c_X2_isNext l dC dI cyI cyJ cyZ N r20z H.size q_Pk1  pk1_wanted pk1_seen hr20z) (cwV 0 hts gX5_friendAt_X2_isNext rfl rfl rfl ⟨rfl, hd_X2_isNext⟩ ⟨Nat.le_of_ble_eq_true rfl, Nat.le_of_ble_eq_true rfl⟩) ⟨pC.blind, va_recv hK hPc (ci := 2) (q0 := 0) rfl rfl, pC.pre hPc hG hDc⟩ rfl rfl hl.1 rfl (lv_room (Nat.le_of_ble_eq_true rfl)) dX5_friendAt_75 ⟨Nat.zero_le _, Nat.zero_le _⟩) hP hD hS hA rfl rfl rfl (by decide) (fun x22z u21z H locs hw hP hD hS => ?_)
      obtain rfl := hw.symm
      have hP : va_P (dC, dI) vwCl (wd18 cyI cyJ cyZ q_Tb q_Sk q_Pk1 q_all q_apart q_Sc pk1_wanted r20z.2 n_all a_all n_apart a_apart) H := hP.sub [0, 1, 4, 2, 3] rfl
      have hD : va_D A (wd18 cyI cyJ cyZ q_Tb q_Sk q_Pk1 q_all q_apart q_Sc pk1_wanted r20z.2 n_all a_all n_apart a_apart) := hD.sub [0, 1, 4, 2, 3] (by decide) rfl
      refine lv_if_eq (tgt := 84) hx hb dX5_friendAt_78 (by decide) (fun c23z => ?_) (fun c23z => ?_)
      · have h := xt h c23z
        obtain ⟨y24z, ey24z⟩ : ∃ z : Int32, z = v6 + (1 : Int32) := ⟨_, rfl⟩
        have h := xl_at h ey24z
        refine lv_iinc (v := y24z) (lv' := [(6, .int y24z), (7, .int s0), (0, .ref q_Sk), (1, .int v1), (2, .int v2), (4, .long v4)]) hx hb dX5_friendAt_84 hl (k := 5) rfl (by rw [ey24z]; rfl) (by decide) rfl (fun ls hl => ?_)
        refine lv_goto (tgt := 23) hx hb dX5_friendAt_87 (by decide) ?_
        exact hk_23 y24z r20z.2 h _ _ hP hD hS _ (lv_sub hl [2, 3, 4, 5, 0] rfl)
      · have h := xf h c23z
        refine lv_iload hx hb dX5_friendAt_81 (lv_at hl 5 rfl) ?_
        obtain rfl := Option.some.inj h
        exact W.iret (v := v6) hx hb hr (fun t ht hW => ⟨⟨_, (), rfl, rfl, by rw [ht]; exact hP, hD⟩, hS.F ht⟩) hS.2.2 dX5_friendAt_83 hlocks
def s_X5_friendAt_23 (N : Nat) (v1 : Int32) (v2 : Int32) (v4 : Int64) (pk1_wanted : Int32) (n_all : Nat) (a_all : Nat → Int32) (n_apart : Nat) (a_apart : Nat → Int32) (k_23 : (Int32 × Int32) → Option (Int32 × Int32 × Int32)) (v6 : Int32) (pk1_seen : Int32) : Option (Int32 × Int32 × Int32) :=
  if v2 < v6 then
    j_X5_friendAt_90 N pk1_wanted pk1_seen
  else
    Option.bind (f_X7_summed N (0 : Int32) v6 n_all a_all n_apart a_apart) fun r12z =>
    if (r12z.toInt64 * v1.toInt64) = (v4 * v6.toInt64) then
      j_X5_friendAt_58 N k_23 v1 v6 (1 : Int32) pk1_wanted pk1_seen
    else
      j_X5_friendAt_58 N k_23 v1 v6 (0 : Int32) pk1_wanted pk1_seen
def l_X5_friendAt_23 (N : Nat) (v1 : Int32) (v2 : Int32) (v4 : Int64) (pk1_wanted : Int32) (n_all : Nat) (a_all : Nat → Int32) (n_apart : Nat) (a_apart : Nat → Int32) (n : Nat) (z : Int32 × Int32) : Option (Int32 × Int32 × Int32) := lp (fun k z => s_X5_friendAt_23 N v1 v2 v4 pk1_wanted n_all a_all n_apart a_apart k z.1 z.2) n z
set_option maxRecDepth 100000 in
set_option maxHeartbeats 4000000 in
theorem k_X5_friendAt_23 {p : Program} {l : Launch} {e : Env} {s : State} {m : MethodId} {args : Array Value} {below : List Frame} {meth : Method} {c : Code} {dC : Nat → ClassId} {dI : Nat → Nat → Nat} {cyI cyJ cyZ : ClassId} {A : Nat → Prop} (C0 : mC p s m meth c args cX5_friendAt (some .int) 8 RX5 wsX5_friendAt (gK dC dI cyI cyJ cyZ) A) (N : Nat) (res : Int32 × Int32 × Int32) (q_Tb : Nat) (q_Sk : Nat) (q_Pk1 : Nat) (q_all : Nat) (q_apart : Nat) (q_Sc : Nat) (v1 : Int32) (v2 : Int32) (v4 : Int64) (pk1_wanted : Int32) (n_all : Nat) (a_all : Nat → Int32) (n_apart : Nat) (a_apart : Nat → Int32) : ∀ (n : Nat) (v6 : Int32) (pk1_seen : Int32), l_X5_friendAt_23 N v1 v2 v4 pk1_wanted n_all a_all n_apart a_apart n (v6, pk1_seen) = some res → ∀ (H : Heap) (locs : List Loc), va_P (dC, dI) vwCl (wd18 cyI cyJ cyZ q_Tb q_Sk q_Pk1 q_all q_apart q_Sc pk1_wanted pk1_seen n_all a_all n_apart a_apart) H → va_D A (wd18 cyI cyJ cyZ q_Tb q_Sk q_Pk1 q_all q_apart q_Sc pk1_wanted pk1_seen n_all a_all n_apart a_apart) → va_S A s.heap H locs → ∀ (ls : Array Slot), lv_has ls 8 [(0, .ref q_Sk), (1, .int v1), (2, .int v2), (4, .long v4), (6, .int v6)] → W p l e (headSpec wsX5_friendAt rm_X5_friendAt).room s m args below meth c H locs 0 0 (MQ below (va_Qi (fun (r : Int32) (_ : Unit) => r = res.1) (bW dC dI (fun (u : Unit) => (wd18 cyI cyJ cyZ q_Tb q_Sk q_Pk1 q_all q_apart q_Sc res.2.1 res.2.2 n_all a_all n_apart a_apart)) A) A) args s 0 0 A) (F0 m 23 ls []) := by
  obtain ⟨hx, hb, hr, hml, hown, hts, hlocks, hG, hA⟩ := id C0
  have hK := hG.1
  intro n
  induction n with
  | zero =>
    intro v6 pk1_seen h
    cases h
  | succ n ih =>
    intro v6 pk1_seen h H locs hP hD hS ls hl
    have h : s_X5_friendAt_23 N v1 v2 v4 pk1_wanted n_all a_all n_apart a_apart (l_X5_friendAt_23 N v1 v2 v4 pk1_wanted n_all a_all n_apart a_apart n) v6 pk1_seen = some res := h
    unfold s_X5_friendAt_23 at h
    refine lv_iload hx hb dX5_friendAt_23 (lv_at hl 4 rfl) ?_
    refine lv_iload_n hx hb dX5_friendAt_25 rfl (lv_at hl 2 rfl) ?_
    refine lv_icmp_gt (tgt := 90) hx hb dX5_friendAt_26 (by decide) (fun c8z => ?_) (fun c8z => ?_)
    · have h := xt h c8z
      exact k_X5_friendAt_90 C0 N res q_Tb q_Sk q_Pk1 q_all q_apart q_Sc pk1_wanted pk1_seen n_all a_all n_apart a_apart  h _ _ hP hD hS _ (lv_sub hl [0] rfl)
    · have h := xf h c8z
      refine lv_aload_n hx hb dX5_friendAt_29 rfl (lv_at hl 0 rfl) ?_
      refine va_get (D := (dC, dI)) (ci := 5) (v := .ref q_Tb) (C := RX5) (T := TX5) (N := 3) hx hb hts iw_X5_friendAt_X5 hown hK hP 1 rfl rfl 0 (by decide) (hts (.fieldLink RX5 18 "GoesInto$Seeker" "tables" "LGoesInto$Tables;") (List.mem_of_getElem? (i := 1) rfl)) (fun _ h9 => h9) rfl dX5_friendAt_30 ?_
      refine lv_iconst (v := (0 : Int32)) hx hb dX5_friendAt_33 (by decide) ?_
      refine lv_iload hx hb dX5_friendAt_34 (lv_at hl 4 rfl) ?_
      obtain ⟨r12z, hr12z, h⟩ := xb_at h
      have hPc := hP.sub (ws' := (wd15 cyI cyJ cyZ q_Tb q_all q_apart q_Sc n_all a_all n_apart a_apart)) [0, 3, 4] rfl
      have hDc := hD.sub (ws' := (wd15 cyI cyJ cyZ q_Tb q_all q_apart q_Sc n_all a_all n_apart a_apart)) [0, 3, 4] (by decide) rfl
      refine cal_i [0, 3, 4] [1, 2] (va_runV (As := [.int (0 : Int32), .int v6]) (rest := []) ⟨hx, hb, hml, hown, hts⟩ (c_X7_summed l dC dI cyI cyJ cyZ N r12z H.size q_Tb q_all q_apart q_Sc (0 : Int32) v6 n_all a_all n_apart a_apart hr12z) (cwV 2 hts gX5_friendAt_X7_summed rfl rfl rfl ⟨rfl, hd_X7_summed⟩ ⟨Nat.le_of_ble_eq_true rfl, Nat.le_of_ble_eq_true rfl⟩) ⟨pC.blind, va_recv hK hPc (ci := 7) (q0 := 0) rfl rfl, pC.pre hPc hG hDc⟩ rfl rfl hl.1 rfl (lv_room (Nat.le_of_ble_eq_true rfl)) dX5_friendAt_36 ⟨Nat.zero_le _, Nat.zero_le _⟩) hP hD hS hA rfl rfl rfl (by decide) (fun x14z u13z H locs hw hP hD hS => ?_)
      obtain rfl := hw.symm
      have hP : va_P (dC, dI) vwCl (wd18 cyI cyJ cyZ q_Tb q_Sk q_Pk1 q_all q_apart q_Sc pk1_wanted pk1_seen n_all a_all n_apart a_apart) H := hP.sub [2, 0, 1, 3, 4] rfl
      have hD : va_D A (wd18 cyI cyJ cyZ q_Tb q_Sk q_Pk1 q_all q_apart q_Sc pk1_wanted pk1_seen n_all a_all n_apart a_apart) := hD.sub [2, 0, 1, 3, 4] (by decide) rfl
      refine lv_i2l (v := r12z.toInt64) hx hb dX5_friendAt_39 rfl ?_
      refine lv_iload_n hx hb dX5_friendAt_40 rfl (lv_at hl 1 rfl) ?_
      refine lv_i2l (v := v1.toInt64) hx hb dX5_friendAt_41 rfl ?_
      refine lv_lmul hx hb dX5_friendAt_42 ?_
      refine lv_lload hx hb dX5_friendAt_43 (lv_at hl 3 rfl) ?_
      refine lv_iload hx hb dX5_friendAt_45 (lv_at hl 4 rfl) ?_
      refine lv_i2l (v := v6.toInt64) hx hb dX5_friendAt_47 rfl ?_
      refine lv_lmul hx hb dX5_friendAt_48 ?_
      refine W.lcmp hx hb dX5_friendAt_49 ?_
      refine lv_if_ne (tgt := 57) hx hb dX5_friendAt_50 (by decide) (fun c15z => ?_) (fun c15z => ?_)
      · have c15z := fun z => c15z ((lg_cmp_eq _ _).mpr z)
        have h := xf h c15z
        refine lv_iconst (v := (0 : Int32)) hx hb dX5_friendAt_57 (by decide) ?_
        exact k_X5_friendAt_58 C0 N res q_Tb q_Sk q_Pk1 q_all q_apart q_Sc v1 v2 v4 (0 : Int32) pk1_wanted n_all a_all n_apart a_apart _ ih v6 pk1_seen  h _ _ hP hD hS _ (lv_sub hl [0, 1, 2, 3, 4] rfl)
      · have c15z := (lg_cmp_eq _ _).mp c15z
        have h := xt h c15z
        refine lv_iconst (v := (1 : Int32)) hx hb dX5_friendAt_53 (by decide) ?_
        refine lv_goto (tgt := 58) hx hb dX5_friendAt_54 (by decide) ?_
        exact k_X5_friendAt_58 C0 N res q_Tb q_Sk q_Pk1 q_all q_apart q_Sc v1 v2 v4 (1 : Int32) pk1_wanted n_all a_all n_apart a_apart _ ih v6 pk1_seen  h _ _ hP hD hS _ (lv_sub hl [0, 1, 2, 3, 4] rfl)
def f_X5_friendAt (N : Nat) (v1 : Int32) (v2 : Int32) (v3 : Int32) (pk1_wanted : Int32) (pk1_seen : Int32) (n_all : Nat) (a_all : Nat → Int32) (n_apart : Nat) (a_apart : Nat → Int32) : Option (Int32 × Int32 × Int32) :=
  Option.bind (f_X7_summed N (0 : Int32) v1 n_all a_all n_apart a_apart) fun r1z =>
  xl (r1z.toInt64) fun y4z =>
  Option.bind (f_X2_begin N v3 pk1_wanted pk1_seen) fun r5z =>
  l_X5_friendAt_23 N v1 v2 y4z r5z.1 n_all a_all n_apart a_apart N ((1 : Int32), r5z.2)
set_option maxRecDepth 100000 in
set_option maxHeartbeats 4000000 in
theorem k_X5_friendAt_0 {p : Program} {l : Launch} {e : Env} {s : State} {m : MethodId} {args : Array Value} {below : List Frame} {meth : Method} {c : Code} {dC : Nat → ClassId} {dI : Nat → Nat → Nat} {cyI cyJ cyZ : ClassId} {A : Nat → Prop} (C0 : mC p s m meth c args cX5_friendAt (some .int) 8 RX5 wsX5_friendAt (gK dC dI cyI cyJ cyZ) A) (N : Nat) (res : Int32 × Int32 × Int32) (q_Tb : Nat) (q_Sk : Nat) (q_Pk1 : Nat) (q_all : Nat) (q_apart : Nat) (q_Sc : Nat) (v1 : Int32) (v2 : Int32) (v3 : Int32) (pk1_wanted : Int32) (pk1_seen : Int32) (n_all : Nat) (a_all : Nat → Int32) (n_apart : Nat) (a_apart : Nat → Int32) (h : f_X5_friendAt N v1 v2 v3 pk1_wanted pk1_seen n_all a_all n_apart a_apart = some res) : ∀ (H : Heap) (locs : List Loc), va_P (dC, dI) vwCl (wd18 cyI cyJ cyZ q_Tb q_Sk q_Pk1 q_all q_apart q_Sc pk1_wanted pk1_seen n_all a_all n_apart a_apart) H → va_D A (wd18 cyI cyJ cyZ q_Tb q_Sk q_Pk1 q_all q_apart q_Sc pk1_wanted pk1_seen n_all a_all n_apart a_apart) → va_S A s.heap H locs → ∀ (ls : Array Slot), lv_has ls 8 [(0, .ref q_Sk), (1, .int v1), (2, .int v2), (3, .int v3)] → W p l e (headSpec wsX5_friendAt rm_X5_friendAt).room s m args below meth c H locs 0 0 (MQ below (va_Qi (fun (r : Int32) (_ : Unit) => r = res.1) (bW dC dI (fun (u : Unit) => (wd18 cyI cyJ cyZ q_Tb q_Sk q_Pk1 q_all q_apart q_Sc res.2.1 res.2.2 n_all a_all n_apart a_apart)) A) A) args s 0 0 A) (F0 m 0 ls []) := by
  obtain ⟨hx, hb, hr, hml, hown, hts, hlocks, hG, hA⟩ := id C0
  have hK := hG.1
  intro H locs hP hD hS ls hl
  unfold f_X5_friendAt at h
  refine lv_aload_n hx hb dX5_friendAt_0 rfl (lv_at hl 0 rfl) ?_
  refine va_get (D := (dC, dI)) (ci := 5) (v := .ref q_Tb) (C := RX5) (T := TX5) (N := 3) hx hb hts iw_X5_friendAt_X5 hown hK hP 1 rfl rfl 0 (by decide) (hts (.fieldLink RX5 18 "GoesInto$Seeker" "tables" "LGoesInto$Tables;") (List.mem_of_getElem? (i := 1) rfl)) (fun _ h9 => h9) rfl dX5_friendAt_1 ?_
  refine lv_iconst (v := (0 : Int32)) hx hb dX5_friendAt_4 (by decide) ?_
  refine lv_iload_n hx hb dX5_friendAt_5 rfl (lv_at hl 1 rfl) ?_
  obtain ⟨r1z, hr1z, h⟩ := xb_at h
  have hPc := hP.sub (ws' := (wd15 cyI cyJ cyZ q_Tb q_all q_apart q_Sc n_all a_all n_apart a_apart)) [0, 3, 4] rfl
  have hDc := hD.sub (ws' := (wd15 cyI cyJ cyZ q_Tb q_all q_apart q_Sc n_all a_all n_apart a_apart)) [0, 3, 4] (by decide) rfl
  refine cal_i [0, 3, 4] [1, 2] (va_runV (As := [.int (0 : Int32), .int v1]) (rest := []) ⟨hx, hb, hml, hown, hts⟩ (c_X7_summed l dC dI cyI cyJ cyZ N r1z H.size q_Tb q_all q_apart q_Sc (0 : Int32) v1 n_all a_all n_apart a_apart hr1z) (cwV 2 hts gX5_friendAt_X7_summed rfl rfl rfl ⟨rfl, hd_X7_summed⟩ ⟨Nat.le_of_ble_eq_true rfl, Nat.le_of_ble_eq_true rfl⟩) ⟨pC.blind, va_recv hK hPc (ci := 7) (q0 := 0) rfl rfl, pC.pre hPc hG hDc⟩ rfl rfl hl.1 rfl (lv_room (Nat.le_of_ble_eq_true rfl)) dX5_friendAt_6 ⟨Nat.zero_le _, Nat.zero_le _⟩) hP hD hS hA rfl rfl rfl (by decide) (fun x3z u2z H locs hw hP hD hS => ?_)
  obtain rfl := hw.symm
  have hP : va_P (dC, dI) vwCl (wd18 cyI cyJ cyZ q_Tb q_Sk q_Pk1 q_all q_apart q_Sc pk1_wanted pk1_seen n_all a_all n_apart a_apart) H := hP.sub [2, 0, 1, 3, 4] rfl
  have hD : va_D A (wd18 cyI cyJ cyZ q_Tb q_Sk q_Pk1 q_all q_apart q_Sc pk1_wanted pk1_seen n_all a_all n_apart a_apart) := hD.sub [2, 0, 1, 3, 4] (by decide) rfl
  refine lv_i2l (v := r1z.toInt64) hx hb dX5_friendAt_9 rfl ?_
  refine lv_topl (fun y4z ey4z => ?_)
  have h := xl_at h ey4z
  refine lv_lstore (lv' := [(4, .long y4z), (0, .ref q_Sk), (1, .int v1), (2, .int v2), (3, .int v3)]) hx hb dX5_friendAt_10 hl (by decide) rfl (fun ls hl => ?_)
  refine lv_aload_n hx hb dX5_friendAt_12 rfl (lv_at hl 1 rfl) ?_
  refine va_get (D := (dC, dI)) (ci := 5) (v := .ref q_Pk1) (C := RX5) (T := TX5) (N := 3) hx hb hts iw_X5_friendAt_X5 hown hK hP 1 rfl rfl 2 (by decide) (hts (.fieldLink RX5 12 "GoesInto$Seeker" "pick" "LGoesInto$Pick;") (List.mem_of_getElem? (i := 2) rfl)) (fun _ h9 => h9) rfl dX5_friendAt_13 ?_
  refine lv_iload_n hx hb dX5_friendAt_16 rfl (lv_at hl 4 rfl) ?_
  obtain ⟨r5z, hr5z, h⟩ := xb_at h
  have hPc := hP.sub (ws' := (wd16 cyI cyJ cyZ q_Pk1 pk1_wanted pk1_seen)) [2] rfl
  have hDc := hD.sub (ws' := (wd16 cyI cyJ cyZ q_Pk1 pk1_wanted pk1_seen)) [2] (by decide) rfl
  refine cal_v [2] [0, 1, 3, 4] (va_runV (As := [.int v3]) (rest := []) ⟨hx, hb, hml, hown, hts⟩ (c_X2_begin l dC dI cyI cyJ cyZ N r5z H.size q_Pk1 v3 pk1_wanted pk1_seen hr5z) (cwV 1 hts gX5_friendAt_X2_begin rfl rfl rfl ⟨rfl, hd_X2_begin⟩ ⟨Nat.le_of_ble_eq_true rfl, Nat.le_of_ble_eq_true rfl⟩) ⟨pC.blind, va_recv hK hPc (ci := 2) (q0 := 0) rfl rfl, pC.pre hPc hG hDc⟩ rfl rfl hl.1 rfl (lv_room (Nat.le_of_ble_eq_true rfl)) dX5_friendAt_17 ⟨Nat.zero_le _, Nat.zero_le _⟩) hP hD hS hA rfl rfl rfl (by decide) (fun u6z H locs _ hP hD hS => ?_)
  have hP : va_P (dC, dI) vwCl (wd18 cyI cyJ cyZ q_Tb q_Sk q_Pk1 q_all q_apart q_Sc r5z.1 r5z.2 n_all a_all n_apart a_apart) H := hP.sub [0, 1, 4, 2, 3] rfl
  have hD : va_D A (wd18 cyI cyJ cyZ q_Tb q_Sk q_Pk1 q_all q_apart q_Sc r5z.1 r5z.2 n_all a_all n_apart a_apart) := hD.sub [0, 1, 4, 2, 3] (by decide) rfl
  refine lv_iconst (v := (1 : Int32)) hx hb dX5_friendAt_20 (by decide) ?_
  refine lv_istore (lv' := [(6, .int (1 : Int32)), (4, .long y4z), (0, .ref q_Sk), (1, .int v1), (2, .int v2), (3, .int v3)]) hx hb dX5_friendAt_21 hl (by decide) rfl (fun ls hl => ?_)
  exact k_X5_friendAt_23 C0 N res q_Tb q_Sk q_Pk1 q_all q_apart q_Sc v1 v2 y4z r5z.1 n_all a_all n_apart a_apart N (1 : Int32) r5z.2 h _ _ hP hD hS _ (lv_sub hl [2, 3, 4, 1, 0] rfl)
set_option maxRecDepth 100000 in
set_option maxHeartbeats 4000000 in
theorem c_X5_friendAt (l : Launch) (dC : Nat → ClassId) (dI : Nat → Nat → Nat) (cyI cyJ cyZ : ClassId) (N : Nat) (res : Int32 × Int32 × Int32) (sz : Nat) (q_Tb : Nat) (q_Sk : Nat) (q_Pk1 : Nat) (q_all : Nat) (q_apart : Nat) (q_Sc : Nat) (v1 : Int32) (v2 : Int32) (v3 : Int32) (pk1_wanted : Int32) (pk1_seen : Int32) (n_all : Nat) (a_all : Nat → Int32) (n_apart : Nat) (a_apart : Nat → Int32) (h : f_X5_friendAt N v1 v2 v3 pk1_wanted pk1_seen n_all a_all n_apart a_apart = some res) : Met l yX5_friendAt wsX5_friendAt rm_X5_friendAt (pC dC dI cyI cyJ cyZ [.ref q_Sk, .int v1, .int v2, .int v3] sz (wd18 cyI cyJ cyZ q_Tb q_Sk q_Pk1 q_all q_apart q_Sc pk1_wanted pk1_seen n_all a_all n_apart a_apart)) (va_Qi (fun (r : Int32) (_ : Unit) => r = res.1) (bW dC dI (fun (u : Unit) => (wd18 cyI cyJ cyZ q_Tb q_Sk q_Pk1 q_all q_apart q_Sc res.2.1 res.2.2 n_all a_all n_apart a_apart)) (va_A (wd18 cyI cyJ cyZ q_Tb q_Sk q_Pk1 q_all q_apart q_Sc pk1_wanted pk1_seen n_all a_all n_apart a_apart) sz)) (va_A (wd18 cyI cyJ cyZ q_Tb q_Sk q_Pk1 q_all q_apart q_Sc pk1_wanted pk1_seen n_all a_all n_apart a_apart) sz)) 0 0 (va_A (wd18 cyI cyJ cyZ q_Tb q_Sk q_Pk1 q_all q_apart q_Sc pk1_wanted pk1_seen n_all a_all n_apart a_apart) sz) := by
  refine Met.ofW (cc := cX5_friendAt) (maxL := 8) (ret := (some .int)) (by decide) rfl ?_
  intro p e s m args below meth c s₁ B hml hv
  obtain ⟨rfl, hsz, hP, hG, hD0⟩ := hv
  have hx := B.exec
  have hb := B.bytes
  have hr := B.returns
  have hts := atoms_spec (ws := wsX5_friendAt) B.pre
  have hown : s.vm.findClass RX5 = some m.cls := findClass_of_methodNamed B.named
  have hlocks := B.notSynchronized
  subst hsz
  have hD := hD0.self (sz := s.heap.size)
  generalize hAe : va_A (wd18 cyI cyJ cyZ q_Tb q_Sk q_Pk1 q_all q_apart q_Sc pk1_wanted pk1_seen n_all a_all n_apart a_apart) s.heap.size = A at hD ⊢
  have hA : ∀ q : Nat, s.heap.size ≤ q → A q := fun q h => by rw [← hAe]; exact Or.inr h
  have hS : va_S A s.heap s.heap [] := va_S.rf
  have hl := lv_entry ([.ref q_Sk, .int v1, .int v2, .int v3]) (n := 8) (Nat.le_of_ble_eq_true rfl)
  rw [lg_entry_eq]
  generalize (lg_sl ([.ref q_Sk, .int v1, .int v2, .int v3]) ++ List.replicate (8 - (lg_sl ([.ref q_Sk, .int v1, .int v2, .int v3])).length) Slot.unset).toArray = ls at hl ⊢
  have hl : lv_has ls 8 [(0, .ref q_Sk), (1, .int v1), (2, .int v2), (3, .int v3)] := hl
  exact k_X5_friendAt_0 ⟨hx, hb, hr, hml, hown, hts, hlocks, hG, hA⟩ N res q_Tb q_Sk q_Pk1 q_all q_apart q_Sc v1 v2 v3 pk1_wanted pk1_seen n_all a_all n_apart a_apart  h _ _ hP hD hS _ hl
abbrev rm_X5_firstReaching : Room := { frames := 1, cells := 0, slots := 0, locals := 22 }
theorem hd_X5_firstReaching : yX5_firstReaching.cls ≠ "java/lang/invoke/MethodHandle" ∧ yX5_firstReaching.cls ≠ "java/lang/invoke/VarHandle" ∧ (parseMethodDescriptor yX5_firstReaching.desc).map (fun d => d.parameters.length) = some 3 := by decide +kernel
theorem iw_X5_firstReaching_X7 : ∀ w ∈ wsX70, w ∈ wsX5_firstReaching := List.forall_mem_cons.mpr ⟨List.mem_of_getElem? (i := 12) rfl, List.forall_mem_cons.mpr ⟨List.mem_of_getElem? (i := 13) rfl, List.forall_mem_cons.mpr ⟨List.mem_of_getElem? (i := 14) rfl, fun _ h => absurd h List.not_mem_nil⟩⟩⟩
theorem iw_X5_firstReaching_X5 : ∀ w ∈ wsX50, w ∈ wsX5_firstReaching := List.forall_mem_cons.mpr ⟨List.mem_of_getElem? (i := 9) rfl, List.forall_mem_cons.mpr ⟨List.mem_of_getElem? (i := 10) rfl, List.forall_mem_cons.mpr ⟨List.mem_of_getElem? (i := 11) rfl, fun _ h => absurd h List.not_mem_nil⟩⟩⟩
def s_X5_firstReaching_3 (N : Nat) (v1 : Int32) (v2 : Int32) (v3 : Int32) (n_all : Nat) (a_all : Nat → Int32) (n_apart : Nat) (a_apart : Nat → Int32) (k_3 : (Int32) → Option (Int32)) (v4 : Int32) : Option (Int32) :=
  if v3 < v4 then
    some (-4 : Int32)
  else
    Option.bind (f_X7_summed N (0 : Int32) v4 n_all a_all n_apart a_apart) fun r2z =>
    if (r2z.toInt64 * v2.toInt64) < (v1.toInt64 * v4.toInt64) then
      xl (v4 + (1 : Int32)) fun y6z =>
      k_3 y6z
    else
      some v4
def l_X5_firstReaching_3 (N : Nat) (v1 : Int32) (v2 : Int32) (v3 : Int32) (n_all : Nat) (a_all : Nat → Int32) (n_apart : Nat) (a_apart : Nat → Int32) (n : Nat) (z : Int32) : Option (Int32) := lp (fun k z => s_X5_firstReaching_3 N v1 v2 v3 n_all a_all n_apart a_apart k z) n z
set_option maxRecDepth 100000 in
set_option maxHeartbeats 4000000 in
theorem k_X5_firstReaching_3 {p : Program} {l : Launch} {e : Env} {s : State} {m : MethodId} {args : Array Value} {below : List Frame} {meth : Method} {c : Code} {dC : Nat → ClassId} {dI : Nat → Nat → Nat} {cyI cyJ cyZ : ClassId} {A : Nat → Prop} (C0 : mC p s m meth c args cX5_firstReaching (some .int) 5 RX5 wsX5_firstReaching (gK dC dI cyI cyJ cyZ) A) (N : Nat) (res : Int32) (q_Tb : Nat) (q_Sk : Nat) (q_all : Nat) (q_apart : Nat) (q_Sc : Nat) (q_Pk1 : Nat) (v1 : Int32) (v2 : Int32) (v3 : Int32) (n_all : Nat) (a_all : Nat → Int32) (n_apart : Nat) (a_apart : Nat → Int32) : ∀ (n : Nat) (v4 : Int32), l_X5_firstReaching_3 N v1 v2 v3 n_all a_all n_apart a_apart n v4 = some res → ∀ (H : Heap) (locs : List Loc), va_P (dC, dI) vwCl (wd17 cyI cyJ cyZ q_Tb q_Sk q_all q_apart q_Sc q_Pk1 n_all a_all n_apart a_apart) H → va_D A (wd17 cyI cyJ cyZ q_Tb q_Sk q_all q_apart q_Sc q_Pk1 n_all a_all n_apart a_apart) → va_S A s.heap H locs → ∀ (ls : Array Slot), lv_has ls 5 [(0, .ref q_Sk), (1, .int v1), (2, .int v2), (3, .int v3), (4, .int v4)] → W p l e (headSpec wsX5_firstReaching rm_X5_firstReaching).room s m args below meth c H locs 0 0 (MQ below (va_Qi (fun (r : Int32) (_ : Unit) => r = res) (bW dC dI (fun (u : Unit) => (wd17 cyI cyJ cyZ q_Tb q_Sk q_all q_apart q_Sc q_Pk1 n_all a_all n_apart a_apart)) A) A) args s 0 0 A) (F0 m 3 ls []) := by
  obtain ⟨hx, hb, hr, hml, hown, hts, hlocks, hG, hA⟩ := id C0
  have hK := hG.1
  intro n
  induction n with
  | zero =>
    intro v4 h
    cases h
  | succ n ih =>
    intro v4 h H locs hP hD hS ls hl
    have h : s_X5_firstReaching_3 N v1 v2 v3 n_all a_all n_apart a_apart (l_X5_firstReaching_3 N v1 v2 v3 n_all a_all n_apart a_apart n) v4 = some res := h
    unfold s_X5_firstReaching_3 at h
    refine lv_iload hx hb dX5_firstReaching_3 (lv_at hl 4 rfl) ?_
    refine lv_iload_n hx hb dX5_firstReaching_5 rfl (lv_at hl 3 rfl) ?_
    refine lv_icmp_gt (tgt := 42) hx hb dX5_firstReaching_6 (by decide) (fun c1z => ?_) (fun c1z => ?_)
    · have h := xt h c1z
      refine lv_bipush (v := (-4 : Int32)) hx hb dX5_firstReaching_42 (by decide) ?_
      obtain rfl := Option.some.inj h
      exact W.iret (v := (-4 : Int32)) hx hb hr (fun t ht hW => ⟨⟨_, (), rfl, rfl, by rw [ht]; exact hP, hD⟩, hS.F ht⟩) hS.2.2 dX5_firstReaching_44 hlocks
    · have h := xf h c1z
      refine lv_aload_n hx hb dX5_firstReaching_9 rfl (lv_at hl 0 rfl) ?_
      refine va_get (D := (dC, dI)) (ci := 5) (v := .ref q_Tb) (C := RX5) (T := TX5) (N := 3) hx hb hts iw_X5_firstReaching_X5 hown hK hP 1 rfl rfl 0 (by decide) (hts (.fieldLink RX5 18 "GoesInto$Seeker" "tables" "LGoesInto$Tables;") (List.mem_of_getElem? (i := 1) rfl)) (fun _ h9 => h9) rfl dX5_firstReaching_10 ?_
      refine lv_iconst (v := (0 : Int32)) hx hb dX5_firstReaching_13 (by decide) ?_
      refine lv_iload hx hb dX5_firstReaching_14 (lv_at hl 4 rfl) ?_
      obtain ⟨r2z, hr2z, h⟩ := xb_at h
      have hPc := hP.sub (ws' := (wd15 cyI cyJ cyZ q_Tb q_all q_apart q_Sc n_all a_all n_apart a_apart)) [0, 2, 3] rfl
      have hDc := hD.sub (ws' := (wd15 cyI cyJ cyZ q_Tb q_all q_apart q_Sc n_all a_all n_apart a_apart)) [0, 2, 3] (by decide) rfl
      refine cal_i [0, 2, 3] [1] (va_runV (As := [.int (0 : Int32), .int v4]) (rest := []) ⟨hx, hb, hml, hown, hts⟩ (c_X7_summed l dC dI cyI cyJ cyZ N r2z H.size q_Tb q_all q_apart q_Sc (0 : Int32) v4 n_all a_all n_apart a_apart hr2z) (cwV 2 hts gX5_firstReaching_X7_summed rfl rfl rfl ⟨rfl, hd_X7_summed⟩ ⟨Nat.le_of_ble_eq_true rfl, Nat.le_of_ble_eq_true rfl⟩) ⟨pC.blind, va_recv hK hPc (ci := 7) (q0 := 0) rfl rfl, pC.pre hPc hG hDc⟩ rfl rfl hl.1 rfl (lv_room (Nat.le_of_ble_eq_true rfl)) dX5_firstReaching_16 ⟨Nat.zero_le _, Nat.zero_le _⟩) hP hD hS hA rfl rfl rfl (by decide) (fun x4z u3z H locs hw hP hD hS => ?_)
      obtain rfl := hw.symm
      have hP : va_P (dC, dI) vwCl (wd17 cyI cyJ cyZ q_Tb q_Sk q_all q_apart q_Sc q_Pk1 n_all a_all n_apart a_apart) H := hP.sub [1, 0, 2, 3] rfl
      have hD : va_D A (wd17 cyI cyJ cyZ q_Tb q_Sk q_all q_apart q_Sc q_Pk1 n_all a_all n_apart a_apart) := hD.sub [1, 0, 2, 3] (by decide) rfl
      refine lv_i2l (v := r2z.toInt64) hx hb dX5_firstReaching_19 rfl ?_
      refine lv_iload_n hx hb dX5_firstReaching_20 rfl (lv_at hl 2 rfl) ?_
      refine lv_i2l (v := v2.toInt64) hx hb dX5_firstReaching_21 rfl ?_
      refine lv_lmul hx hb dX5_firstReaching_22 ?_
      refine lv_iload_n hx hb dX5_firstReaching_23 rfl (lv_at hl 1 rfl) ?_
      refine lv_i2l (v := v1.toInt64) hx hb dX5_firstReaching_24 rfl ?_
      refine lv_iload hx hb dX5_firstReaching_25 (lv_at hl 4 rfl) ?_
      refine lv_i2l (v := v4.toInt64) hx hb dX5_firstReaching_27 rfl ?_
      refine lv_lmul hx hb dX5_firstReaching_28 ?_
      refine W.lcmp hx hb dX5_firstReaching_29 ?_
      refine lv_if_lt (tgt := 36) hx hb dX5_firstReaching_30 (by decide) (fun c5z => ?_) (fun c5z => ?_)
      · have c5z := (lg_cmp_lt _ _).mp c5z
        have h := xt h c5z
        obtain ⟨y6z, ey6z⟩ : ∃ z : Int32, z = v4 + (1 : Int32) := ⟨_, rfl⟩
        have h := xl_at h ey6z
        refine lv_iinc (v := y6z) (lv' := [(4, .int y6z), (0, .ref q_Sk), (1, .int v1), (2, .int v2), (3, .int v3)]) hx hb dX5_firstReaching_36 hl (k := 4) rfl (by rw [ey6z]; rfl) (by decide) rfl (fun ls hl => ?_)
        refine lv_goto (tgt := 3) hx hb dX5_firstReaching_39 (by decide) ?_
        exact ih y6z h _ _ hP hD hS _ (lv_sub hl [1, 2, 3, 4, 0] rfl)
      · have c5z := fun z => c5z ((lg_cmp_lt _ _).mpr z)
        have h := xf h c5z
        refine lv_iload hx hb dX5_firstReaching_33 (lv_at hl 4 rfl) ?_
        obtain rfl := Option.some.inj h
        exact W.iret (v := v4) hx hb hr (fun t ht hW => ⟨⟨_, (), rfl, rfl, by rw [ht]; exact hP, hD⟩, hS.F ht⟩) hS.2.2 dX5_firstReaching_35 hlocks
def f_X5_firstReaching (N : Nat) (v1 : Int32) (v2 : Int32) (v3 : Int32) (n_all : Nat) (a_all : Nat → Int32) (n_apart : Nat) (a_apart : Nat → Int32) : Option (Int32) :=
  l_X5_firstReaching_3 N v1 v2 v3 n_all a_all n_apart a_apart N (1 : Int32)
set_option maxRecDepth 100000 in
set_option maxHeartbeats 4000000 in
theorem k_X5_firstReaching_0 {p : Program} {l : Launch} {e : Env} {s : State} {m : MethodId} {args : Array Value} {below : List Frame} {meth : Method} {c : Code} {dC : Nat → ClassId} {dI : Nat → Nat → Nat} {cyI cyJ cyZ : ClassId} {A : Nat → Prop} (C0 : mC p s m meth c args cX5_firstReaching (some .int) 5 RX5 wsX5_firstReaching (gK dC dI cyI cyJ cyZ) A) (N : Nat) (res : Int32) (q_Tb : Nat) (q_Sk : Nat) (q_all : Nat) (q_apart : Nat) (q_Sc : Nat) (q_Pk1 : Nat) (v1 : Int32) (v2 : Int32) (v3 : Int32) (n_all : Nat) (a_all : Nat → Int32) (n_apart : Nat) (a_apart : Nat → Int32) (h : f_X5_firstReaching N v1 v2 v3 n_all a_all n_apart a_apart = some res) : ∀ (H : Heap) (locs : List Loc), va_P (dC, dI) vwCl (wd17 cyI cyJ cyZ q_Tb q_Sk q_all q_apart q_Sc q_Pk1 n_all a_all n_apart a_apart) H → va_D A (wd17 cyI cyJ cyZ q_Tb q_Sk q_all q_apart q_Sc q_Pk1 n_all a_all n_apart a_apart) → va_S A s.heap H locs → ∀ (ls : Array Slot), lv_has ls 5 [(0, .ref q_Sk), (1, .int v1), (2, .int v2), (3, .int v3)] → W p l e (headSpec wsX5_firstReaching rm_X5_firstReaching).room s m args below meth c H locs 0 0 (MQ below (va_Qi (fun (r : Int32) (_ : Unit) => r = res) (bW dC dI (fun (u : Unit) => (wd17 cyI cyJ cyZ q_Tb q_Sk q_all q_apart q_Sc q_Pk1 n_all a_all n_apart a_apart)) A) A) args s 0 0 A) (F0 m 0 ls []) := by
  obtain ⟨hx, hb, hr, hml, hown, hts, hlocks, hG, hA⟩ := id C0
  have hK := hG.1
  intro H locs hP hD hS ls hl
  unfold f_X5_firstReaching at h
  refine lv_iconst (v := (1 : Int32)) hx hb dX5_firstReaching_0 (by decide) ?_
  refine lv_istore (lv' := [(4, .int (1 : Int32)), (0, .ref q_Sk), (1, .int v1), (2, .int v2), (3, .int v3)]) hx hb dX5_firstReaching_1 hl (by decide) rfl (fun ls hl => ?_)
  exact k_X5_firstReaching_3 C0 N res q_Tb q_Sk q_all q_apart q_Sc q_Pk1 v1 v2 v3 n_all a_all n_apart a_apart N (1 : Int32) h _ _ hP hD hS _ (lv_sub hl [1, 2, 3, 4, 0] rfl)
set_option maxRecDepth 100000 in
set_option maxHeartbeats 4000000 in
theorem c_X5_firstReaching (l : Launch) (dC : Nat → ClassId) (dI : Nat → Nat → Nat) (cyI cyJ cyZ : ClassId) (N : Nat) (res : Int32) (sz : Nat) (q_Tb : Nat) (q_Sk : Nat) (q_all : Nat) (q_apart : Nat) (q_Sc : Nat) (q_Pk1 : Nat) (v1 : Int32) (v2 : Int32) (v3 : Int32) (n_all : Nat) (a_all : Nat → Int32) (n_apart : Nat) (a_apart : Nat → Int32) (h : f_X5_firstReaching N v1 v2 v3 n_all a_all n_apart a_apart = some res) : Met l yX5_firstReaching wsX5_firstReaching rm_X5_firstReaching (pC dC dI cyI cyJ cyZ [.ref q_Sk, .int v1, .int v2, .int v3] sz (wd17 cyI cyJ cyZ q_Tb q_Sk q_all q_apart q_Sc q_Pk1 n_all a_all n_apart a_apart)) (va_Qi (fun (r : Int32) (_ : Unit) => r = res) (bW dC dI (fun (u : Unit) => (wd17 cyI cyJ cyZ q_Tb q_Sk q_all q_apart q_Sc q_Pk1 n_all a_all n_apart a_apart)) (va_A (wd17 cyI cyJ cyZ q_Tb q_Sk q_all q_apart q_Sc q_Pk1 n_all a_all n_apart a_apart) sz)) (va_A (wd17 cyI cyJ cyZ q_Tb q_Sk q_all q_apart q_Sc q_Pk1 n_all a_all n_apart a_apart) sz)) 0 0 (va_A (wd17 cyI cyJ cyZ q_Tb q_Sk q_all q_apart q_Sc q_Pk1 n_all a_all n_apart a_apart) sz) := by
  refine Met.ofW (cc := cX5_firstReaching) (maxL := 5) (ret := (some .int)) (by decide) rfl ?_
  intro p e s m args below meth c s₁ B hml hv
  obtain ⟨rfl, hsz, hP, hG, hD0⟩ := hv
  have hx := B.exec
  have hb := B.bytes
  have hr := B.returns
  have hts := atoms_spec (ws := wsX5_firstReaching) B.pre
  have hown : s.vm.findClass RX5 = some m.cls := findClass_of_methodNamed B.named
  have hlocks := B.notSynchronized
  subst hsz
  have hD := hD0.self (sz := s.heap.size)
  generalize hAe : va_A (wd17 cyI cyJ cyZ q_Tb q_Sk q_all q_apart q_Sc q_Pk1 n_all a_all n_apart a_apart) s.heap.size = A at hD ⊢
  have hA : ∀ q : Nat, s.heap.size ≤ q → A q := fun q h => by rw [← hAe]; exact Or.inr h
  have hS : va_S A s.heap s.heap [] := va_S.rf
  have hl := lv_entry ([.ref q_Sk, .int v1, .int v2, .int v3]) (n := 5) (Nat.le_of_ble_eq_true rfl)
  rw [lg_entry_eq]
  generalize (lg_sl ([.ref q_Sk, .int v1, .int v2, .int v3]) ++ List.replicate (5 - (lg_sl ([.ref q_Sk, .int v1, .int v2, .int v3])).length) Slot.unset).toArray = ls at hl ⊢
  have hl : lv_has ls 5 [(0, .ref q_Sk), (1, .int v1), (2, .int v2), (3, .int v3)] := hl
  exact k_X5_firstReaching_0 ⟨hx, hb, hr, hml, hown, hts, hlocks, hG, hA⟩ N res q_Tb q_Sk q_all q_apart q_Sc q_Pk1 v1 v2 v3 n_all a_all n_apart a_apart  h _ _ hP hD hS _ hl
abbrev rm_X5_recordAt : Room := { frames := 1, cells := 0, slots := 0, locals := 22 }
theorem hd_X5_recordAt : yX5_recordAt.cls ≠ "java/lang/invoke/MethodHandle" ∧ yX5_recordAt.cls ≠ "java/lang/invoke/VarHandle" ∧ (parseMethodDescriptor yX5_recordAt.desc).map (fun d => d.parameters.length) = some 3 := by decide +kernel
theorem iw_X5_recordAt_X7 : ∀ w ∈ wsX70, w ∈ wsX5_recordAt := List.forall_mem_cons.mpr ⟨List.mem_of_getElem? (i := 30) rfl, List.forall_mem_cons.mpr ⟨List.mem_of_getElem? (i := 31) rfl, List.forall_mem_cons.mpr ⟨List.mem_of_getElem? (i := 32) rfl, fun _ h => absurd h List.not_mem_nil⟩⟩⟩
theorem iw_X5_recordAt_X5 : ∀ w ∈ wsX50, w ∈ wsX5_recordAt := List.forall_mem_cons.mpr ⟨List.mem_of_getElem? (i := 25) rfl, List.forall_mem_cons.mpr ⟨List.mem_of_getElem? (i := 26) rfl, List.forall_mem_cons.mpr ⟨List.mem_of_getElem? (i := 27) rfl, fun _ h => absurd h List.not_mem_nil⟩⟩⟩
theorem iw_X5_recordAt_X2 : ∀ w ∈ wsX20, w ∈ wsX5_recordAt := List.forall_mem_cons.mpr ⟨List.mem_of_getElem? (i := 28) rfl, List.forall_mem_cons.mpr ⟨List.mem_of_getElem? (i := 29) rfl, fun _ h => absurd h List.not_mem_nil⟩⟩
def j_X5_recordAt_90 (N : Nat) (pk1_wanted : Int32) (pk1_seen : Int32) : Option (Int32 × Int32 × Int32) :=
  Option.bind (f_X2_notFound N  pk1_wanted pk1_seen) fun r5z =>
  some (r5z, pk1_wanted, pk1_seen)
set_option maxRecDepth 100000 in
set_option maxHeartbeats 4000000 in
theorem k_X5_recordAt_90 {p : Program} {l : Launch} {e : Env} {s : State} {m : MethodId} {args : Array Value} {below : List Frame} {meth : Method} {c : Code} {dC : Nat → ClassId} {dI : Nat → Nat → Nat} {cyI cyJ cyZ : ClassId} {A : Nat → Prop} (C0 : mC p s m meth c args cX5_recordAt (some .int) 13 RX5 wsX5_recordAt (gK dC dI cyI cyJ cyZ) A) (N : Nat) (res : Int32 × Int32 × Int32) (q_Tb : Nat) (q_Sk : Nat) (q_Pk1 : Nat) (q_all : Nat) (q_apart : Nat) (q_Sc : Nat) (pk1_wanted : Int32) (pk1_seen : Int32) (n_all : Nat) (a_all : Nat → Int32) (n_apart : Nat) (a_apart : Nat → Int32) (h : j_X5_recordAt_90 N pk1_wanted pk1_seen = some res) : ∀ (H : Heap) (locs : List Loc), va_P (dC, dI) vwCl (wd18 cyI cyJ cyZ q_Tb q_Sk q_Pk1 q_all q_apart q_Sc pk1_wanted pk1_seen n_all a_all n_apart a_apart) H → va_D A (wd18 cyI cyJ cyZ q_Tb q_Sk q_Pk1 q_all q_apart q_Sc pk1_wanted pk1_seen n_all a_all n_apart a_apart) → va_S A s.heap H locs → ∀ (ls : Array Slot), lv_has ls 13 [(0, .ref q_Sk)] → W p l e (headSpec wsX5_recordAt rm_X5_recordAt).room s m args below meth c H locs 0 0 (MQ below (va_Qi (fun (r : Int32) (_ : Unit) => r = res.1) (bW dC dI (fun (u : Unit) => (wd18 cyI cyJ cyZ q_Tb q_Sk q_Pk1 q_all q_apart q_Sc res.2.1 res.2.2 n_all a_all n_apart a_apart)) A) A) args s 0 0 A) (F0 m 90 ls []) := by
  obtain ⟨hx, hb, hr, hml, hown, hts, hlocks, hG, hA⟩ := id C0
  have hK := hG.1
  intro H locs hP hD hS ls hl
  unfold j_X5_recordAt_90 at h
  refine lv_aload_n hx hb dX5_recordAt_90 rfl (lv_at hl 0 rfl) ?_
  refine va_get (D := (dC, dI)) (ci := 5) (v := .ref q_Pk1) (C := RX5) (T := TX5) (N := 3) hx hb hts iw_X5_recordAt_X5 hown hK hP 1 rfl rfl 2 (by decide) (hts (.fieldLink RX5 12 "GoesInto$Seeker" "pick" "LGoesInto$Pick;") (List.mem_of_getElem? (i := 1) rfl)) (fun _ h9 => h9) rfl dX5_recordAt_91 ?_
  obtain ⟨r5z, hr5z, h⟩ := xb_at h
  have hPc := hP.sub (ws' := (wd16 cyI cyJ cyZ q_Pk1 pk1_wanted pk1_seen)) [2] rfl
  have hDc := hD.sub (ws' := (wd16 cyI cyJ cyZ q_Pk1 pk1_wanted pk1_seen)) [2] (by decide) rfl
  refine cal_i [2] [0, 1, 3, 4] (va_runV (As := []) (rest := []) ⟨hx, hb, hml, hown, hts⟩ (c_X2_notFound l dC dI cyI cyJ cyZ N r5z H.size q_Pk1  pk1_wanted pk1_seen hr5z) (cwV 0 hts gX5_recordAt_X2_notFound rfl rfl rfl ⟨rfl, hd_X2_notFound⟩ ⟨Nat.le_of_ble_eq_true rfl, Nat.le_of_ble_eq_true rfl⟩) ⟨pC.blind, va_recv hK hPc (ci := 2) (q0 := 0) rfl rfl, pC.pre hPc hG hDc⟩ rfl rfl hl.1 rfl (lv_room (Nat.le_of_ble_eq_true rfl)) dX5_recordAt_94 ⟨Nat.zero_le _, Nat.zero_le _⟩) hP hD hS hA rfl rfl rfl (by decide) (fun x7z u6z H locs hw hP hD hS => ?_)
  obtain rfl := hw.symm
  have hP : va_P (dC, dI) vwCl (wd18 cyI cyJ cyZ q_Tb q_Sk q_Pk1 q_all q_apart q_Sc pk1_wanted pk1_seen n_all a_all n_apart a_apart) H := hP.sub [0, 1, 4, 2, 3] rfl
  have hD : va_D A (wd18 cyI cyJ cyZ q_Tb q_Sk q_Pk1 q_all q_apart q_Sc pk1_wanted pk1_seen n_all a_all n_apart a_apart) := hD.sub [0, 1, 4, 2, 3] (by decide) rfl
  obtain rfl := Option.some.inj h
  exact W.iret (v := r5z) hx hb hr (fun t ht hW => ⟨⟨_, (), rfl, rfl, by rw [ht]; exact hP, hD⟩, hS.F ht⟩) hS.2.2 dX5_recordAt_97 hlocks
def j_X5_recordAt_47 (N : Nat) (k_17 : (Int64 × Int64 × Int32 × Int32) → Option (Int32 × Int32 × Int32)) (v4 : Int64) (v6 : Int64) (v8 : Int32) (v9 : Int64) (s0 : Int64) (pk1_wanted : Int32) (pk1_seen : Int32) : Option (Int32 × Int32 × Int32) :=
  if (v9 * v6) ≤ (v4 * s0) then
    xl (v8 + (1 : Int32)) fun y14z =>
    k_17 (v4, v6, y14z, pk1_seen)
  else
    Option.bind (f_X2_isNext N  pk1_wanted pk1_seen) fun r15z =>
    if r15z.1 = 0 then
      xl (v8 + (1 : Int32)) fun y19z =>
      k_17 (v9, s0, y19z, r15z.2)
    else
      some (v8, pk1_wanted, r15z.2)
set_option maxRecDepth 100000 in
set_option maxHeartbeats 4000000 in
theorem k_X5_recordAt_47 {p : Program} {l : Launch} {e : Env} {s : State} {m : MethodId} {args : Array Value} {below : List Frame} {meth : Method} {c : Code} {dC : Nat → ClassId} {dI : Nat → Nat → Nat} {cyI cyJ cyZ : ClassId} {A : Nat → Prop} (C0 : mC p s m meth c args cX5_recordAt (some .int) 13 RX5 wsX5_recordAt (gK dC dI cyI cyJ cyZ) A) (N : Nat) (res : Int32 × Int32 × Int32) (q_Tb : Nat) (q_Sk : Nat) (q_Pk1 : Nat) (q_all : Nat) (q_apart : Nat) (q_Sc : Nat) (v1 : Int32) (v2 : Int32) (v9 : Int64) (s0 : Int64) (pk1_wanted : Int32) (n_all : Nat) (a_all : Nat → Int32) (n_apart : Nat) (a_apart : Nat → Int32) (k_17 : (Int64 × Int64 × Int32 × Int32) → Option (Int32 × Int32 × Int32)) (hk_17 : ∀ (v4 : Int64) (v6 : Int64) (v8 : Int32) (pk1_seen : Int32), k_17 (v4, v6, v8, pk1_seen) = some res → ∀ (H : Heap) (locs : List Loc), va_P (dC, dI) vwCl (wd18 cyI cyJ cyZ q_Tb q_Sk q_Pk1 q_all q_apart q_Sc pk1_wanted pk1_seen n_all a_all n_apart a_apart) H → va_D A (wd18 cyI cyJ cyZ q_Tb q_Sk q_Pk1 q_all q_apart q_Sc pk1_wanted pk1_seen n_all a_all n_apart a_apart) → va_S A s.heap H locs → ∀ (ls : Array Slot), lv_has ls 13 [(0, .ref q_Sk), (1, .int v1), (2, .int v2), (4, .long v4), (6, .long v6), (8, .int v8)] → W p l e (headSpec wsX5_recordAt rm_X5_recordAt).room s m args below meth c H locs 0 0 (MQ below (va_Qi (fun (r : Int32) (_ : Unit) => r = res.1) (bW dC dI (fun (u : Unit) => (wd18 cyI cyJ cyZ q_Tb q_Sk q_Pk1 q_all q_apart q_Sc res.2.1 res.2.2 n_all a_all n_apart a_apart)) A) A) args s 0 0 A) (F0 m 17 ls [])) (v4 : Int64) (v6 : Int64) (v8 : Int32) (pk1_seen : Int32) (h : j_X5_recordAt_47 N k_17 v4 v6 v8 v9 s0 pk1_wanted pk1_seen = some res) : ∀ (H : Heap) (locs : List Loc), va_P (dC, dI) vwCl (wd18 cyI cyJ cyZ q_Tb q_Sk q_Pk1 q_all q_apart q_Sc pk1_wanted pk1_seen n_all a_all n_apart a_apart) H → va_D A (wd18 cyI cyJ cyZ q_Tb q_Sk q_Pk1 q_all q_apart q_Sc pk1_wanted pk1_seen n_all a_all n_apart a_apart) → va_S A s.heap H locs → ∀ (ls : Array Slot), lv_has ls 13 [(0, .ref q_Sk), (1, .int v1), (2, .int v2), (4, .long v4), (6, .long v6), (8, .int v8), (9, .long v9)] → W p l e (headSpec wsX5_recordAt rm_X5_recordAt).room s m args below meth c H locs 0 0 (MQ below (va_Qi (fun (r : Int32) (_ : Unit) => r = res.1) (bW dC dI (fun (u : Unit) => (wd18 cyI cyJ cyZ q_Tb q_Sk q_Pk1 q_all q_apart q_Sc res.2.1 res.2.2 n_all a_all n_apart a_apart)) A) A) args s 0 0 A) (F0 m 47 ls [.long s0]) := by
  obtain ⟨hx, hb, hr, hml, hown, hts, hlocks, hG, hA⟩ := id C0
  have hK := hG.1
  intro H locs hP hD hS ls hl
  unfold j_X5_recordAt_47 at h
  refine lv_lstore (lv' := [(11, .long s0), (0, .ref q_Sk), (1, .int v1), (2, .int v2), (4, .long v4), (6, .long v6), (8, .int v8), (9, .long v9)]) hx hb dX5_recordAt_47 hl (by decide) rfl (fun ls hl => ?_)
  refine lv_lload hx hb dX5_recordAt_49 (lv_at hl 7 rfl) ?_
  refine lv_lload hx hb dX5_recordAt_51 (lv_at hl 5 rfl) ?_
  refine lv_lmul hx hb dX5_recordAt_53 ?_
  refine lv_lload hx hb dX5_recordAt_54 (lv_at hl 4 rfl) ?_
  refine lv_lload hx hb dX5_recordAt_56 (lv_at hl 0 rfl) ?_
  refine lv_lmul hx hb dX5_recordAt_58 ?_
  refine W.lcmp hx hb dX5_recordAt_59 ?_
  refine lv_if_le (tgt := 84) hx hb dX5_recordAt_60 (by decide) (fun c13z => ?_) (fun c13z => ?_)
  · have c13z := (lg_cmp_le _ _).mp c13z
    have h := xt h c13z
    obtain ⟨y14z, ey14z⟩ : ∃ z : Int32, z = v8 + (1 : Int32) := ⟨_, rfl⟩
    have h := xl_at h ey14z
    refine lv_iinc (v := y14z) (lv' := [(8, .int y14z), (11, .long s0), (0, .ref q_Sk), (1, .int v1), (2, .int v2), (4, .long v4), (6, .long v6), (9, .long v9)]) hx hb dX5_recordAt_84 hl (k := 6) rfl (by rw [ey14z]; rfl) (by decide) rfl (fun ls hl => ?_)
    refine lv_goto (tgt := 17) hx hb dX5_recordAt_87 (by decide) ?_
    exact hk_17 v4 v6 y14z pk1_seen h _ _ hP hD hS _ (lv_sub hl [2, 3, 4, 5, 6, 0] rfl)
  · have c13z := fun z => c13z ((lg_cmp_le _ _).mpr z)
    have h := xf h c13z
    refine lv_aload_n hx hb dX5_recordAt_63 rfl (lv_at hl 1 rfl) ?_
    refine va_get (D := (dC, dI)) (ci := 5) (v := .ref q_Pk1) (C := RX5) (T := TX5) (N := 3) hx hb hts iw_X5_recordAt_X5 hown hK hP 1 rfl rfl 2 (by decide) (hts (.fieldLink RX5 12 "GoesInto$Seeker" "pick" "LGoesInto$Pick;") (List.mem_of_getElem? (i := 1) rfl)) (fun _ h9 => h9) rfl dX5_recordAt_64 ?_
    obtain ⟨r15z, hr15z, h⟩ := xb_at h
    have hPc := hP.sub (ws' := (wd16 cyI cyJ cyZ q_Pk1 pk1_wanted pk1_seen)) [2] rfl
    have hDc := hD.sub (ws' := (wd16 cyI cyJ cyZ q_Pk1 pk1_wanted pk1_seen)) [2] (by decide) rfl
    refine cal_i [2] [0, 1, 3, 4] (va_runV (As := []) (rest := []) ⟨hx, hb, hml, hown, hts⟩ (c_X2_isNext l dC dI cyI cyJ cyZ N r15z H.size q_Pk1  pk1_wanted pk1_seen hr15z) (cwV 0 hts gX5_recordAt_X2_isNext rfl rfl rfl ⟨rfl, hd_X2_isNext⟩ ⟨Nat.le_of_ble_eq_true rfl, Nat.le_of_ble_eq_true rfl⟩) ⟨pC.blind, va_recv hK hPc (ci := 2) (q0 := 0) rfl rfl, pC.pre hPc hG hDc⟩ rfl rfl hl.1 rfl (lv_room (Nat.le_of_ble_eq_true rfl)) dX5_recordAt_67 ⟨Nat.zero_le _, Nat.zero_le _⟩) hP hD hS hA rfl rfl rfl (by decide) (fun x17z u16z H locs hw hP hD hS => ?_)
    obtain rfl := hw.symm
    have hP : va_P (dC, dI) vwCl (wd18 cyI cyJ cyZ q_Tb q_Sk q_Pk1 q_all q_apart q_Sc pk1_wanted r15z.2 n_all a_all n_apart a_apart) H := hP.sub [0, 1, 4, 2, 3] rfl
    have hD : va_D A (wd18 cyI cyJ cyZ q_Tb q_Sk q_Pk1 q_all q_apart q_Sc pk1_wanted r15z.2 n_all a_all n_apart a_apart) := hD.sub [0, 1, 4, 2, 3] (by decide) rfl
    refine lv_if_eq (tgt := 76) hx hb dX5_recordAt_70 (by decide) (fun c18z => ?_) (fun c18z => ?_)
    · have h := xt h c18z
      refine lv_lload hx hb dX5_recordAt_76 (lv_at hl 7 rfl) ?_
      refine lv_lstore (lv' := [(4, .long v9), (11, .long s0), (0, .ref q_Sk), (1, .int v1), (2, .int v2), (6, .long v6), (8, .int v8), (9, .long v9)]) hx hb dX5_recordAt_78 hl (by decide) rfl (fun ls hl => ?_)
      refine lv_lload hx hb dX5_recordAt_80 (lv_at hl 1 rfl) ?_
      refine lv_lstore (lv' := [(6, .long s0), (4, .long v9), (11, .long s0), (0, .ref q_Sk), (1, .int v1), (2, .int v2), (8, .int v8), (9, .long v9)]) hx hb dX5_recordAt_82 hl (by decide) rfl (fun ls hl => ?_)
      obtain ⟨y19z, ey19z⟩ : ∃ z : Int32, z = v8 + (1 : Int32) := ⟨_, rfl⟩
      have h := xl_at h ey19z
      refine lv_iinc (v := y19z) (lv' := [(8, .int y19z), (6, .long s0), (4, .long v9), (11, .long s0), (0, .ref q_Sk), (1, .int v1), (2, .int v2), (9, .long v9)]) hx hb dX5_recordAt_84 hl (k := 6) rfl (by rw [ey19z]; rfl) (by decide) rfl (fun ls hl => ?_)
      refine lv_goto (tgt := 17) hx hb dX5_recordAt_87 (by decide) ?_
      exact hk_17 v9 s0 y19z r15z.2 h _ _ hP hD hS _ (lv_sub hl [4, 5, 6, 2, 1, 0] rfl)
    · have h := xf h c18z
      refine lv_iload hx hb dX5_recordAt_73 (lv_at hl 6 rfl) ?_
      obtain rfl := Option.some.inj h
      exact W.iret (v := v8) hx hb hr (fun t ht hW => ⟨⟨_, (), rfl, rfl, by rw [ht]; exact hP, hD⟩, hS.F ht⟩) hS.2.2 dX5_recordAt_75 hlocks
def s_X5_recordAt_17 (N : Nat) (v1 : Int32) (v2 : Int32) (pk1_wanted : Int32) (n_all : Nat) (a_all : Nat → Int32) (n_apart : Nat) (a_apart : Nat → Int32) (k_17 : (Int64 × Int64 × Int32 × Int32) → Option (Int32 × Int32 × Int32)) (v4 : Int64) (v6 : Int64) (v8 : Int32) (pk1_seen : Int32) : Option (Int32 × Int32 × Int32) :=
  if v2 < v8 then
    j_X5_recordAt_90 N pk1_wanted pk1_seen
  else
    Option.bind (f_X7_summed N (0 : Int32) v8 n_all a_all n_apart a_apart) fun r8z =>
    xl (r8z.toInt64) fun y11z =>
    if v1 = 0 then
      j_X5_recordAt_47 N k_17 v4 v6 v8 y11z (1 : Int64) pk1_wanted pk1_seen
    else
      j_X5_recordAt_47 N k_17 v4 v6 v8 y11z v8.toInt64 pk1_wanted pk1_seen
def l_X5_recordAt_17 (N : Nat) (v1 : Int32) (v2 : Int32) (pk1_wanted : Int32) (n_all : Nat) (a_all : Nat → Int32) (n_apart : Nat) (a_apart : Nat → Int32) (n : Nat) (z : Int64 × Int64 × Int32 × Int32) : Option (Int32 × Int32 × Int32) := lp (fun k z => s_X5_recordAt_17 N v1 v2 pk1_wanted n_all a_all n_apart a_apart k z.1 z.2.1 z.2.2.1 z.2.2.2) n z
set_option maxRecDepth 100000 in
set_option maxHeartbeats 4000000 in
theorem k_X5_recordAt_17 {p : Program} {l : Launch} {e : Env} {s : State} {m : MethodId} {args : Array Value} {below : List Frame} {meth : Method} {c : Code} {dC : Nat → ClassId} {dI : Nat → Nat → Nat} {cyI cyJ cyZ : ClassId} {A : Nat → Prop} (C0 : mC p s m meth c args cX5_recordAt (some .int) 13 RX5 wsX5_recordAt (gK dC dI cyI cyJ cyZ) A) (N : Nat) (res : Int32 × Int32 × Int32) (q_Tb : Nat) (q_Sk : Nat) (q_Pk1 : Nat) (q_all : Nat) (q_apart : Nat) (q_Sc : Nat) (v1 : Int32) (v2 : Int32) (pk1_wanted : Int32) (n_all : Nat) (a_all : Nat → Int32) (n_apart : Nat) (a_apart : Nat → Int32) : ∀ (n : Nat) (v4 : Int64) (v6 : Int64) (v8 : Int32) (pk1_seen : Int32), l_X5_recordAt_17 N v1 v2 pk1_wanted n_all a_all n_apart a_apart n (v4, v6, v8, pk1_seen) = some res → ∀ (H : Heap) (locs : List Loc), va_P (dC, dI) vwCl (wd18 cyI cyJ cyZ q_Tb q_Sk q_Pk1 q_all q_apart q_Sc pk1_wanted pk1_seen n_all a_all n_apart a_apart) H → va_D A (wd18 cyI cyJ cyZ q_Tb q_Sk q_Pk1 q_all q_apart q_Sc pk1_wanted pk1_seen n_all a_all n_apart a_apart) → va_S A s.heap H locs → ∀ (ls : Array Slot), lv_has ls 13 [(0, .ref q_Sk), (1, .int v1), (2, .int v2), (4, .long v4), (6, .long v6), (8, .int v8)] → W p l e (headSpec wsX5_recordAt rm_X5_recordAt).room s m args below meth c H locs 0 0 (MQ below (va_Qi (fun (r : Int32) (_ : Unit) => r = res.1) (bW dC dI (fun (u : Unit) => (wd18 cyI cyJ cyZ q_Tb q_Sk q_Pk1 q_all q_apart q_Sc res.2.1 res.2.2 n_all a_all n_apart a_apart)) A) A) args s 0 0 A) (F0 m 17 ls []) := by
  obtain ⟨hx, hb, hr, hml, hown, hts, hlocks, hG, hA⟩ := id C0
  have hK := hG.1
  intro n
  induction n with
  | zero =>
    intro v4 v6 v8 pk1_seen h
    cases h
  | succ n ih =>
    intro v4 v6 v8 pk1_seen h H locs hP hD hS ls hl
    have h : s_X5_recordAt_17 N v1 v2 pk1_wanted n_all a_all n_apart a_apart (l_X5_recordAt_17 N v1 v2 pk1_wanted n_all a_all n_apart a_apart n) v4 v6 v8 pk1_seen = some res := h
    unfold s_X5_recordAt_17 at h
    refine lv_iload hx hb dX5_recordAt_17 (lv_at hl 5 rfl) ?_
    refine lv_iload_n hx hb dX5_recordAt_19 rfl (lv_at hl 2 rfl) ?_
    refine lv_icmp_gt (tgt := 90) hx hb dX5_recordAt_20 (by decide) (fun c4z => ?_) (fun c4z => ?_)
    · have h := xt h c4z
      exact k_X5_recordAt_90 C0 N res q_Tb q_Sk q_Pk1 q_all q_apart q_Sc pk1_wanted pk1_seen n_all a_all n_apart a_apart  h _ _ hP hD hS _ (lv_sub hl [0] rfl)
    · have h := xf h c4z
      refine lv_aload_n hx hb dX5_recordAt_23 rfl (lv_at hl 0 rfl) ?_
      refine va_get (D := (dC, dI)) (ci := 5) (v := .ref q_Tb) (C := RX5) (T := TX5) (N := 3) hx hb hts iw_X5_recordAt_X5 hown hK hP 1 rfl rfl 0 (by decide) (hts (.fieldLink RX5 18 "GoesInto$Seeker" "tables" "LGoesInto$Tables;") (List.mem_of_getElem? (i := 2) rfl)) (fun _ h9 => h9) rfl dX5_recordAt_24 ?_
      refine lv_iconst (v := (0 : Int32)) hx hb dX5_recordAt_27 (by decide) ?_
      refine lv_iload hx hb dX5_recordAt_28 (lv_at hl 5 rfl) ?_
      obtain ⟨r8z, hr8z, h⟩ := xb_at h
      have hPc := hP.sub (ws' := (wd15 cyI cyJ cyZ q_Tb q_all q_apart q_Sc n_all a_all n_apart a_apart)) [0, 3, 4] rfl
      have hDc := hD.sub (ws' := (wd15 cyI cyJ cyZ q_Tb q_all q_apart q_Sc n_all a_all n_apart a_apart)) [0, 3, 4] (by decide) rfl
      refine cal_i [0, 3, 4] [1, 2] (va_runV (As := [.int (0 : Int32), .int v8]) (rest := []) ⟨hx, hb, hml, hown, hts⟩ (c_X7_summed l dC dI cyI cyJ cyZ N r8z H.size q_Tb q_all q_apart q_Sc (0 : Int32) v8 n_all a_all n_apart a_apart hr8z) (cwV 2 hts gX5_recordAt_X7_summed rfl rfl rfl ⟨rfl, hd_X7_summed⟩ ⟨Nat.le_of_ble_eq_true rfl, Nat.le_of_ble_eq_true rfl⟩) ⟨pC.blind, va_recv hK hPc (ci := 7) (q0 := 0) rfl rfl, pC.pre hPc hG hDc⟩ rfl rfl hl.1 rfl (lv_room (Nat.le_of_ble_eq_true rfl)) dX5_recordAt_30 ⟨Nat.zero_le _, Nat.zero_le _⟩) hP hD hS hA rfl rfl rfl (by decide) (fun x10z u9z H locs hw hP hD hS => ?_)
      obtain rfl := hw.symm
      have hP : va_P (dC, dI) vwCl (wd18 cyI cyJ cyZ q_Tb q_Sk q_Pk1 q_all q_apart q_Sc pk1_wanted pk1_seen n_all a_all n_apart a_apart) H := hP.sub [2, 0, 1, 3, 4] rfl
      have hD : va_D A (wd18 cyI cyJ cyZ q_Tb q_Sk q_Pk1 q_all q_apart q_Sc pk1_wanted pk1_seen n_all a_all n_apart a_apart) := hD.sub [2, 0, 1, 3, 4] (by decide) rfl
      refine lv_i2l (v := r8z.toInt64) hx hb dX5_recordAt_33 rfl ?_
      refine lv_topl (fun y11z ey11z => ?_)
      have h := xl_at h ey11z
      refine lv_lstore (lv' := [(9, .long y11z), (0, .ref q_Sk), (1, .int v1), (2, .int v2), (4, .long v4), (6, .long v6), (8, .int v8)]) hx hb dX5_recordAt_34 hl (by decide) rfl (fun ls hl => ?_)
      refine lv_iload_n hx hb dX5_recordAt_36 rfl (lv_at hl 2 rfl) ?_
      refine lv_if_ne (tgt := 44) hx hb dX5_recordAt_37 (by decide) (fun c12z => ?_) (fun c12z => ?_)
      · have h := xf h c12z
        refine lv_iload hx hb dX5_recordAt_44 (lv_at hl 6 rfl) ?_
        refine lv_i2l (v := v8.toInt64) hx hb dX5_recordAt_46 rfl ?_
        exact k_X5_recordAt_47 C0 N res q_Tb q_Sk q_Pk1 q_all q_apart q_Sc v1 v2 y11z v8.toInt64 pk1_wanted n_all a_all n_apart a_apart _ ih v4 v6 v8 pk1_seen  h _ _ hP hD hS _ (lv_sub hl [1, 2, 3, 4, 5, 6, 0] rfl)
      · have h := xt h c12z
        refine lv_lconst (v := (1 : Int64)) hx hb dX5_recordAt_40 (by decide) ?_
        refine lv_goto (tgt := 47) hx hb dX5_recordAt_41 (by decide) ?_
        exact k_X5_recordAt_47 C0 N res q_Tb q_Sk q_Pk1 q_all q_apart q_Sc v1 v2 y11z (1 : Int64) pk1_wanted n_all a_all n_apart a_apart _ ih v4 v6 v8 pk1_seen  h _ _ hP hD hS _ (lv_sub hl [1, 2, 3, 4, 5, 6, 0] rfl)
def f_X5_recordAt (N : Nat) (v1 : Int32) (v2 : Int32) (v3 : Int32) (pk1_wanted : Int32) (pk1_seen : Int32) (n_all : Nat) (a_all : Nat → Int32) (n_apart : Nat) (a_apart : Nat → Int32) : Option (Int32 × Int32 × Int32) :=
  Option.bind (f_X2_begin N v3 pk1_wanted pk1_seen) fun r1z =>
  l_X5_recordAt_17 N v1 v2 r1z.1 n_all a_all n_apart a_apart N ((0 : Int64), (1 : Int64), (1 : Int32), r1z.2)
set_option maxRecDepth 100000 in
set_option maxHeartbeats 4000000 in
theorem k_X5_recordAt_0 {p : Program} {l : Launch} {e : Env} {s : State} {m : MethodId} {args : Array Value} {below : List Frame} {meth : Method} {c : Code} {dC : Nat → ClassId} {dI : Nat → Nat → Nat} {cyI cyJ cyZ : ClassId} {A : Nat → Prop} (C0 : mC p s m meth c args cX5_recordAt (some .int) 13 RX5 wsX5_recordAt (gK dC dI cyI cyJ cyZ) A) (N : Nat) (res : Int32 × Int32 × Int32) (q_Tb : Nat) (q_Sk : Nat) (q_Pk1 : Nat) (q_all : Nat) (q_apart : Nat) (q_Sc : Nat) (v1 : Int32) (v2 : Int32) (v3 : Int32) (pk1_wanted : Int32) (pk1_seen : Int32) (n_all : Nat) (a_all : Nat → Int32) (n_apart : Nat) (a_apart : Nat → Int32) (h : f_X5_recordAt N v1 v2 v3 pk1_wanted pk1_seen n_all a_all n_apart a_apart = some res) : ∀ (H : Heap) (locs : List Loc), va_P (dC, dI) vwCl (wd18 cyI cyJ cyZ q_Tb q_Sk q_Pk1 q_all q_apart q_Sc pk1_wanted pk1_seen n_all a_all n_apart a_apart) H → va_D A (wd18 cyI cyJ cyZ q_Tb q_Sk q_Pk1 q_all q_apart q_Sc pk1_wanted pk1_seen n_all a_all n_apart a_apart) → va_S A s.heap H locs → ∀ (ls : Array Slot), lv_has ls 13 [(0, .ref q_Sk), (1, .int v1), (2, .int v2), (3, .int v3)] → W p l e (headSpec wsX5_recordAt rm_X5_recordAt).room s m args below meth c H locs 0 0 (MQ below (va_Qi (fun (r : Int32) (_ : Unit) => r = res.1) (bW dC dI (fun (u : Unit) => (wd18 cyI cyJ cyZ q_Tb q_Sk q_Pk1 q_all q_apart q_Sc res.2.1 res.2.2 n_all a_all n_apart a_apart)) A) A) args s 0 0 A) (F0 m 0 ls []) := by
  obtain ⟨hx, hb, hr, hml, hown, hts, hlocks, hG, hA⟩ := id C0
  have hK := hG.1
  intro H locs hP hD hS ls hl
  unfold f_X5_recordAt at h
  refine lv_lconst (v := (0 : Int64)) hx hb dX5_recordAt_0 (by decide) ?_
  refine lv_lstore (lv' := [(4, .long (0 : Int64)), (0, .ref q_Sk), (1, .int v1), (2, .int v2), (3, .int v3)]) hx hb dX5_recordAt_1 hl (by decide) rfl (fun ls hl => ?_)
  refine lv_lconst (v := (1 : Int64)) hx hb dX5_recordAt_3 (by decide) ?_
  refine lv_lstore (lv' := [(6, .long (1 : Int64)), (4, .long (0 : Int64)), (0, .ref q_Sk), (1, .int v1), (2, .int v2), (3, .int v3)]) hx hb dX5_recordAt_4 hl (by decide) rfl (fun ls hl => ?_)
  refine lv_aload_n hx hb dX5_recordAt_6 rfl (lv_at hl 2 rfl) ?_
  refine va_get (D := (dC, dI)) (ci := 5) (v := .ref q_Pk1) (C := RX5) (T := TX5) (N := 3) hx hb hts iw_X5_recordAt_X5 hown hK hP 1 rfl rfl 2 (by decide) (hts (.fieldLink RX5 12 "GoesInto$Seeker" "pick" "LGoesInto$Pick;") (List.mem_of_getElem? (i := 1) rfl)) (fun _ h9 => h9) rfl dX5_recordAt_7 ?_
  refine lv_iload_n hx hb dX5_recordAt_10 rfl (lv_at hl 5 rfl) ?_
  obtain ⟨r1z, hr1z, h⟩ := xb_at h
  have hPc := hP.sub (ws' := (wd16 cyI cyJ cyZ q_Pk1 pk1_wanted pk1_seen)) [2] rfl
  have hDc := hD.sub (ws' := (wd16 cyI cyJ cyZ q_Pk1 pk1_wanted pk1_seen)) [2] (by decide) rfl
  refine cal_v [2] [0, 1, 3, 4] (va_runV (As := [.int v3]) (rest := []) ⟨hx, hb, hml, hown, hts⟩ (c_X2_begin l dC dI cyI cyJ cyZ N r1z H.size q_Pk1 v3 pk1_wanted pk1_seen hr1z) (cwV 1 hts gX5_recordAt_X2_begin rfl rfl rfl ⟨rfl, hd_X2_begin⟩ ⟨Nat.le_of_ble_eq_true rfl, Nat.le_of_ble_eq_true rfl⟩) ⟨pC.blind, va_recv hK hPc (ci := 2) (q0 := 0) rfl rfl, pC.pre hPc hG hDc⟩ rfl rfl hl.1 rfl (lv_room (Nat.le_of_ble_eq_true rfl)) dX5_recordAt_11 ⟨Nat.zero_le _, Nat.zero_le _⟩) hP hD hS hA rfl rfl rfl (by decide) (fun u2z H locs _ hP hD hS => ?_)
  have hP : va_P (dC, dI) vwCl (wd18 cyI cyJ cyZ q_Tb q_Sk q_Pk1 q_all q_apart q_Sc r1z.1 r1z.2 n_all a_all n_apart a_apart) H := hP.sub [0, 1, 4, 2, 3] rfl
  have hD : va_D A (wd18 cyI cyJ cyZ q_Tb q_Sk q_Pk1 q_all q_apart q_Sc r1z.1 r1z.2 n_all a_all n_apart a_apart) := hD.sub [0, 1, 4, 2, 3] (by decide) rfl
  refine lv_iconst (v := (1 : Int32)) hx hb dX5_recordAt_14 (by decide) ?_
  refine lv_istore (lv' := [(8, .int (1 : Int32)), (6, .long (1 : Int64)), (4, .long (0 : Int64)), (0, .ref q_Sk), (1, .int v1), (2, .int v2), (3, .int v3)]) hx hb dX5_recordAt_15 hl (by decide) rfl (fun ls hl => ?_)
  exact k_X5_recordAt_17 C0 N res q_Tb q_Sk q_Pk1 q_all q_apart q_Sc v1 v2 r1z.1 n_all a_all n_apart a_apart N (0 : Int64) (1 : Int64) (1 : Int32) r1z.2 h _ _ hP hD hS _ (lv_sub hl [3, 4, 5, 2, 1, 0] rfl)
set_option maxRecDepth 100000 in
set_option maxHeartbeats 4000000 in
theorem c_X5_recordAt (l : Launch) (dC : Nat → ClassId) (dI : Nat → Nat → Nat) (cyI cyJ cyZ : ClassId) (N : Nat) (res : Int32 × Int32 × Int32) (sz : Nat) (q_Tb : Nat) (q_Sk : Nat) (q_Pk1 : Nat) (q_all : Nat) (q_apart : Nat) (q_Sc : Nat) (v1 : Int32) (v2 : Int32) (v3 : Int32) (pk1_wanted : Int32) (pk1_seen : Int32) (n_all : Nat) (a_all : Nat → Int32) (n_apart : Nat) (a_apart : Nat → Int32) (h : f_X5_recordAt N v1 v2 v3 pk1_wanted pk1_seen n_all a_all n_apart a_apart = some res) : Met l yX5_recordAt wsX5_recordAt rm_X5_recordAt (pC dC dI cyI cyJ cyZ [.ref q_Sk, .int v1, .int v2, .int v3] sz (wd18 cyI cyJ cyZ q_Tb q_Sk q_Pk1 q_all q_apart q_Sc pk1_wanted pk1_seen n_all a_all n_apart a_apart)) (va_Qi (fun (r : Int32) (_ : Unit) => r = res.1) (bW dC dI (fun (u : Unit) => (wd18 cyI cyJ cyZ q_Tb q_Sk q_Pk1 q_all q_apart q_Sc res.2.1 res.2.2 n_all a_all n_apart a_apart)) (va_A (wd18 cyI cyJ cyZ q_Tb q_Sk q_Pk1 q_all q_apart q_Sc pk1_wanted pk1_seen n_all a_all n_apart a_apart) sz)) (va_A (wd18 cyI cyJ cyZ q_Tb q_Sk q_Pk1 q_all q_apart q_Sc pk1_wanted pk1_seen n_all a_all n_apart a_apart) sz)) 0 0 (va_A (wd18 cyI cyJ cyZ q_Tb q_Sk q_Pk1 q_all q_apart q_Sc pk1_wanted pk1_seen n_all a_all n_apart a_apart) sz) := by
  refine Met.ofW (cc := cX5_recordAt) (maxL := 13) (ret := (some .int)) (by decide) rfl ?_
  intro p e s m args below meth c s₁ B hml hv
  obtain ⟨rfl, hsz, hP, hG, hD0⟩ := hv
  have hx := B.exec
  have hb := B.bytes
  have hr := B.returns
  have hts := atoms_spec (ws := wsX5_recordAt) B.pre
  have hown : s.vm.findClass RX5 = some m.cls := findClass_of_methodNamed B.named
  have hlocks := B.notSynchronized
  subst hsz
  have hD := hD0.self (sz := s.heap.size)
  generalize hAe : va_A (wd18 cyI cyJ cyZ q_Tb q_Sk q_Pk1 q_all q_apart q_Sc pk1_wanted pk1_seen n_all a_all n_apart a_apart) s.heap.size = A at hD ⊢
  have hA : ∀ q : Nat, s.heap.size ≤ q → A q := fun q h => by rw [← hAe]; exact Or.inr h
  have hS : va_S A s.heap s.heap [] := va_S.rf
  have hl := lv_entry ([.ref q_Sk, .int v1, .int v2, .int v3]) (n := 13) (Nat.le_of_ble_eq_true rfl)
  rw [lg_entry_eq]
  generalize (lg_sl ([.ref q_Sk, .int v1, .int v2, .int v3]) ++ List.replicate (13 - (lg_sl ([.ref q_Sk, .int v1, .int v2, .int v3])).length) Slot.unset).toArray = ls at hl ⊢
  have hl : lv_has ls 13 [(0, .ref q_Sk), (1, .int v1), (2, .int v2), (3, .int v3)] := hl
  exact k_X5_recordAt_0 ⟨hx, hb, hr, hml, hown, hts, hlocks, hG, hA⟩ N res q_Tb q_Sk q_Pk1 q_all q_apart q_Sc v1 v2 v3 pk1_wanted pk1_seen n_all a_all n_apart a_apart  h _ _ hP hD hS _ hl
abbrev rm_X5_isOpen : Room := { frames := 0, cells := 0, slots := 0, locals := 0 }
theorem hd_X5_isOpen : yX5_isOpen.cls ≠ "java/lang/invoke/MethodHandle" ∧ yX5_isOpen.cls ≠ "java/lang/invoke/VarHandle" ∧ (parseMethodDescriptor yX5_isOpen.desc).map (fun d => d.parameters.length) = some 3 := by decide +kernel
def f_X5_isOpen (N : Nat) (v0 : Int32) (v1 : Int32) (n_PaI : Nat) (a_PaI : Nat → Int32) : Option (Int32) :=
  if v0 < (1 : Int32) then
    some (0 : Int32)
  else
    if v1 < v0 then
      some (0 : Int32)
    else
      if (nI n_PaI) ≤ v0 then
        some (0 : Int32)
      else
        if v0 < 0 ∨ n_PaI ≤ v0.toNatClampNeg then
          none
        else
          if (a_PaI v0.toNatClampNeg) = 0 then
            some (1 : Int32)
          else
            some (0 : Int32)
set_option maxRecDepth 100000 in
set_option maxHeartbeats 4000000 in
theorem k_X5_isOpen_0 {p : Program} {l : Launch} {e : Env} {s : State} {m : MethodId} {args : Array Value} {below : List Frame} {meth : Method} {c : Code} {dC : Nat → ClassId} {dI : Nat → Nat → Nat} {cyI cyJ cyZ : ClassId} {A : Nat → Prop} (C0 : mC p s m meth c args cX5_isOpen (some .boolean) 3 RX5 wsX5_isOpen (gK dC dI cyI cyJ cyZ) A) (N : Nat) (res : Int32) (q_PaI : Nat) (v0 : Int32) (v1 : Int32) (n_PaI : Nat) (a_PaI : Nat → Int32) (h : f_X5_isOpen N v0 v1 n_PaI a_PaI = some res) : ∀ (H : Heap) (locs : List Loc), va_P (dC, dI) vwCl (wd9 cyI cyJ cyZ q_PaI n_PaI a_PaI) H → va_D A (wd9 cyI cyJ cyZ q_PaI n_PaI a_PaI) → va_S A s.heap H locs → ∀ (ls : Array Slot), lv_has ls 3 [(0, .int v0), (1, .int v1), (2, .ref q_PaI)] → W p l e (headSpec wsX5_isOpen rm_X5_isOpen).room s m args below meth c H locs 0 0 (MQ below (va_Qi (fun (r : Int32) (_ : Unit) => r = res) (bW dC dI (fun (u : Unit) => (wd9 cyI cyJ cyZ q_PaI n_PaI a_PaI)) A) A) args s 0 0 A) (F0 m 0 ls []) := by
  obtain ⟨hx, hb, hr, hml, hown, hts, hlocks, hG, hA⟩ := id C0
  have hK := hG.1
  intro H locs hP hD hS ls hl
  unfold f_X5_isOpen at h
  refine lv_iload_n hx hb dX5_isOpen_0 rfl (lv_at hl 0 rfl) ?_
  refine lv_iconst (v := (1 : Int32)) hx hb dX5_isOpen_1 (by decide) ?_
  refine lv_icmp_lt (tgt := 26) hx hb dX5_isOpen_2 (by decide) (fun c1z => ?_) (fun c1z => ?_)
  · have h := xt h c1z
    refine lv_iconst (v := (0 : Int32)) hx hb dX5_isOpen_26 (by decide) ?_
    obtain rfl := Option.some.inj h
    exact W.zret (v := (0 : Int32)) hx hb hr rfl (fun t ht hW => ⟨⟨_, (), rfl, rfl, by rw [ht]; exact hP, hD⟩, hS.F ht⟩) hS.2.2 dX5_isOpen_27 hlocks
  · have h := xf h c1z
    refine lv_iload_n hx hb dX5_isOpen_5 rfl (lv_at hl 0 rfl) ?_
    refine lv_iload_n hx hb dX5_isOpen_6 rfl (lv_at hl 1 rfl) ?_
    refine lv_icmp_gt (tgt := 26) hx hb dX5_isOpen_7 (by decide) (fun c2z => ?_) (fun c2z => ?_)
    · have h := xt h c2z
      refine lv_iconst (v := (0 : Int32)) hx hb dX5_isOpen_26 (by decide) ?_
      obtain rfl := Option.some.inj h
      exact W.zret (v := (0 : Int32)) hx hb hr rfl (fun t ht hW => ⟨⟨_, (), rfl, rfl, by rw [ht]; exact hP, hD⟩, hS.F ht⟩) hS.2.2 dX5_isOpen_27 hlocks
    · have h := xf h c2z
      refine lv_iload_n hx hb dX5_isOpen_10 rfl (lv_at hl 0 rfl) ?_
      refine lv_aload_n hx hb dX5_isOpen_11 rfl (lv_at hl 2 rfl) ?_
      refine va_alen (v := nI n_PaI) hx hb hK hP 0 0 rfl rfl rfl dX5_isOpen_12 ?_
      refine lv_icmp_ge (tgt := 26) hx hb dX5_isOpen_13 (by decide) (fun c3z => ?_) (fun c3z => ?_)
      · have h := xt h c3z
        refine lv_iconst (v := (0 : Int32)) hx hb dX5_isOpen_26 (by decide) ?_
        obtain rfl := Option.some.inj h
        exact W.zret (v := (0 : Int32)) hx hb hr rfl (fun t ht hW => ⟨⟨_, (), rfl, rfl, by rw [ht]; exact hP, hD⟩, hS.F ht⟩) hS.2.2 dX5_isOpen_27 hlocks
      · have h := xf h c3z
        refine lv_aload_n hx hb dX5_isOpen_16 rfl (lv_at hl 2 rfl) ?_
        refine lv_iload_n hx hb dX5_isOpen_17 rfl (lv_at hl 0 rfl) ?_
        obtain ⟨b4z, h⟩ := xn h
        refine va_iald hx hb hK hP 0 0 rfl rfl b4z dX5_isOpen_18 ?_
        refine lv_if_ne (tgt := 26) hx hb dX5_isOpen_19 (by decide) (fun c5z => ?_) (fun c5z => ?_)
        · have h := xf h c5z
          refine lv_iconst (v := (0 : Int32)) hx hb dX5_isOpen_26 (by decide) ?_
          obtain rfl := Option.some.inj h
          exact W.zret (v := (0 : Int32)) hx hb hr rfl (fun t ht hW => ⟨⟨_, (), rfl, rfl, by rw [ht]; exact hP, hD⟩, hS.F ht⟩) hS.2.2 dX5_isOpen_27 hlocks
        · have h := xt h c5z
          refine lv_iconst (v := (1 : Int32)) hx hb dX5_isOpen_22 (by decide) ?_
          refine lv_goto (tgt := 27) hx hb dX5_isOpen_23 (by decide) ?_
          obtain rfl := Option.some.inj h
          exact W.zret (v := (1 : Int32)) hx hb hr rfl (fun t ht hW => ⟨⟨_, (), rfl, rfl, by rw [ht]; exact hP, hD⟩, hS.F ht⟩) hS.2.2 dX5_isOpen_27 hlocks
set_option maxRecDepth 100000 in
set_option maxHeartbeats 4000000 in
theorem c_X5_isOpen (l : Launch) (dC : Nat → ClassId) (dI : Nat → Nat → Nat) (cyI cyJ cyZ : ClassId) (N : Nat) (res : Int32) (sz : Nat) (q_PaI : Nat) (v0 : Int32) (v1 : Int32) (n_PaI : Nat) (a_PaI : Nat → Int32) (h : f_X5_isOpen N v0 v1 n_PaI a_PaI = some res) : Met l yX5_isOpen wsX5_isOpen rm_X5_isOpen (pC dC dI cyI cyJ cyZ [.int v0, .int v1, .ref q_PaI] sz (wd9 cyI cyJ cyZ q_PaI n_PaI a_PaI)) (va_Qi (fun (r : Int32) (_ : Unit) => r = res) (bW dC dI (fun (u : Unit) => (wd9 cyI cyJ cyZ q_PaI n_PaI a_PaI)) (va_A (wd9 cyI cyJ cyZ q_PaI n_PaI a_PaI) sz)) (va_A (wd9 cyI cyJ cyZ q_PaI n_PaI a_PaI) sz)) 0 0 (va_A (wd9 cyI cyJ cyZ q_PaI n_PaI a_PaI) sz) := by
  refine Met.ofW (cc := cX5_isOpen) (maxL := 3) (ret := (some .boolean)) (by decide) rfl ?_
  intro p e s m args below meth c s₁ B hml hv
  obtain ⟨rfl, hsz, hP, hG, hD0⟩ := hv
  have hx := B.exec
  have hb := B.bytes
  have hr := B.returns
  have hts := atoms_spec (ws := wsX5_isOpen) B.pre
  have hown : s.vm.findClass RX5 = some m.cls := findClass_of_methodNamed B.named
  have hlocks := B.notSynchronized
  subst hsz
  have hD := hD0.self (sz := s.heap.size)
  generalize hAe : va_A (wd9 cyI cyJ cyZ q_PaI n_PaI a_PaI) s.heap.size = A at hD ⊢
  have hA : ∀ q : Nat, s.heap.size ≤ q → A q := fun q h => by rw [← hAe]; exact Or.inr h
  have hS : va_S A s.heap s.heap [] := va_S.rf
  have hl := lv_entry ([.int v0, .int v1, .ref q_PaI]) (n := 3) (Nat.le_of_ble_eq_true rfl)
  rw [lg_entry_eq]
  generalize (lg_sl ([.int v0, .int v1, .ref q_PaI]) ++ List.replicate (3 - (lg_sl ([.int v0, .int v1, .ref q_PaI])).length) Slot.unset).toArray = ls at hl ⊢
  have hl : lv_has ls 3 [(0, .int v0), (1, .int v1), (2, .ref q_PaI)] := hl
  exact k_X5_isOpen_0 ⟨hx, hb, hr, hml, hown, hts, hlocks, hG, hA⟩ N res q_PaI v0 v1 n_PaI a_PaI  h _ _ hP hD hS _ hl
/-- the cells Tb, Sk, all, apart, PaI -/
abbrev wd19 (cyI cyJ cyZ : ClassId) (q_Tb : Nat) (q_Sk : Nat) (q_all : Nat) (q_apart : Nat) (q_PaI : Nat) (q_Sc : Nat) (q_Pk1 : Nat) (n_all : Nat) (a_all : Nat → Int32) (n_apart : Nat) (a_apart : Nat → Int32) (n_PaI : Nat) (a_PaI : Nat → Int32) : va_W := [(q_Tb, .inr (7, [.ref q_Sc, .ref q_all, .ref q_apart])), (q_Sk, .inr (5, [.ref q_Tb, .ref q_Sc, .ref q_Pk1])), (q_all, .inl (cyI, n_all, .inl a_all)), (q_apart, .inl (cyI, n_apart, .inl a_apart)), (q_PaI, .inl (cyI, n_PaI, .inl a_PaI))]
abbrev rm_X5_tellWay : Room := { frames := 1, cells := 0, slots := 0, locals := 22 }
theorem hd_X5_tellWay : yX5_tellWay.cls ≠ "java/lang/invoke/MethodHandle" ∧ yX5_tellWay.cls ≠ "java/lang/invoke/VarHandle" ∧ (parseMethodDescriptor yX5_tellWay.desc).map (fun d => d.parameters.length) = some 4 := by decide +kernel
theorem iw_X5_tellWay_X7 : ∀ w ∈ wsX70, w ∈ wsX5_tellWay := List.forall_mem_cons.mpr ⟨List.mem_of_getElem? (i := 17) rfl, List.forall_mem_cons.mpr ⟨List.mem_of_getElem? (i := 18) rfl, List.forall_mem_cons.mpr ⟨List.mem_of_getElem? (i := 19) rfl, fun _ h => absurd h List.not_mem_nil⟩⟩⟩
theorem iw_X5_tellWay_X5 : ∀ w ∈ wsX50, w ∈ wsX5_tellWay := List.forall_mem_cons.mpr ⟨List.mem_of_getElem? (i := 14) rfl, List.forall_mem_cons.mpr ⟨List.mem_of_getElem? (i := 15) rfl, List.forall_mem_cons.mpr ⟨List.mem_of_getElem? (i := 16) rfl, fun _ h => absurd h List.not_mem_nil⟩⟩⟩
def j_X5_tellWay_154 (N : Nat) (k_111 : (Int32 × Int32 × (Nat → Int32)) → Option ((Nat → Int32))) (v1 : Int32) (v6 : Int32) (v9 : Int32) (s0 : Int32) (s1 : Int32) (n_all : Nat) (a_all : Nat → Int32) (n_apart : Nat) (a_apart : Nat → Int32) (n_PaI : Nat) (a_PaI : Nat → Int32) : Option ((Nat → Int32)) :=
  if s1 < 0 ∨ n_PaI ≤ s1.toNatClampNeg then
    none
  else
    Option.bind (f_X7_summed N v1 v6 n_all a_all n_apart a_apart) fun r9z =>
    xl (v9 + (1 : Int32)) fun y12z =>
    k_111 (r9z, y12z, upd a_PaI s1.toNatClampNeg s0)
set_option maxRecDepth 100000 in
set_option maxHeartbeats 4000000 in
theorem k_X5_tellWay_154 {p : Program} {l : Launch} {e : Env} {s : State} {m : MethodId} {args : Array Value} {below : List Frame} {meth : Method} {c : Code} {dC : Nat → ClassId} {dI : Nat → Nat → Nat} {cyI cyJ cyZ : ClassId} {A : Nat → Prop} (C0 : mC p s m meth c args cX5_tellWay none 10 RX5 wsX5_tellWay (gK dC dI cyI cyJ cyZ) A) (N : Nat) (res : (Nat → Int32)) (q_Tb : Nat) (q_Sk : Nat) (q_all : Nat) (q_apart : Nat) (q_PaI : Nat) (q_Sc : Nat) (q_Pk1 : Nat) (v1 : Int32) (v5 : Int32) (v7 : Int32) (v8 : Int32) (s0 : Int32) (s1 : Int32) (n_all : Nat) (a_all : Nat → Int32) (n_apart : Nat) (a_apart : Nat → Int32) (n_PaI : Nat) (k_111 : (Int32 × Int32 × (Nat → Int32)) → Option ((Nat → Int32))) (hk_111 : ∀ (v6 : Int32) (v9 : Int32) (a_PaI : Nat → Int32), k_111 (v6, v9, a_PaI) = some res → ∀ (H : Heap) (locs : List Loc), va_P (dC, dI) vwCl (wd19 cyI cyJ cyZ q_Tb q_Sk q_all q_apart q_PaI q_Sc q_Pk1 n_all a_all n_apart a_apart n_PaI a_PaI) H → va_D A (wd19 cyI cyJ cyZ q_Tb q_Sk q_all q_apart q_PaI q_Sc q_Pk1 n_all a_all n_apart a_apart n_PaI a_PaI) → va_S A s.heap H locs → ∀ (ls : Array Slot), lv_has ls 10 [(0, .ref q_Sk), (1, .int v1), (4, .ref q_PaI), (5, .int v5), (6, .int v6), (7, .int v7), (8, .int v8), (9, .int v9)] → W p l e (headSpec wsX5_tellWay rm_X5_tellWay).room s m args below meth c H locs 0 0 (MQ below (va_Qv (fun (_ : Unit) => True) (bW dC dI (fun (u : Unit) => (wd19 cyI cyJ cyZ q_Tb q_Sk q_all q_apart q_PaI q_Sc q_Pk1 n_all a_all n_apart a_apart n_PaI res)) A) A) args s 0 0 A) (F0 m 111 ls [])) (v6 : Int32) (v9 : Int32) (a_PaI : Nat → Int32) (h : j_X5_tellWay_154 N k_111 v1 v6 v9 s0 s1 n_all a_all n_apart a_apart n_PaI a_PaI = some res) : ∀ (H : Heap) (locs : List Loc), va_P (dC, dI) vwCl (wd19 cyI cyJ cyZ q_Tb q_Sk q_all q_apart q_PaI q_Sc q_Pk1 n_all a_all n_apart a_apart n_PaI a_PaI) H → va_D A (wd19 cyI cyJ cyZ q_Tb q_Sk q_all q_apart q_PaI q_Sc q_Pk1 n_all a_all n_apart a_apart n_PaI a_PaI) → va_S A s.heap H locs → ∀ (ls : Array Slot), lv_has ls 10 [(0, .ref q_Sk), (1, .int v1), (4, .ref q_PaI), (5, .int v5), (6, .int v6), (7, .int v7), (8, .int v8), (9, .int v9)] → W p l e (headSpec wsX5_tellWay rm_X5_tellWay).room s m args below meth c H locs 0 0 (MQ below (va_Qv (fun (_ : Unit) => True) (bW dC dI (fun (u : Unit) => (wd19 cyI cyJ cyZ q_Tb q_Sk q_all q_apart q_PaI q_Sc q_Pk1 n_all a_all n_apart a_apart n_PaI res)) A) A) args s 0 0 A) (F0 m 154 ls [.int s0, .int s1, .ref q_PaI]) := by
  obtain ⟨hx, hb, hr, hml, hown, hts, hlocks, hG, hA⟩ := id C0
  have hK := hG.1
  intro H locs hP hD hS ls hl
  unfold j_X5_tellWay_154 at h
  obtain ⟨b8z, h⟩ := xn h
  refine va_iast hx hb hK hP hD hS 4 0 rfl rfl b8z dX5_tellWay_154 (fun H locs hP hD hS => ?_)
  have hP : va_P (dC, dI) vwCl (wd19 cyI cyJ cyZ q_Tb q_Sk q_all q_apart q_PaI q_Sc q_Pk1 n_all a_all n_apart a_apart n_PaI (upd a_PaI s1.toNatClampNeg s0)) H := hP
  have hD : va_D A (wd19 cyI cyJ cyZ q_Tb q_Sk q_all q_apart q_PaI q_Sc q_Pk1 n_all a_all n_apart a_apart n_PaI (upd a_PaI s1.toNatClampNeg s0)) := hD
  refine lv_aload_n hx hb dX5_tellWay_155 rfl (lv_at hl 0 rfl) ?_
  refine va_get (D := (dC, dI)) (ci := 5) (v := .ref q_Tb) (C := RX5) (T := TX5) (N := 3) hx hb hts iw_X5_tellWay_X5 hown hK hP 1 rfl rfl 0 (by decide) (hts (.fieldLink RX5 18 "GoesInto$Seeker" "tables" "LGoesInto$Tables;") (List.mem_of_getElem? (i := 2) rfl)) (fun _ h9 => h9) rfl dX5_tellWay_156 ?_
  refine lv_iload_n hx hb dX5_tellWay_159 rfl (lv_at hl 1 rfl) ?_
  refine lv_iload hx hb dX5_tellWay_160 (lv_at hl 4 rfl) ?_
  obtain ⟨r9z, hr9z, h⟩ := xb_at h
  have hPc := hP.sub (ws' := (wd15 cyI cyJ cyZ q_Tb q_all q_apart q_Sc n_all a_all n_apart a_apart)) [0, 2, 3] rfl
  have hDc := hD.sub (ws' := (wd15 cyI cyJ cyZ q_Tb q_all q_apart q_Sc n_all a_all n_apart a_apart)) [0, 2, 3] (by decide) rfl
  refine cal_i [0, 2, 3] [1, 4] (va_runV (As := [.int v1, .int v6]) (rest := []) ⟨hx, hb, hml, hown, hts⟩ (c_X7_summed l dC dI cyI cyJ cyZ N r9z H.size q_Tb q_all q_apart q_Sc v1 v6 n_all a_all n_apart a_apart hr9z) (cwV 2 hts gX5_tellWay_X7_summed rfl rfl rfl ⟨rfl, hd_X7_summed⟩ ⟨Nat.le_of_ble_eq_true rfl, Nat.le_of_ble_eq_true rfl⟩) ⟨pC.blind, va_recv hK hPc (ci := 7) (q0 := 0) rfl rfl, pC.pre hPc hG hDc⟩ rfl rfl hl.1 rfl (lv_room (Nat.le_of_ble_eq_true rfl)) dX5_tellWay_162 ⟨Nat.zero_le _, Nat.zero_le _⟩) hP hD hS hA rfl rfl rfl (by decide) (fun x11z u10z H locs hw hP hD hS => ?_)
  obtain rfl := hw.symm
  have hP : va_P (dC, dI) vwCl (wd19 cyI cyJ cyZ q_Tb q_Sk q_all q_apart q_PaI q_Sc q_Pk1 n_all a_all n_apart a_apart n_PaI (upd a_PaI s1.toNatClampNeg s0)) H := hP.sub [2, 0, 3, 4, 1] rfl
  have hD : va_D A (wd19 cyI cyJ cyZ q_Tb q_Sk q_all q_apart q_PaI q_Sc q_Pk1 n_all a_all n_apart a_apart n_PaI (upd a_PaI s1.toNatClampNeg s0)) := hD.sub [2, 0, 3, 4, 1] (by decide) rfl
  refine lv_istore (lv' := [(6, .int r9z), (0, .ref q_Sk), (1, .int v1), (4, .ref q_PaI), (5, .int v5), (7, .int v7), (8, .int v8), (9, .int v9)]) hx hb dX5_tellWay_165 hl (by decide) rfl (fun ls hl => ?_)
  obtain ⟨y12z, ey12z⟩ : ∃ z : Int32, z = v9 + (1 : Int32) := ⟨_, rfl⟩
  have h := xl_at h ey12z
  refine lv_iinc (v := y12z) (lv' := [(9, .int y12z), (6, .int r9z), (0, .ref q_Sk), (1, .int v1), (4, .ref q_PaI), (5, .int v5), (7, .int v7), (8, .int v8)]) hx hb dX5_tellWay_167 hl (k := 7) rfl (by rw [ey12z]; rfl) (by decide) rfl (fun ls hl => ?_)
  refine lv_goto (tgt := 111) hx hb dX5_tellWay_170 (by decide) ?_
  exact hk_111 r9z y12z (upd a_PaI s1.toNatClampNeg s0) h _ _ hP hD hS _ (lv_sub hl [2, 3, 4, 5, 1, 6, 7, 0] rfl)
def s_X5_tellWay_111 (N : Nat) (v1 : Int32) (v5 : Int32) (v7 : Int32) (v8 : Int32) (n_all : Nat) (a_all : Nat → Int32) (n_apart : Nat) (a_apart : Nat → Int32) (n_PaI : Nat) (k_111 : (Int32 × Int32 × (Nat → Int32)) → Option ((Nat → Int32))) (v6 : Int32) (v9 : Int32) (a_PaI : Nat → Int32) : Option ((Nat → Int32)) :=
  if v5 ≤ v9 then
    some a_PaI
  else
    if v6 < (1 : Int32) then
      some a_PaI
    else
      if (nI n_PaI) ≤ v6 then
        some a_PaI
      else
        if v7 = 0 then
          j_X5_tellWay_154 N k_111 v1 v6 v9 (-2 : Int32) v6 n_all a_all n_apart a_apart n_PaI a_PaI
        else
          j_X5_tellWay_154 N k_111 v1 v6 v9 ((v8 + v5) - v9) v6 n_all a_all n_apart a_apart n_PaI a_PaI
def l_X5_tellWay_111 (N : Nat) (v1 : Int32) (v5 : Int32) (v7 : Int32) (v8 : Int32) (n_all : Nat) (a_all : Nat → Int32) (n_apart : Nat) (a_apart : Nat → Int32) (n_PaI : Nat) (n : Nat) (z : Int32 × Int32 × (Nat → Int32)) : Option ((Nat → Int32)) := lp (fun k z => s_X5_tellWay_111 N v1 v5 v7 v8 n_all a_all n_apart a_apart n_PaI k z.1 z.2.1 z.2.2) n z
set_option maxRecDepth 100000 in
set_option maxHeartbeats 4000000 in
theorem k_X5_tellWay_111 {p : Program} {l : Launch} {e : Env} {s : State} {m : MethodId} {args : Array Value} {below : List Frame} {meth : Method} {c : Code} {dC : Nat → ClassId} {dI : Nat → Nat → Nat} {cyI cyJ cyZ : ClassId} {A : Nat → Prop} (C0 : mC p s m meth c args cX5_tellWay none 10 RX5 wsX5_tellWay (gK dC dI cyI cyJ cyZ) A) (N : Nat) (res : (Nat → Int32)) (q_Tb : Nat) (q_Sk : Nat) (q_all : Nat) (q_apart : Nat) (q_PaI : Nat) (q_Sc : Nat) (q_Pk1 : Nat) (v1 : Int32) (v5 : Int32) (v7 : Int32) (v8 : Int32) (n_all : Nat) (a_all : Nat → Int32) (n_apart : Nat) (a_apart : Nat → Int32) (n_PaI : Nat) : ∀ (n : Nat) (v6 : Int32) (v9 : Int32) (a_PaI : Nat → Int32), l_X5_tellWay_111 N v1 v5 v7 v8 n_all a_all n_apart a_apart n_PaI n (v6, v9, a_PaI) = some res → ∀ (H : Heap) (locs : List Loc), va_P (dC, dI) vwCl (wd19 cyI cyJ cyZ q_Tb q_Sk q_all q_apart q_PaI q_Sc q_Pk1 n_all a_all n_apart a_apart n_PaI a_PaI) H → va_D A (wd19 cyI cyJ cyZ q_Tb q_Sk q_all q_apart q_PaI q_Sc q_Pk1 n_all a_all n_apart a_apart n_PaI a_PaI) → va_S A s.heap H locs → ∀ (ls : Array Slot), lv_has ls 10 [(0, .ref q_Sk), (1, .int v1), (4, .ref q_PaI), (5, .int v5), (6, .int v6), (7, .int v7), (8, .int v8), (9, .int v9)] → W p l e (headSpec wsX5_tellWay rm_X5_tellWay).room s m args below meth c H locs 0 0 (MQ below (va_Qv (fun (_ : Unit) => True) (bW dC dI (fun (u : Unit) => (wd19 cyI cyJ cyZ q_Tb q_Sk q_all q_apart q_PaI q_Sc q_Pk1 n_all a_all n_apart a_apart n_PaI res)) A) A) args s 0 0 A) (F0 m 111 ls []) := by
  obtain ⟨hx, hb, hr, hml, hown, hts, hlocks, hG, hA⟩ := id C0
  have hK := hG.1
  intro n
  induction n with
  | zero =>
    intro v6 v9 a_PaI h
    cases h
  | succ n ih =>
    intro v6 v9 a_PaI h H locs hP hD hS ls hl
    have h : s_X5_tellWay_111 N v1 v5 v7 v8 n_all a_all n_apart a_apart n_PaI (l_X5_tellWay_111 N v1 v5 v7 v8 n_all a_all n_apart a_apart n_PaI n) v6 v9 a_PaI = some res := h
    unfold s_X5_tellWay_111 at h
    refine lv_iload hx hb dX5_tellWay_111 (lv_at hl 7 rfl) ?_
    refine lv_iload hx hb dX5_tellWay_113 (lv_at hl 3 rfl) ?_
    refine lv_icmp_ge (tgt := 173) hx hb dX5_tellWay_115 (by decide) (fun c4z => ?_) (fun c4z => ?_)
    · have h := xt h c4z
      obtain rfl := Option.some.inj h
      exact W.vret hx hb hr (fun t ht hW => ⟨⟨(), rfl, trivial, by rw [ht]; exact hP, hD⟩, hS.F ht⟩) hS.2.2 dX5_tellWay_173 hlocks
    · have h := xf h c4z
      refine lv_iload hx hb dX5_tellWay_118 (lv_at hl 4 rfl) ?_
      refine lv_iconst (v := (1 : Int32)) hx hb dX5_tellWay_120 (by decide) ?_
      refine lv_icmp_lt (tgt := 173) hx hb dX5_tellWay_121 (by decide) (fun c5z => ?_) (fun c5z => ?_)
      · have h := xt h c5z
        obtain rfl := Option.some.inj h
        exact W.vret hx hb hr (fun t ht hW => ⟨⟨(), rfl, trivial, by rw [ht]; exact hP, hD⟩, hS.F ht⟩) hS.2.2 dX5_tellWay_173 hlocks
      · have h := xf h c5z
        refine lv_iload hx hb dX5_tellWay_124 (lv_at hl 4 rfl) ?_
        refine lv_aload hx hb dX5_tellWay_126 (lv_at hl 2 rfl) ?_
        refine va_alen (v := nI n_PaI) hx hb hK hP 4 0 rfl rfl rfl dX5_tellWay_128 ?_
        refine lv_icmp_ge (tgt := 173) hx hb dX5_tellWay_129 (by decide) (fun c6z => ?_) (fun c6z => ?_)
        · have h := xt h c6z
          obtain rfl := Option.some.inj h
          exact W.vret hx hb hr (fun t ht hW => ⟨⟨(), rfl, trivial, by rw [ht]; exact hP, hD⟩, hS.F ht⟩) hS.2.2 dX5_tellWay_173 hlocks
        · have h := xf h c6z
          refine lv_aload hx hb dX5_tellWay_132 (lv_at hl 2 rfl) ?_
          refine lv_iload hx hb dX5_tellWay_134 (lv_at hl 4 rfl) ?_
          refine lv_iload hx hb dX5_tellWay_136 (lv_at hl 5 rfl) ?_
          refine lv_if_eq (tgt := 152) hx hb dX5_tellWay_138 (by decide) (fun c7z => ?_) (fun c7z => ?_)
          · have h := xt h c7z
            refine lv_bipush (v := (-2 : Int32)) hx hb dX5_tellWay_152 (by decide) ?_
            exact k_X5_tellWay_154 C0 N res q_Tb q_Sk q_all q_apart q_PaI q_Sc q_Pk1 v1 v5 v7 v8 (-2 : Int32) v6 n_all a_all n_apart a_apart n_PaI _ ih v6 v9 a_PaI  h _ _ hP hD hS _ (lv_sub hl [0, 1, 2, 3, 4, 5, 6, 7] rfl)
          · have h := xf h c7z
            refine lv_iload hx hb dX5_tellWay_141 (lv_at hl 6 rfl) ?_
            refine lv_iload hx hb dX5_tellWay_143 (lv_at hl 3 rfl) ?_
            refine lv_iadd hx hb dX5_tellWay_145 ?_
            refine lv_iload hx hb dX5_tellWay_146 (lv_at hl 7 rfl) ?_
            refine lv_isub hx hb dX5_tellWay_148 ?_
            refine lv_goto (tgt := 154) hx hb dX5_tellWay_149 (by decide) ?_
            exact k_X5_tellWay_154 C0 N res q_Tb q_Sk q_all q_apart q_PaI q_Sc q_Pk1 v1 v5 v7 v8 ((v8 + v5) - v9) v6 n_all a_all n_apart a_apart n_PaI _ ih v6 v9 a_PaI  h _ _ hP hD hS _ (lv_sub hl [0, 1, 2, 3, 4, 5, 6, 7] rfl)
def j_X5_tellWay_103 (N : Nat) (v1 : Int32) (v3 : Int32) (v5 : Int32) (v7 : Int32) (s0 : Int32) (n_all : Nat) (a_all : Nat → Int32) (n_apart : Nat) (a_apart : Nat → Int32) (n_PaI : Nat) (a_PaI : Nat → Int32) : Option ((Nat → Int32)) :=
  l_X5_tellWay_111 N v1 v5 v7 s0 n_all a_all n_apart a_apart n_PaI N (v3, (0 : Int32), a_PaI)
set_option maxRecDepth 100000 in
set_option maxHeartbeats 4000000 in
theorem k_X5_tellWay_103 {p : Program} {l : Launch} {e : Env} {s : State} {m : MethodId} {args : Array Value} {below : List Frame} {meth : Method} {c : Code} {dC : Nat → ClassId} {dI : Nat → Nat → Nat} {cyI cyJ cyZ : ClassId} {A : Nat → Prop} (C0 : mC p s m meth c args cX5_tellWay none 10 RX5 wsX5_tellWay (gK dC dI cyI cyJ cyZ) A) (N : Nat) (res : (Nat → Int32)) (q_Tb : Nat) (q_Sk : Nat) (q_all : Nat) (q_apart : Nat) (q_PaI : Nat) (q_Sc : Nat) (q_Pk1 : Nat) (v1 : Int32) (v3 : Int32) (v5 : Int32) (v7 : Int32) (s0 : Int32) (n_all : Nat) (a_all : Nat → Int32) (n_apart : Nat) (a_apart : Nat → Int32) (n_PaI : Nat) (a_PaI : Nat → Int32) (h : j_X5_tellWay_103 N v1 v3 v5 v7 s0 n_all a_all n_apart a_apart n_PaI a_PaI = some res) : ∀ (H : Heap) (locs : List Loc), va_P (dC, dI) vwCl (wd19 cyI cyJ cyZ q_Tb q_Sk q_all q_apart q_PaI q_Sc q_Pk1 n_all a_all n_apart a_apart n_PaI a_PaI) H → va_D A (wd19 cyI cyJ cyZ q_Tb q_Sk q_all q_apart q_PaI q_Sc q_Pk1 n_all a_all n_apart a_apart n_PaI a_PaI) → va_S A s.heap H locs → ∀ (ls : Array Slot), lv_has ls 10 [(0, .ref q_Sk), (1, .int v1), (3, .int v3), (4, .ref q_PaI), (5, .int v5), (7, .int v7)] → W p l e (headSpec wsX5_tellWay rm_X5_tellWay).room s m args below meth c H locs 0 0 (MQ below (va_Qv (fun (_ : Unit) => True) (bW dC dI (fun (u : Unit) => (wd19 cyI cyJ cyZ q_Tb q_Sk q_all q_apart q_PaI q_Sc q_Pk1 n_all a_all n_apart a_apart n_PaI res)) A) A) args s 0 0 A) (F0 m 103 ls [.int s0]) := by
  obtain ⟨hx, hb, hr, hml, hown, hts, hlocks, hG, hA⟩ := id C0
  have hK := hG.1
  intro H locs hP hD hS ls hl
  unfold j_X5_tellWay_103 at h
  refine lv_istore (lv' := [(8, .int s0), (0, .ref q_Sk), (1, .int v1), (3, .int v3), (4, .ref q_PaI), (5, .int v5), (7, .int v7)]) hx hb dX5_tellWay_103 hl (by decide) rfl (fun ls hl => ?_)
  refine lv_iload_n hx hb dX5_tellWay_105 rfl (lv_at hl 3 rfl) ?_
  refine lv_istore (lv' := [(6, .int v3), (8, .int s0), (0, .ref q_Sk), (1, .int v1), (3, .int v3), (4, .ref q_PaI), (5, .int v5), (7, .int v7)]) hx hb dX5_tellWay_106 hl (by decide) rfl (fun ls hl => ?_)
  refine lv_iconst (v := (0 : Int32)) hx hb dX5_tellWay_108 (by decide) ?_
  refine lv_istore (lv' := [(9, .int (0 : Int32)), (6, .int v3), (8, .int s0), (0, .ref q_Sk), (1, .int v1), (3, .int v3), (4, .ref q_PaI), (5, .int v5), (7, .int v7)]) hx hb dX5_tellWay_109 hl (by decide) rfl (fun ls hl => ?_)
  exact k_X5_tellWay_111 C0 N res q_Tb q_Sk q_all q_apart q_PaI q_Sc q_Pk1 v1 v5 v7 s0 n_all a_all n_apart a_apart n_PaI N v3 (0 : Int32) a_PaI h _ _ hP hD hS _ (lv_sub hl [3, 4, 6, 7, 1, 8, 2, 0] rfl)
def j_X5_tellWay_87 (N : Nat) (v1 : Int32) (v3 : Int32) (v5 : Int32) (v6 : Int32) (s0 : Int32) (n_all : Nat) (a_all : Nat → Int32) (n_apart : Nat) (a_apart : Nat → Int32) (n_PaI : Nat) (a_PaI : Nat → Int32) : Option ((Nat → Int32)) :=
  if s0 = 0 then
    j_X5_tellWay_103 N v1 v3 v5 s0 (0 : Int32) n_all a_all n_apart a_apart n_PaI a_PaI
  else
    if v6 < 0 ∨ n_PaI ≤ v6.toNatClampNeg then
      none
    else
      j_X5_tellWay_103 N v1 v3 v5 s0 (a_PaI v6.toNatClampNeg) n_all a_all n_apart a_apart n_PaI a_PaI
set_option maxRecDepth 100000 in
set_option maxHeartbeats 4000000 in
theorem k_X5_tellWay_87 {p : Program} {l : Launch} {e : Env} {s : State} {m : MethodId} {args : Array Value} {below : List Frame} {meth : Method} {c : Code} {dC : Nat → ClassId} {dI : Nat → Nat → Nat} {cyI cyJ cyZ : ClassId} {A : Nat → Prop} (C0 : mC p s m meth c args cX5_tellWay none 10 RX5 wsX5_tellWay (gK dC dI cyI cyJ cyZ) A) (N : Nat) (res : (Nat → Int32)) (q_Tb : Nat) (q_Sk : Nat) (q_all : Nat) (q_apart : Nat) (q_PaI : Nat) (q_Sc : Nat) (q_Pk1 : Nat) (v1 : Int32) (v3 : Int32) (v5 : Int32) (v6 : Int32) (s0 : Int32) (n_all : Nat) (a_all : Nat → Int32) (n_apart : Nat) (a_apart : Nat → Int32) (n_PaI : Nat) (a_PaI : Nat → Int32) (h : j_X5_tellWay_87 N v1 v3 v5 v6 s0 n_all a_all n_apart a_apart n_PaI a_PaI = some res) : ∀ (H : Heap) (locs : List Loc), va_P (dC, dI) vwCl (wd19 cyI cyJ cyZ q_Tb q_Sk q_all q_apart q_PaI q_Sc q_Pk1 n_all a_all n_apart a_apart n_PaI a_PaI) H → va_D A (wd19 cyI cyJ cyZ q_Tb q_Sk q_all q_apart q_PaI q_Sc q_Pk1 n_all a_all n_apart a_apart n_PaI a_PaI) → va_S A s.heap H locs → ∀ (ls : Array Slot), lv_has ls 10 [(0, .ref q_Sk), (1, .int v1), (3, .int v3), (4, .ref q_PaI), (5, .int v5), (6, .int v6)] → W p l e (headSpec wsX5_tellWay rm_X5_tellWay).room s m args below meth c H locs 0 0 (MQ below (va_Qv (fun (_ : Unit) => True) (bW dC dI (fun (u : Unit) => (wd19 cyI cyJ cyZ q_Tb q_Sk q_all q_apart q_PaI q_Sc q_Pk1 n_all a_all n_apart a_apart n_PaI res)) A) A) args s 0 0 A) (F0 m 87 ls [.int s0]) := by
  obtain ⟨hx, hb, hr, hml, hown, hts, hlocks, hG, hA⟩ := id C0
  have hK := hG.1
  intro H locs hP hD hS ls hl
  unfold j_X5_tellWay_87 at h
  refine lv_istore (lv' := [(7, .int s0), (0, .ref q_Sk), (1, .int v1), (3, .int v3), (4, .ref q_PaI), (5, .int v5), (6, .int v6)]) hx hb dX5_tellWay_87 hl (by decide) rfl (fun ls hl => ?_)
  refine lv_iload hx hb dX5_tellWay_89 (lv_at hl 0 rfl) ?_
  refine lv_if_eq (tgt := 102) hx hb dX5_tellWay_91 (by decide) (fun c3z => ?_) (fun c3z => ?_)
  · have h := xt h c3z
    refine lv_iconst (v := (0 : Int32)) hx hb dX5_tellWay_102 (by decide) ?_
    exact k_X5_tellWay_103 C0 N res q_Tb q_Sk q_all q_apart q_PaI q_Sc q_Pk1 v1 v3 v5 s0 (0 : Int32) n_all a_all n_apart a_apart n_PaI a_PaI  h _ _ hP hD hS _ (lv_sub hl [1, 2, 3, 4, 5, 0] rfl)
  · have h := xf h c3z
    refine lv_aload hx hb dX5_tellWay_94 (lv_at hl 4 rfl) ?_
    refine lv_iload hx hb dX5_tellWay_96 (lv_at hl 6 rfl) ?_
    obtain ⟨b13z, h⟩ := xn h
    refine va_iald hx hb hK hP 4 0 rfl rfl b13z dX5_tellWay_98 ?_
    refine lv_goto (tgt := 103) hx hb dX5_tellWay_99 (by decide) ?_
    exact k_X5_tellWay_103 C0 N res q_Tb q_Sk q_all q_apart q_PaI q_Sc q_Pk1 v1 v3 v5 s0 (a_PaI v6.toNatClampNeg) n_all a_all n_apart a_apart n_PaI a_PaI  h _ _ hP hD hS _ (lv_sub hl [1, 2, 3, 4, 5, 0] rfl)
def j_X5_tellWay_86 (N : Nat) (v1 : Int32) (v3 : Int32) (v5 : Int32) (v6 : Int32) (n_all : Nat) (a_all : Nat → Int32) (n_apart : Nat) (a_apart : Nat → Int32) (n_PaI : Nat) (a_PaI : Nat → Int32) : Option ((Nat → Int32)) :=
  j_X5_tellWay_87 N v1 v3 v5 v6 (0 : Int32) n_all a_all n_apart a_apart n_PaI a_PaI
set_option maxRecDepth 100000 in
set_option maxHeartbeats 4000000 in
theorem k_X5_tellWay_86 {p : Program} {l : Launch} {e : Env} {s : State} {m : MethodId} {args : Array Value} {below : List Frame} {meth : Method} {c : Code} {dC : Nat → ClassId} {dI : Nat → Nat → Nat} {cyI cyJ cyZ : ClassId} {A : Nat → Prop} (C0 : mC p s m meth c args cX5_tellWay none 10 RX5 wsX5_tellWay (gK dC dI cyI cyJ cyZ) A) (N : Nat) (res : (Nat → Int32)) (q_Tb : Nat) (q_Sk : Nat) (q_all : Nat) (q_apart : Nat) (q_PaI : Nat) (q_Sc : Nat) (q_Pk1 : Nat) (v1 : Int32) (v3 : Int32) (v5 : Int32) (v6 : Int32) (n_all : Nat) (a_all : Nat → Int32) (n_apart : Nat) (a_apart : Nat → Int32) (n_PaI : Nat) (a_PaI : Nat → Int32) (h : j_X5_tellWay_86 N v1 v3 v5 v6 n_all a_all n_apart a_apart n_PaI a_PaI = some res) : ∀ (H : Heap) (locs : List Loc), va_P (dC, dI) vwCl (wd19 cyI cyJ cyZ q_Tb q_Sk q_all q_apart q_PaI q_Sc q_Pk1 n_all a_all n_apart a_apart n_PaI a_PaI) H → va_D A (wd19 cyI cyJ cyZ q_Tb q_Sk q_all q_apart q_PaI q_Sc q_Pk1 n_all a_all n_apart a_apart n_PaI a_PaI) → va_S A s.heap H locs → ∀ (ls : Array Slot), lv_has ls 10 [(0, .ref q_Sk), (1, .int v1), (3, .int v3), (4, .ref q_PaI), (5, .int v5), (6, .int v6)] → W p l e (headSpec wsX5_tellWay rm_X5_tellWay).room s m args below meth c H locs 0 0 (MQ below (va_Qv (fun (_ : Unit) => True) (bW dC dI (fun (u : Unit) => (wd19 cyI cyJ cyZ q_Tb q_Sk q_all q_apart q_PaI q_Sc q_Pk1 n_all a_all n_apart a_apart n_PaI res)) A) A) args s 0 0 A) (F0 m 86 ls []) := by
  obtain ⟨hx, hb, hr, hml, hown, hts, hlocks, hG, hA⟩ := id C0
  have hK := hG.1
  intro H locs hP hD hS ls hl
  unfold j_X5_tellWay_86 at h
  refine lv_iconst (v := (0 : Int32)) hx hb dX5_tellWay_86 (by decide) ?_
  exact k_X5_tellWay_87 C0 N res q_Tb q_Sk q_all q_apart q_PaI q_Sc q_Pk1 v1 v3 v5 v6 (0 : Int32) n_all a_all n_apart a_apart n_PaI a_PaI  h _ _ hP hD hS _ (lv_sub hl [0, 1, 2, 3, 4, 5] rfl)
def j_X5_tellWay_54 (N : Nat) (v1 : Int32) (v2 : Int32) (v3 : Int32) (v5 : Int32) (v6 : Int32) (n_all : Nat) (a_all : Nat → Int32) (n_apart : Nat) (a_apart : Nat → Int32) (n_PaI : Nat) (a_PaI : Nat → Int32) : Option ((Nat → Int32)) :=
  if v6 < (1 : Int32) then
    j_X5_tellWay_86 N v1 v3 v5 v6 n_all a_all n_apart a_apart n_PaI a_PaI
  else
    if v2 < v6 then
      j_X5_tellWay_86 N v1 v3 v5 v6 n_all a_all n_apart a_apart n_PaI a_PaI
    else
      if (nI n_PaI) ≤ v6 then
        j_X5_tellWay_86 N v1 v3 v5 v6 n_all a_all n_apart a_apart n_PaI a_PaI
      else
        if v6 < 0 ∨ n_PaI ≤ v6.toNatClampNeg then
          none
        else
          if (a_PaI v6.toNatClampNeg) ≤ 0 then
            j_X5_tellWay_86 N v1 v3 v5 v6 n_all a_all n_apart a_apart n_PaI a_PaI
          else
            j_X5_tellWay_87 N v1 v3 v5 v6 (1 : Int32) n_all a_all n_apart a_apart n_PaI a_PaI
set_option maxRecDepth 100000 in
set_option maxHeartbeats 4000000 in
theorem k_X5_tellWay_54 {p : Program} {l : Launch} {e : Env} {s : State} {m : MethodId} {args : Array Value} {below : List Frame} {meth : Method} {c : Code} {dC : Nat → ClassId} {dI : Nat → Nat → Nat} {cyI cyJ cyZ : ClassId} {A : Nat → Prop} (C0 : mC p s m meth c args cX5_tellWay none 10 RX5 wsX5_tellWay (gK dC dI cyI cyJ cyZ) A) (N : Nat) (res : (Nat → Int32)) (q_Tb : Nat) (q_Sk : Nat) (q_all : Nat) (q_apart : Nat) (q_PaI : Nat) (q_Sc : Nat) (q_Pk1 : Nat) (v1 : Int32) (v2 : Int32) (v3 : Int32) (v5 : Int32) (v6 : Int32) (n_all : Nat) (a_all : Nat → Int32) (n_apart : Nat) (a_apart : Nat → Int32) (n_PaI : Nat) (a_PaI : Nat → Int32) (h : j_X5_tellWay_54 N v1 v2 v3 v5 v6 n_all a_all n_apart a_apart n_PaI a_PaI = some res) : ∀ (H : Heap) (locs : List Loc), va_P (dC, dI) vwCl (wd19 cyI cyJ cyZ q_Tb q_Sk q_all q_apart q_PaI q_Sc q_Pk1 n_all a_all n_apart a_apart n_PaI a_PaI) H → va_D A (wd19 cyI cyJ cyZ q_Tb q_Sk q_all q_apart q_PaI q_Sc q_Pk1 n_all a_all n_apart a_apart n_PaI a_PaI) → va_S A s.heap H locs → ∀ (ls : Array Slot), lv_has ls 10 [(0, .ref q_Sk), (1, .int v1), (2, .int v2), (3, .int v3), (4, .ref q_PaI), (5, .int v5), (6, .int v6)] → W p l e (headSpec wsX5_tellWay rm_X5_tellWay).room s m args below meth c H locs 0 0 (MQ below (va_Qv (fun (_ : Unit) => True) (bW dC dI (fun (u : Unit) => (wd19 cyI cyJ cyZ q_Tb q_Sk q_all q_apart q_PaI q_Sc q_Pk1 n_all a_all n_apart a_apart n_PaI res)) A) A) args s 0 0 A) (F0 m 54 ls []) := by
  obtain ⟨hx, hb, hr, hml, hown, hts, hlocks, hG, hA⟩ := id C0
  have hK := hG.1
  intro H locs hP hD hS ls hl
  unfold j_X5_tellWay_54 at h
  refine lv_iload hx hb dX5_tellWay_54 (lv_at hl 6 rfl) ?_
  refine lv_iconst (v := (1 : Int32)) hx hb dX5_tellWay_56 (by decide) ?_
  refine lv_icmp_lt (tgt := 86) hx hb dX5_tellWay_57 (by decide) (fun c2z => ?_) (fun c2z => ?_)
  · have h := xt h c2z
    exact k_X5_tellWay_86 C0 N res q_Tb q_Sk q_all q_apart q_PaI q_Sc q_Pk1 v1 v3 v5 v6 n_all a_all n_apart a_apart n_PaI a_PaI  h _ _ hP hD hS _ (lv_sub hl [0, 1, 3, 4, 5, 6] rfl)
  · have h := xf h c2z
    refine lv_iload hx hb dX5_tellWay_60 (lv_at hl 6 rfl) ?_
    refine lv_iload_n hx hb dX5_tellWay_62 rfl (lv_at hl 2 rfl) ?_
    refine lv_icmp_gt (tgt := 86) hx hb dX5_tellWay_63 (by decide) (fun c14z => ?_) (fun c14z => ?_)
    · have h := xt h c14z
      exact k_X5_tellWay_86 C0 N res q_Tb q_Sk q_all q_apart q_PaI q_Sc q_Pk1 v1 v3 v5 v6 n_all a_all n_apart a_apart n_PaI a_PaI  h _ _ hP hD hS _ (lv_sub hl [0, 1, 3, 4, 5, 6] rfl)
    · have h := xf h c14z
      refine lv_iload hx hb dX5_tellWay_66 (lv_at hl 6 rfl) ?_
      refine lv_aload hx hb dX5_tellWay_68 (lv_at hl 4 rfl) ?_
      refine va_alen (v := nI n_PaI) hx hb hK hP 4 0 rfl rfl rfl dX5_tellWay_70 ?_
      refine lv_icmp_ge (tgt := 86) hx hb dX5_tellWay_71 (by decide) (fun c15z => ?_) (fun c15z => ?_)
      · have h := xt h c15z
        exact k_X5_tellWay_86 C0 N res q_Tb q_Sk q_all q_apart q_PaI q_Sc q_Pk1 v1 v3 v5 v6 n_all a_all n_apart a_apart n_PaI a_PaI  h _ _ hP hD hS _ (lv_sub hl [0, 1, 3, 4, 5, 6] rfl)
      · have h := xf h c15z
        refine lv_aload hx hb dX5_tellWay_74 (lv_at hl 4 rfl) ?_
        refine lv_iload hx hb dX5_tellWay_76 (lv_at hl 6 rfl) ?_
        obtain ⟨b16z, h⟩ := xn h
        refine va_iald hx hb hK hP 4 0 rfl rfl b16z dX5_tellWay_78 ?_
        refine lv_if_le (tgt := 86) hx hb dX5_tellWay_79 (by decide) (fun c17z => ?_) (fun c17z => ?_)
        · have h := xt h c17z
          exact k_X5_tellWay_86 C0 N res q_Tb q_Sk q_all q_apart q_PaI q_Sc q_Pk1 v1 v3 v5 v6 n_all a_all n_apart a_apart n_PaI a_PaI  h _ _ hP hD hS _ (lv_sub hl [0, 1, 3, 4, 5, 6] rfl)
        · have h := xf h c17z
          refine lv_iconst (v := (1 : Int32)) hx hb dX5_tellWay_82 (by decide) ?_
          refine lv_goto (tgt := 87) hx hb dX5_tellWay_83 (by decide) ?_
          exact k_X5_tellWay_87 C0 N res q_Tb q_Sk q_all q_apart q_PaI q_Sc q_Pk1 v1 v3 v5 v6 (1 : Int32) n_all a_all n_apart a_apart n_PaI a_PaI  h _ _ hP hD hS _ (lv_sub hl [0, 1, 3, 4, 5, 6] rfl)
def s_X5_tellWay_9 (N : Nat) (v1 : Int32) (v2 : Int32) (v3 : Int32) (n_all : Nat) (a_all : Nat → Int32) (n_apart : Nat) (a_apart : Nat → Int32) (n_PaI : Nat) (k_9 : (Int32 × Int32 × Int32 × (Nat → Int32)) → Option ((Nat → Int32))) (v5 : Int32) (v6 : Int32) (v7 : Int32) (a_PaI : Nat → Int32) : Option ((Nat → Int32)) :=
  if (50000 : Int32) ≤ v7 then
    j_X5_tellWay_54 N v1 v2 v3 v5 v6 n_all a_all n_apart a_apart n_PaI a_PaI
  else
    Option.bind (f_X5_isOpen N v6 v2 n_PaI a_PaI) fun r18z =>
    if r18z = 0 then
      j_X5_tellWay_54 N v1 v2 v3 v5 v6 n_all a_all n_apart a_apart n_PaI a_PaI
    else
      if v6 < 0 ∨ n_PaI ≤ v6.toNatClampNeg then
        none
      else
        Option.bind (f_X7_summed N v1 v6 n_all a_all n_apart a_apart) fun r23z =>
        xl (v5 + (1 : Int32)) fun y26z =>
        xl (v7 + (1 : Int32)) fun y27z =>
        k_9 (y26z, r23z, y27z, upd a_PaI v6.toNatClampNeg (-1 : Int32))
def l_X5_tellWay_9 (N : Nat) (v1 : Int32) (v2 : Int32) (v3 : Int32) (n_all : Nat) (a_all : Nat → Int32) (n_apart : Nat) (a_apart : Nat → Int32) (n_PaI : Nat) (n : Nat) (z : Int32 × Int32 × Int32 × (Nat → Int32)) : Option ((Nat → Int32)) := lp (fun k z => s_X5_tellWay_9 N v1 v2 v3 n_all a_all n_apart a_apart n_PaI k z.1 z.2.1 z.2.2.1 z.2.2.2) n z
set_option maxRecDepth 100000 in
set_option maxHeartbeats 4000000 in
theorem k_X5_tellWay_9 {p : Program} {l : Launch} {e : Env} {s : State} {m : MethodId} {args : Array Value} {below : List Frame} {meth : Method} {c : Code} {dC : Nat → ClassId} {dI : Nat → Nat → Nat} {cyI cyJ cyZ : ClassId} {A : Nat → Prop} (C0 : mC p s m meth c args cX5_tellWay none 10 RX5 wsX5_tellWay (gK dC dI cyI cyJ cyZ) A) (N : Nat) (res : (Nat → Int32)) (q_Tb : Nat) (q_Sk : Nat) (q_all : Nat) (q_apart : Nat) (q_PaI : Nat) (q_Sc : Nat) (q_Pk1 : Nat) (v1 : Int32) (v2 : Int32) (v3 : Int32) (n_all : Nat) (a_all : Nat → Int32) (n_apart : Nat) (a_apart : Nat → Int32) (n_PaI : Nat) : ∀ (n : Nat) (v5 : Int32) (v6 : Int32) (v7 : Int32) (a_PaI : Nat → Int32), l_X5_tellWay_9 N v1 v2 v3 n_all a_all n_apart a_apart n_PaI n (v5, v6, v7, a_PaI) = some res → ∀ (H : Heap) (locs : List Loc), va_P (dC, dI) vwCl (wd19 cyI cyJ cyZ q_Tb q_Sk q_all q_apart q_PaI q_Sc q_Pk1 n_all a_all n_apart a_apart n_PaI a_PaI) H → va_D A (wd19 cyI cyJ cyZ q_Tb q_Sk q_all q_apart q_PaI q_Sc q_Pk1 n_all a_all n_apart a_apart n_PaI a_PaI) → va_S A s.heap H locs → ∀ (ls : Array Slot), lv_has ls 10 [(0, .ref q_Sk), (1, .int v1), (2, .int v2), (3, .int v3), (4, .ref q_PaI), (5, .int v5), (6, .int v6), (7, .int v7)] → W p l e (headSpec wsX5_tellWay rm_X5_tellWay).room s m args below meth c H locs 0 0 (MQ below (va_Qv (fun (_ : Unit) => True) (bW dC dI (fun (u : Unit) => (wd19 cyI cyJ cyZ q_Tb q_Sk q_all q_apart q_PaI q_Sc q_Pk1 n_all a_all n_apart a_apart n_PaI res)) A) A) args s 0 0 A) (F0 m 9 ls []) := by
  obtain ⟨hx, hb, hr, hml, hown, hts, hlocks, hG, hA⟩ := id C0
  have hK := hG.1
  intro n
  induction n with
  | zero =>
    intro v5 v6 v7 a_PaI h
    cases h
  | succ n ih =>
    intro v5 v6 v7 a_PaI h H locs hP hD hS ls hl
    have h : s_X5_tellWay_9 N v1 v2 v3 n_all a_all n_apart a_apart n_PaI (l_X5_tellWay_9 N v1 v2 v3 n_all a_all n_apart a_apart n_PaI n) v5 v6 v7 a_PaI = some res := h
    unfold s_X5_tellWay_9 at h
    refine lv_iload hx hb dX5_tellWay_9 (lv_at hl 7 rfl) ?_
    refine lv_ldc (v := (50000 : Int32)) hx hb hown (hts (.constant RX5 58 (50000)) (List.mem_of_getElem? (i := 1) rfl)) dX5_tellWay_11 ?_
    refine lv_icmp_ge (tgt := 54) hx hb dX5_tellWay_13 (by decide) (fun c1z => ?_) (fun c1z => ?_)
    · have h := xt h c1z
      exact k_X5_tellWay_54 C0 N res q_Tb q_Sk q_all q_apart q_PaI q_Sc q_Pk1 v1 v2 v3 v5 v6 n_all a_all n_apart a_apart n_PaI a_PaI  h _ _ hP hD hS _ (lv_sub hl [0, 1, 2, 3, 4, 5, 6] rfl)
    · have h := xf h c1z
      refine lv_iload hx hb dX5_tellWay_16 (lv_at hl 6 rfl) ?_
      refine lv_iload_n hx hb dX5_tellWay_18 rfl (lv_at hl 2 rfl) ?_
      refine lv_aload hx hb dX5_tellWay_19 (lv_at hl 4 rfl) ?_
      obtain ⟨r18z, hr18z, h⟩ := xb_at h
      have hPc := hP.sub (ws' := (wd9 cyI cyJ cyZ q_PaI n_PaI a_PaI)) [4] rfl
      have hDc := hD.sub (ws' := (wd9 cyI cyJ cyZ q_PaI n_PaI a_PaI)) [4] (by decide) rfl
      refine cal_i [4] [0, 1, 2, 3] (va_runS (As := [.int v6, .int v2, .ref q_PaI]) (rest := []) ⟨hx, hb, hml, hown, hts⟩ (c_X5_isOpen l dC dI cyI cyJ cyZ N r18z H.size q_PaI v6 v2 n_PaI a_PaI hr18z) (va_cwS 3 hts gX5_tellWay_X5_isOpen rfl rfl rfl hd_X5_isOpen ⟨Nat.le_of_ble_eq_true rfl, Nat.le_of_ble_eq_true rfl⟩) ⟨pC.blind, pC.pre hPc hG hDc⟩ rfl rfl hl.1 rfl (lv_room (Nat.le_of_ble_eq_true rfl)) dX5_tellWay_21 ⟨Nat.zero_le _, Nat.zero_le _⟩) hP hD hS hA rfl rfl rfl (by decide) (fun x20z u19z H locs hw hP hD hS => ?_)
      obtain rfl := hw.symm
      have hP : va_P (dC, dI) vwCl (wd19 cyI cyJ cyZ q_Tb q_Sk q_all q_apart q_PaI q_Sc q_Pk1 n_all a_all n_apart a_apart n_PaI a_PaI) H := hP.sub [0, 1, 2, 3, 4] rfl
      have hD : va_D A (wd19 cyI cyJ cyZ q_Tb q_Sk q_all q_apart q_PaI q_Sc q_Pk1 n_all a_all n_apart a_apart n_PaI a_PaI) := hD.sub [0, 1, 2, 3, 4] (by decide) rfl
      refine lv_if_eq (tgt := 54) hx hb dX5_tellWay_24 (by decide) (fun c21z => ?_) (fun c21z => ?_)
      · have h := xt h c21z
        exact k_X5_tellWay_54 C0 N res q_Tb q_Sk q_all q_apart q_PaI q_Sc q_Pk1 v1 v2 v3 v5 v6 n_all a_all n_apart a_apart n_PaI a_PaI  h _ _ hP hD hS _ (lv_sub hl [0, 1, 2, 3, 4, 5, 6] rfl)
      · have h := xf h c21z
        refine lv_aload hx hb dX5_tellWay_27 (lv_at hl 4 rfl) ?_
        refine lv_iload hx hb dX5_tellWay_29 (lv_at hl 6 rfl) ?_
        refine lv_iconst (v := (-1 : Int32)) hx hb dX5_tellWay_31 (by decide) ?_
        obtain ⟨b22z, h⟩ := xn h
        refine va_iast hx hb hK hP hD hS 4 0 rfl rfl b22z dX5_tellWay_32 (fun H locs hP hD hS => ?_)
        have hP : va_P (dC, dI) vwCl (wd19 cyI cyJ cyZ q_Tb q_Sk q_all q_apart q_PaI q_Sc q_Pk1 n_all a_all n_apart a_apart n_PaI (upd a_PaI v6.toNatClampNeg (-1 : Int32))) H := hP
        have hD : va_D A (wd19 cyI cyJ cyZ q_Tb q_Sk q_all q_apart q_PaI q_Sc q_Pk1 n_all a_all n_apart a_apart n_PaI (upd a_PaI v6.toNatClampNeg (-1 : Int32))) := hD
        refine lv_aload_n hx hb dX5_tellWay_33 rfl (lv_at hl 0 rfl) ?_
        refine va_get (D := (dC, dI)) (ci := 5) (v := .ref q_Tb) (C := RX5) (T := TX5) (N := 3) hx hb hts iw_X5_tellWay_X5 hown hK hP 1 rfl rfl 0 (by decide) (hts (.fieldLink RX5 18 "GoesInto$Seeker" "tables" "LGoesInto$Tables;") (List.mem_of_getElem? (i := 2) rfl)) (fun _ h9 => h9) rfl dX5_tellWay_34 ?_
        refine lv_iload_n hx hb dX5_tellWay_37 rfl (lv_at hl 1 rfl) ?_
        refine lv_iload hx hb dX5_tellWay_38 (lv_at hl 6 rfl) ?_
        obtain ⟨r23z, hr23z, h⟩ := xb_at h
        have hPc := hP.sub (ws' := (wd15 cyI cyJ cyZ q_Tb q_all q_apart q_Sc n_all a_all n_apart a_apart)) [0, 2, 3] rfl
        have hDc := hD.sub (ws' := (wd15 cyI cyJ cyZ q_Tb q_all q_apart q_Sc n_all a_all n_apart a_apart)) [0, 2, 3] (by decide) rfl
        refine cal_i [0, 2, 3] [1, 4] (va_runV (As := [.int v1, .int v6]) (rest := []) ⟨hx, hb, hml, hown, hts⟩ (c_X7_summed l dC dI cyI cyJ cyZ N r23z H.size q_Tb q_all q_apart q_Sc v1 v6 n_all a_all n_apart a_apart hr23z) (cwV 2 hts gX5_tellWay_X7_summed rfl rfl rfl ⟨rfl, hd_X7_summed⟩ ⟨Nat.le_of_ble_eq_true rfl, Nat.le_of_ble_eq_true rfl⟩) ⟨pC.blind, va_recv hK hPc (ci := 7) (q0 := 0) rfl rfl, pC.pre hPc hG hDc⟩ rfl rfl hl.1 rfl (lv_room (Nat.le_of_ble_eq_true rfl)) dX5_tellWay_40 ⟨Nat.zero_le _, Nat.zero_le _⟩) hP hD hS hA rfl rfl rfl (by decide) (fun x25z u24z H locs hw hP hD hS => ?_)
        obtain rfl := hw.symm
        have hP : va_P (dC, dI) vwCl (wd19 cyI cyJ cyZ q_Tb q_Sk q_all q_apart q_PaI q_Sc q_Pk1 n_all a_all n_apart a_apart n_PaI (upd a_PaI v6.toNatClampNeg (-1 : Int32))) H := hP.sub [2, 0, 3, 4, 1] rfl
        have hD : va_D A (wd19 cyI cyJ cyZ q_Tb q_Sk q_all q_apart q_PaI q_Sc q_Pk1 n_all a_all n_apart a_apart n_PaI (upd a_PaI v6.toNatClampNeg (-1 : Int32))) := hD.sub [2, 0, 3, 4, 1] (by decide) rfl
        refine lv_istore (lv' := [(6, .int r23z), (0, .ref q_Sk), (1, .int v1), (2, .int v2), (3, .int v3), (4, .ref q_PaI), (5, .int v5), (7, .int v7)]) hx hb dX5_tellWay_43 hl (by decide) rfl (fun ls hl => ?_)
        obtain ⟨y26z, ey26z⟩ : ∃ z : Int32, z = v5 + (1 : Int32) := ⟨_, rfl⟩
        have h := xl_at h ey26z
        refine lv_iinc (v := y26z) (lv' := [(5, .int y26z), (6, .int r23z), (0, .ref q_Sk), (1, .int v1), (2, .int v2), (3, .int v3), (4, .ref q_PaI), (7, .int v7)]) hx hb dX5_tellWay_45 hl (k := 6) rfl (by rw [ey26z]; rfl) (by decide) rfl (fun ls hl => ?_)
        obtain ⟨y27z, ey27z⟩ : ∃ z : Int32, z = v7 + (1 : Int32) := ⟨_, rfl⟩
        have h := xl_at h ey27z
        refine lv_iinc (v := y27z) (lv' := [(7, .int y27z), (5, .int y26z), (6, .int r23z), (0, .ref q_Sk), (1, .int v1), (2, .int v2), (3, .int v3), (4, .ref q_PaI)]) hx hb dX5_tellWay_48 hl (k := 7) rfl (by rw [ey27z]; rfl) (by decide) rfl (fun ls hl => ?_)
        refine lv_goto (tgt := 9) hx hb dX5_tellWay_51 (by decide) ?_
        exact ih y26z r23z y27z (upd a_PaI v6.toNatClampNeg (-1 : Int32)) h _ _ hP hD hS _ (lv_sub hl [3, 4, 5, 6, 7, 1, 2, 0] rfl)
def f_X5_tellWay (N : Nat) (v1 : Int32) (v2 : Int32) (v3 : Int32) (n_all : Nat) (a_all : Nat → Int32) (n_apart : Nat) (a_apart : Nat → Int32) (n_PaI : Nat) (a_PaI : Nat → Int32) : Option ((Nat → Int32)) :=
  l_X5_tellWay_9 N v1 v2 v3 n_all a_all n_apart a_apart n_PaI N ((0 : Int32), v3, (0 : Int32), a_PaI)
set_option maxRecDepth 100000 in
set_option maxHeartbeats 4000000 in
theorem k_X5_tellWay_0 {p : Program} {l : Launch} {e : Env} {s : State} {m : MethodId} {args : Array Value} {below : List Frame} {meth : Method} {c : Code} {dC : Nat → ClassId} {dI : Nat → Nat → Nat} {cyI cyJ cyZ : ClassId} {A : Nat → Prop} (C0 : mC p s m meth c args cX5_tellWay none 10 RX5 wsX5_tellWay (gK dC dI cyI cyJ cyZ) A) (N : Nat) (res : (Nat → Int32)) (q_Tb : Nat) (q_Sk : Nat) (q_all : Nat) (q_apart : Nat) (q_PaI : Nat) (q_Sc : Nat) (q_Pk1 : Nat) (v1 : Int32) (v2 : Int32) (v3 : Int32) (n_all : Nat) (a_all : Nat → Int32) (n_apart : Nat) (a_apart : Nat → Int32) (n_PaI : Nat) (a_PaI : Nat → Int32) (h : f_X5_tellWay N v1 v2 v3 n_all a_all n_apart a_apart n_PaI a_PaI = some res) : ∀ (H : Heap) (locs : List Loc), va_P (dC, dI) vwCl (wd19 cyI cyJ cyZ q_Tb q_Sk q_all q_apart q_PaI q_Sc q_Pk1 n_all a_all n_apart a_apart n_PaI a_PaI) H → va_D A (wd19 cyI cyJ cyZ q_Tb q_Sk q_all q_apart q_PaI q_Sc q_Pk1 n_all a_all n_apart a_apart n_PaI a_PaI) → va_S A s.heap H locs → ∀ (ls : Array Slot), lv_has ls 10 [(0, .ref q_Sk), (1, .int v1), (2, .int v2), (3, .int v3), (4, .ref q_PaI)] → W p l e (headSpec wsX5_tellWay rm_X5_tellWay).room s m args below meth c H locs 0 0 (MQ below (va_Qv (fun (_ : Unit) => True) (bW dC dI (fun (u : Unit) => (wd19 cyI cyJ cyZ q_Tb q_Sk q_all q_apart q_PaI q_Sc q_Pk1 n_all a_all n_apart a_apart n_PaI res)) A) A) args s 0 0 A) (F0 m 0 ls []) := by
  obtain ⟨hx, hb, hr, hml, hown, hts, hlocks, hG, hA⟩ := id C0
  have hK := hG.1
  intro H locs hP hD hS ls hl
  unfold f_X5_tellWay at h
  refine lv_iconst (v := (0 : Int32)) hx hb dX5_tellWay_0 (by decide) ?_
  refine lv_istore (lv' := [(5, .int (0 : Int32)), (0, .ref q_Sk), (1, .int v1), (2, .int v2), (3, .int v3), (4, .ref q_PaI)]) hx hb dX5_tellWay_1 hl (by decide) rfl (fun ls hl => ?_)
  refine lv_iload_n hx hb dX5_tellWay_3 rfl (lv_at hl 4 rfl) ?_
  refine lv_istore (lv' := [(6, .int v3), (5, .int (0 : Int32)), (0, .ref q_Sk), (1, .int v1), (2, .int v2), (3, .int v3), (4, .ref q_PaI)]) hx hb dX5_tellWay_4 hl (by decide) rfl (fun ls hl => ?_)
  refine lv_iconst (v := (0 : Int32)) hx hb dX5_tellWay_6 (by decide) ?_
  refine lv_istore (lv' := [(7, .int (0 : Int32)), (6, .int v3), (5, .int (0 : Int32)), (0, .ref q_Sk), (1, .int v1), (2, .int v2), (3, .int v3), (4, .ref q_PaI)]) hx hb dX5_tellWay_7 hl (by decide) rfl (fun ls hl => ?_)
  exact k_X5_tellWay_9 C0 N res q_Tb q_Sk q_all q_apart q_PaI q_Sc q_Pk1 v1 v2 v3 n_all a_all n_apart a_apart n_PaI N (0 : Int32) v3 (0 : Int32) a_PaI h _ _ hP hD hS _ (lv_sub hl [3, 4, 5, 6, 7, 2, 1, 0] rfl)
set_option maxRecDepth 100000 in
set_option maxHeartbeats 4000000 in
theorem c_X5_tellWay (l : Launch) (dC : Nat → ClassId) (dI : Nat → Nat → Nat) (cyI cyJ cyZ : ClassId) (N : Nat) (res : (Nat → Int32)) (sz : Nat) (q_Tb : Nat) (q_Sk : Nat) (q_all : Nat) (q_apart : Nat) (q_PaI : Nat) (q_Sc : Nat) (q_Pk1 : Nat) (v1 : Int32) (v2 : Int32) (v3 : Int32) (n_all : Nat) (a_all : Nat → Int32) (n_apart : Nat) (a_apart : Nat → Int32) (n_PaI : Nat) (a_PaI : Nat → Int32) (h : f_X5_tellWay N v1 v2 v3 n_all a_all n_apart a_apart n_PaI a_PaI = some res) : Met l yX5_tellWay wsX5_tellWay rm_X5_tellWay (pC dC dI cyI cyJ cyZ [.ref q_Sk, .int v1, .int v2, .int v3, .ref q_PaI] sz (wd19 cyI cyJ cyZ q_Tb q_Sk q_all q_apart q_PaI q_Sc q_Pk1 n_all a_all n_apart a_apart n_PaI a_PaI)) (va_Qv (fun (_ : Unit) => True) (bW dC dI (fun (u : Unit) => (wd19 cyI cyJ cyZ q_Tb q_Sk q_all q_apart q_PaI q_Sc q_Pk1 n_all a_all n_apart a_apart n_PaI res)) (va_A (wd19 cyI cyJ cyZ q_Tb q_Sk q_all q_apart q_PaI q_Sc q_Pk1 n_all a_all n_apart a_apart n_PaI a_PaI) sz)) (va_A (wd19 cyI cyJ cyZ q_Tb q_Sk q_all q_apart q_PaI q_Sc q_Pk1 n_all a_all n_apart a_apart n_PaI a_PaI) sz)) 0 0 (va_A (wd19 cyI cyJ cyZ q_Tb q_Sk q_all q_apart q_PaI q_Sc q_Pk1 n_all a_all n_apart a_apart n_PaI a_PaI) sz) := by
  refine Met.ofW (cc := cX5_tellWay) (maxL := 10) (ret := none) (by decide) rfl ?_
  intro p e s m args below meth c s₁ B hml hv
  obtain ⟨rfl, hsz, hP, hG, hD0⟩ := hv
  have hx := B.exec
  have hb := B.bytes
  have hr := B.returns
  have hts := atoms_spec (ws := wsX5_tellWay) B.pre
  have hown : s.vm.findClass RX5 = some m.cls := findClass_of_methodNamed B.named
  have hlocks := B.notSynchronized
  subst hsz
  have hD := hD0.self (sz := s.heap.size)
  generalize hAe : va_A (wd19 cyI cyJ cyZ q_Tb q_Sk q_all q_apart q_PaI q_Sc q_Pk1 n_all a_all n_apart a_apart n_PaI a_PaI) s.heap.size = A at hD ⊢
  have hA : ∀ q : Nat, s.heap.size ≤ q → A q := fun q h => by rw [← hAe]; exact Or.inr h
  have hS : va_S A s.heap s.heap [] := va_S.rf
  have hl := lv_entry ([.ref q_Sk, .int v1, .int v2, .int v3, .ref q_PaI]) (n := 10) (Nat.le_of_ble_eq_true rfl)
  rw [lg_entry_eq]
  generalize (lg_sl ([.ref q_Sk, .int v1, .int v2, .int v3, .ref q_PaI]) ++ List.replicate (10 - (lg_sl ([.ref q_Sk, .int v1, .int v2, .int v3, .ref q_PaI])).length) Slot.unset).toArray = ls at hl ⊢
  have hl : lv_has ls 10 [(0, .ref q_Sk), (1, .int v1), (2, .int v2), (3, .int v3), (4, .ref q_PaI)] := hl
  exact k_X5_tellWay_0 ⟨hx, hb, hr, hml, hown, hts, hlocks, hG, hA⟩ N res q_Tb q_Sk q_all q_apart q_PaI q_Sc q_Pk1 v1 v2 v3 n_all a_all n_apart a_apart n_PaI a_PaI  h _ _ hP hD hS _ hl
/-- the cells Sc, Tb, Sk, row, all, apart -/
abbrev wd20 (cyI cyJ cyZ : ClassId) (q_Sc : Nat) (q_Tb : Nat) (q_Sk : Nat) (q_row : Nat) (q_all : Nat) (q_apart : Nat) (q_Pk1 : Nat) (n_row : Nat) (a_row : Nat → Int32) (n_all : Nat) (a_all : Nat → Int32) (n_apart : Nat) (a_apart : Nat → Int32) : va_W := [(q_Sc, .inr (4, [.ref q_row])), (q_Tb, .inr (7, [.ref q_Sc, .ref q_all, .ref q_apart])), (q_Sk, .inr (5, [.ref q_Tb, .ref q_Sc, .ref q_Pk1])), (q_row, .inl (cyI, n_row, .inl a_row)), (q_all, .inl (cyI, n_all, .inl a_all)), (q_apart, .inl (cyI, n_apart, .inl a_apart))]
abbrev rm_X5_howManyFall (MC MS : Nat) : Room := { frames := 2, cells := MC, slots := MS, locals := 51 }
theorem hd_X5_howManyFall : yX5_howManyFall.cls ≠ "java/lang/invoke/MethodHandle" ∧ yX5_howManyFall.cls ≠ "java/lang/invoke/VarHandle" ∧ (parseMethodDescriptor yX5_howManyFall.desc).map (fun d => d.parameters.length) = some 4 := by decide +kernel
theorem iw_X5_howManyFall_X4 : ∀ w ∈ wsX40, w ∈ wsX5_howManyFall := List.forall_mem_cons.mpr ⟨List.mem_of_getElem? (i := 38) rfl, fun _ h => absurd h List.not_mem_nil⟩
theorem iw_X5_howManyFall_X7 : ∀ w ∈ wsX70, w ∈ wsX5_howManyFall := List.forall_mem_cons.mpr ⟨List.mem_of_getElem? (i := 39) rfl, List.forall_mem_cons.mpr ⟨List.mem_of_getElem? (i := 40) rfl, List.forall_mem_cons.mpr ⟨List.mem_of_getElem? (i := 41) rfl, fun _ h => absurd h List.not_mem_nil⟩⟩⟩
theorem iw_X5_howManyFall_X5 : ∀ w ∈ wsX50, w ∈ wsX5_howManyFall := List.forall_mem_cons.mpr ⟨List.mem_of_getElem? (i := 35) rfl, List.forall_mem_cons.mpr ⟨List.mem_of_getElem? (i := 36) rfl, List.forall_mem_cons.mpr ⟨List.mem_of_getElem? (i := 37) rfl, fun _ h => absurd h List.not_mem_nil⟩⟩⟩
def j_X5_howManyFall_69 (N : Nat) (k_43 : (Int32 × Int32 × (Nat → Int32)) → Option (Int32 × Nat × (Nat → Int32))) (v3 : Int32) (v6 : Int32) (v7 : Int32) (n_row : Nat) (a_row : Nat → Int32) : Option (Int32 × Nat × (Nat → Int32)) :=
  if v7 < 0 ∨ n_row ≤ v7.toNatClampNeg then
    none
  else
    if (a_row v7.toNatClampNeg) ≤ 0 then
      xl (v7 + (1 : Int32)) fun y16z =>
      k_43 (v6, y16z, a_row)
    else
      if (v3 + (1 : Int32)) < (a_row v7.toNatClampNeg) then
        xl (v7 + (1 : Int32)) fun y18z =>
        k_43 (v6, y18z, a_row)
      else
        xl (v6 + (1 : Int32)) fun y19z =>
        xl (v7 + (1 : Int32)) fun y20z =>
        k_43 (y19z, y20z, a_row)
set_option maxRecDepth 100000 in
set_option maxHeartbeats 4000000 in
theorem k_X5_howManyFall_69 {p : Program} {l : Launch} {e : Env} {s : State} {m : MethodId} {args : Array Value} {below : List Frame} {meth : Method} {c : Code} {dC : Nat → ClassId} {dI : Nat → Nat → Nat} {cyI cyJ cyZ : ClassId} {A : Nat → Prop} (C0 : mC p s m meth c args cX5_howManyFall (some .int) 8 RX5 wsX5_howManyFall (gK dC dI cyI cyJ cyZ) A) (N : Nat) (MC MS : Nat) (res : Int32 × Nat × (Nat → Int32)) (q_Sc : Nat) (q_Tb : Nat) (q_Sk : Nat) (q_all : Nat) (q_apart : Nat) (q_Pk1 : Nat) (v1 : Int32) (v3 : Int32) (v4 : Int32) (n_row : Nat) (n_all : Nat) (a_all : Nat → Int32) (n_apart : Nat) (a_apart : Nat → Int32) (gc : Nat) (gs : Nat) (k_43 : (Int32 × Int32 × (Nat → Int32)) → Option (Int32 × Nat × (Nat → Int32))) (hk_43 : ∀ (v6 : Int32) (v7 : Int32) (a_row : Nat → Int32) (q_row : Nat), k_43 (v6, v7, a_row) = some res → ∀ (H : Heap) (locs : List Loc), va_P (dC, dI) vwCl (wd20 cyI cyJ cyZ q_Sc q_Tb q_Sk q_row q_all q_apart q_Pk1 n_row a_row n_all a_all n_apart a_apart) H → va_D A (wd20 cyI cyJ cyZ q_Sc q_Tb q_Sk q_row q_all q_apart q_Pk1 n_row a_row n_all a_all n_apart a_apart) → va_S A s.heap H locs → ∀ (ls : Array Slot), lv_has ls 8 [(0, .ref q_Sk), (1, .int v1), (3, .int v3), (4, .int v4), (5, .ref q_row), (6, .int v6), (7, .int v7)] → W p l e (headSpec wsX5_howManyFall (rm_X5_howManyFall MC MS)).room s m args below meth c H locs gc gs (MQ below (va_Qi (fun (r : Int32) (_ : Nat) => r = res.1) (bW dC dI (fun (u : Nat) => (wd20 cyI cyJ cyZ q_Sc q_Tb q_Sk u q_all q_apart q_Pk1 res.2.1 res.2.2 n_all a_all n_apart a_apart)) A) A) args s MC MS A) (F0 m 43 ls [])) (v6 : Int32) (v7 : Int32) (a_row : Nat → Int32) (q_row : Nat) (h : j_X5_howManyFall_69 N k_43 v3 v6 v7 n_row a_row = some res) : ∀ (H : Heap) (locs : List Loc), va_P (dC, dI) vwCl (wd20 cyI cyJ cyZ q_Sc q_Tb q_Sk q_row q_all q_apart q_Pk1 n_row a_row n_all a_all n_apart a_apart) H → va_D A (wd20 cyI cyJ cyZ q_Sc q_Tb q_Sk q_row q_all q_apart q_Pk1 n_row a_row n_all a_all n_apart a_apart) → va_S A s.heap H locs → ∀ (ls : Array Slot), lv_has ls 8 [(0, .ref q_Sk), (1, .int v1), (3, .int v3), (4, .int v4), (5, .ref q_row), (6, .int v6), (7, .int v7)] → W p l e (headSpec wsX5_howManyFall (rm_X5_howManyFall MC MS)).room s m args below meth c H locs gc gs (MQ below (va_Qi (fun (r : Int32) (_ : Nat) => r = res.1) (bW dC dI (fun (u : Nat) => (wd20 cyI cyJ cyZ q_Sc q_Tb q_Sk u q_all q_apart q_Pk1 res.2.1 res.2.2 n_all a_all n_apart a_apart)) A) A) args s MC MS A) (F0 m 69 ls []) := by
  obtain ⟨hx, hb, hr, hml, hown, hts, hlocks, hG, hA⟩ := id C0
  have hK := hG.1
  intro H locs hP hD hS ls hl
  unfold j_X5_howManyFall_69 at h
  refine lv_aload hx hb dX5_howManyFall_69 (lv_at hl 4 rfl) ?_
  refine lv_iload hx hb dX5_howManyFall_71 (lv_at hl 6 rfl) ?_
  obtain ⟨b14z, h⟩ := xn h
  refine va_iald hx hb hK hP 3 0 rfl rfl b14z dX5_howManyFall_73 ?_
  refine lv_if_le (tgt := 91) hx hb dX5_howManyFall_74 (by decide) (fun c15z => ?_) (fun c15z => ?_)
  · have h := xt h c15z
    obtain ⟨y16z, ey16z⟩ : ∃ z : Int32, z = v7 + (1 : Int32) := ⟨_, rfl⟩
    have h := xl_at h ey16z
    refine lv_iinc (v := y16z) (lv' := [(7, .int y16z), (0, .ref q_Sk), (1, .int v1), (3, .int v3), (4, .int v4), (5, .ref q_row), (6, .int v6)]) hx hb dX5_howManyFall_91 hl (k := 6) rfl (by rw [ey16z]; rfl) (by decide) rfl (fun ls hl => ?_)
    refine lv_goto (tgt := 43) hx hb dX5_howManyFall_94 (by decide) ?_
    exact hk_43 v6 y16z a_row q_row h _ _ hP hD hS _ (lv_sub hl [1, 2, 3, 4, 5, 6, 0] rfl)
  · have h := xf h c15z
    refine lv_aload hx hb dX5_howManyFall_77 (lv_at hl 4 rfl) ?_
    refine lv_iload hx hb dX5_howManyFall_79 (lv_at hl 6 rfl) ?_
    refine va_iald hx hb hK hP 3 0 rfl rfl b14z dX5_howManyFall_81 ?_
    refine lv_iload_n hx hb dX5_howManyFall_82 rfl (lv_at hl 2 rfl) ?_
    refine lv_iconst (v := (1 : Int32)) hx hb dX5_howManyFall_83 (by decide) ?_
    refine lv_iadd hx hb dX5_howManyFall_84 ?_
    refine lv_icmp_gt (tgt := 91) hx hb dX5_howManyFall_85 (by decide) (fun c17z => ?_) (fun c17z => ?_)
    · have h := xt h c17z
      obtain ⟨y18z, ey18z⟩ : ∃ z : Int32, z = v7 + (1 : Int32) := ⟨_, rfl⟩
      have h := xl_at h ey18z
      refine lv_iinc (v := y18z) (lv' := [(7, .int y18z), (0, .ref q_Sk), (1, .int v1), (3, .int v3), (4, .int v4), (5, .ref q_row), (6, .int v6)]) hx hb dX5_howManyFall_91 hl (k := 6) rfl (by rw [ey18z]; rfl) (by decide) rfl (fun ls hl => ?_)
      refine lv_goto (tgt := 43) hx hb dX5_howManyFall_94 (by decide) ?_
      exact hk_43 v6 y18z a_row q_row h _ _ hP hD hS _ (lv_sub hl [1, 2, 3, 4, 5, 6, 0] rfl)
    · have h := xf h c17z
      obtain ⟨y19z, ey19z⟩ : ∃ z : Int32, z = v6 + (1 : Int32) := ⟨_, rfl⟩
      have h := xl_at h ey19z
      refine lv_iinc (v := y19z) (lv' := [(6, .int y19z), (0, .ref q_Sk), (1, .int v1), (3, .int v3), (4, .int v4), (5, .ref q_row), (7, .int v7)]) hx hb dX5_howManyFall_88 hl (k := 5) rfl (by rw [ey19z]; rfl) (by decide) rfl (fun ls hl => ?_)
      obtain ⟨y20z, ey20z⟩ : ∃ z : Int32, z = v7 + (1 : Int32) := ⟨_, rfl⟩
      have h := xl_at h ey20z
      refine lv_iinc (v := y20z) (lv' := [(7, .int y20z), (6, .int y19z), (0, .ref q_Sk), (1, .int v1), (3, .int v3), (4, .int v4), (5, .ref q_row)]) hx hb dX5_howManyFall_91 hl (k := 6) rfl (by rw [ey20z]; rfl) (by decide) rfl (fun ls hl => ?_)
      refine lv_goto (tgt := 43) hx hb dX5_howManyFall_94 (by decide) ?_
      exact hk_43 y19z y20z a_row q_row h _ _ hP hD hS _ (lv_sub hl [2, 3, 4, 5, 6, 1, 0] rfl)
def s_X5_howManyFall_43 (N : Nat) (MC : Nat) (MS : Nat) (v1 : Int32) (v3 : Int32) (v4 : Int32) (n_row : Nat) (n_all : Nat) (a_all : Nat → Int32) (n_apart : Nat) (a_apart : Nat → Int32) (gc : Nat) (gs : Nat) (k_43 : (Int32 × Int32 × (Nat → Int32)) → Option (Int32 × Nat × (Nat → Int32))) (v6 : Int32) (v7 : Int32) (a_row : Nat → Int32) : Option (Int32 × Nat × (Nat → Int32)) :=
  if v4 < v7 then
    if gc ≤ MC ∧ gs ≤ MS then
      some (v6, n_row, a_row)
    else
      none
  else
    if v7 < 0 ∨ n_row ≤ v7.toNatClampNeg then
      none
    else
      if (a_row v7.toNatClampNeg) = 0 then
        if gc ≤ MC ∧ gs ≤ MS then
          Option.bind (f_X5_tellWay N v1 v4 v7 n_all a_all n_apart a_apart n_row a_row) fun r21z =>
          j_X5_howManyFall_69 N k_43 v3 v6 v7 n_row r21z
        else
          none
      else
        j_X5_howManyFall_69 N k_43 v3 v6 v7 n_row a_row
def l_X5_howManyFall_43 (N : Nat) (MC : Nat) (MS : Nat) (v1 : Int32) (v3 : Int32) (v4 : Int32) (n_row : Nat) (n_all : Nat) (a_all : Nat → Int32) (n_apart : Nat) (a_apart : Nat → Int32) (gc : Nat) (gs : Nat) (n : Nat) (z : Int32 × Int32 × (Nat → Int32)) : Option (Int32 × Nat × (Nat → Int32)) := lp (fun k z => s_X5_howManyFall_43 N MC MS v1 v3 v4 n_row n_all a_all n_apart a_apart gc gs k z.1 z.2.1 z.2.2) n z
set_option maxRecDepth 100000 in
set_option maxHeartbeats 4000000 in
theorem k_X5_howManyFall_43 {p : Program} {l : Launch} {e : Env} {s : State} {m : MethodId} {args : Array Value} {below : List Frame} {meth : Method} {c : Code} {dC : Nat → ClassId} {dI : Nat → Nat → Nat} {cyI cyJ cyZ : ClassId} {A : Nat → Prop} (C0 : mC p s m meth c args cX5_howManyFall (some .int) 8 RX5 wsX5_howManyFall (gK dC dI cyI cyJ cyZ) A) (N : Nat) (MC MS : Nat) (res : Int32 × Nat × (Nat → Int32)) (q_Sc : Nat) (q_Tb : Nat) (q_Sk : Nat) (q_all : Nat) (q_apart : Nat) (q_Pk1 : Nat) (v1 : Int32) (v3 : Int32) (v4 : Int32) (n_row : Nat) (n_all : Nat) (a_all : Nat → Int32) (n_apart : Nat) (a_apart : Nat → Int32) (gc : Nat) (gs : Nat) : ∀ (n : Nat) (v6 : Int32) (v7 : Int32) (a_row : Nat → Int32) (q_row : Nat), l_X5_howManyFall_43 N MC MS v1 v3 v4 n_row n_all a_all n_apart a_apart gc gs n (v6, v7, a_row) = some res → ∀ (H : Heap) (locs : List Loc), va_P (dC, dI) vwCl (wd20 cyI cyJ cyZ q_Sc q_Tb q_Sk q_row q_all q_apart q_Pk1 n_row a_row n_all a_all n_apart a_apart) H → va_D A (wd20 cyI cyJ cyZ q_Sc q_Tb q_Sk q_row q_all q_apart q_Pk1 n_row a_row n_all a_all n_apart a_apart) → va_S A s.heap H locs → ∀ (ls : Array Slot), lv_has ls 8 [(0, .ref q_Sk), (1, .int v1), (3, .int v3), (4, .int v4), (5, .ref q_row), (6, .int v6), (7, .int v7)] → W p l e (headSpec wsX5_howManyFall (rm_X5_howManyFall MC MS)).room s m args below meth c H locs gc gs (MQ below (va_Qi (fun (r : Int32) (_ : Nat) => r = res.1) (bW dC dI (fun (u : Nat) => (wd20 cyI cyJ cyZ q_Sc q_Tb q_Sk u q_all q_apart q_Pk1 res.2.1 res.2.2 n_all a_all n_apart a_apart)) A) A) args s MC MS A) (F0 m 43 ls []) := by
  obtain ⟨hx, hb, hr, hml, hown, hts, hlocks, hG, hA⟩ := id C0
  have hK := hG.1
  intro n
  induction n with
  | zero =>
    intro v6 v7 a_row q_row h
    cases h
  | succ n ih =>
    intro v6 v7 a_row q_row h H locs hP hD hS ls hl
    have h : s_X5_howManyFall_43 N MC MS v1 v3 v4 n_row n_all a_all n_apart a_apart gc gs (l_X5_howManyFall_43 N MC MS v1 v3 v4 n_row n_all a_all n_apart a_apart gc gs n) v6 v7 a_row = some res := h
    unfold s_X5_howManyFall_43 at h
    refine lv_iload hx hb dX5_howManyFall_43 (lv_at hl 6 rfl) ?_
    refine lv_iload hx hb dX5_howManyFall_45 (lv_at hl 3 rfl) ?_
    refine lv_icmp_gt (tgt := 97) hx hb dX5_howManyFall_47 (by decide) (fun c10z => ?_) (fun c10z => ?_)
    · have h := xt h c10z
      refine lv_iload hx hb dX5_howManyFall_97 (lv_at hl 5 rfl) ?_
      obtain ⟨b11z, h⟩ := xa h
      refine W.widen (k := MC) (n := MS) b11z.1 b11z.2 ?_
      obtain rfl := Option.some.inj h
      exact W.iret (v := v6) hx hb hr (fun t ht hW => ⟨⟨_, q_row, rfl, rfl, by rw [ht]; exact hP, hD⟩, hS.F ht⟩) hS.2.2 dX5_howManyFall_99 hlocks
    · have h := xf h c10z
      refine lv_aload hx hb dX5_howManyFall_50 (lv_at hl 4 rfl) ?_
      refine lv_iload hx hb dX5_howManyFall_52 (lv_at hl 6 rfl) ?_
      obtain ⟨b12z, h⟩ := xn h
      refine va_iald hx hb hK hP 3 0 rfl rfl b12z dX5_howManyFall_54 ?_
      refine lv_if_ne (tgt := 69) hx hb dX5_howManyFall_55 (by decide) (fun c13z => ?_) (fun c13z => ?_)
      · have h := xf h c13z
        exact k_X5_howManyFall_69 C0 N MC MS res q_Sc q_Tb q_Sk q_all q_apart q_Pk1 v1 v3 v4 n_row n_all a_all n_apart a_apart gc gs _ ih v6 v7 a_row q_row h _ _ hP hD hS _ (lv_sub hl [0, 1, 2, 3, 4, 5, 6] rfl)
      · have h := xt h c13z
        refine lv_aload_n hx hb dX5_howManyFall_58 rfl (lv_at hl 0 rfl) ?_
        refine lv_iload_n hx hb dX5_howManyFall_59 rfl (lv_at hl 1 rfl) ?_
        refine lv_iload hx hb dX5_howManyFall_60 (lv_at hl 3 rfl) ?_
        refine lv_iload hx hb dX5_howManyFall_62 (lv_at hl 6 rfl) ?_
        refine lv_aload hx hb dX5_howManyFall_64 (lv_at hl 4 rfl) ?_
        obtain ⟨b22z, h⟩ := xa h
        obtain ⟨r21z, hr21z, h⟩ := xb_at h
        have hPc := hP.sub (ws' := (wd19 cyI cyJ cyZ q_Tb q_Sk q_all q_apart q_row q_Sc q_Pk1 n_all a_all n_apart a_apart n_row a_row)) [1, 2, 4, 5, 3] rfl
        have hDc := hD.sub (ws' := (wd19 cyI cyJ cyZ q_Tb q_Sk q_all q_apart q_row q_Sc q_Pk1 n_all a_all n_apart a_apart n_row a_row)) [1, 2, 4, 5, 3] (by decide) rfl
        refine cal_v [1, 2, 4, 5, 3] [0] (va_runV (As := [.int v1, .int v4, .int v7, .ref q_row]) (rest := []) ⟨hx, hb, hml, hown, hts⟩ (c_X5_tellWay l dC dI cyI cyJ cyZ N r21z H.size q_Tb q_Sk q_all q_apart q_row q_Sc q_Pk1 v1 v4 v7 n_all a_all n_apart a_apart n_row a_row hr21z) (cwV 4 hts gX5_howManyFall_X5_tellWay rfl rfl rfl ⟨rfl, hd_X5_tellWay⟩ ⟨Nat.le_of_ble_eq_true rfl, Nat.le_of_ble_eq_true rfl⟩) ⟨pC.blind, va_recv hK hPc (ci := 5) (q0 := 1) rfl rfl, pC.pre hPc hG hDc⟩ rfl rfl hl.1 rfl (lv_room (Nat.le_of_ble_eq_true rfl)) dX5_howManyFall_66 ⟨b22z.1, b22z.2⟩) hP hD hS hA rfl rfl rfl (by decide) (fun u23z H locs _ hP hD hS => ?_)
        have hP : va_P (dC, dI) vwCl (wd20 cyI cyJ cyZ q_Sc q_Tb q_Sk q_row q_all q_apart q_Pk1 n_row r21z n_all a_all n_apart a_apart) H := hP.sub [0, 1, 2, 5, 3, 4] rfl
        have hD : va_D A (wd20 cyI cyJ cyZ q_Sc q_Tb q_Sk q_row q_all q_apart q_Pk1 n_row r21z n_all a_all n_apart a_apart) := hD.sub [0, 1, 2, 5, 3, 4] (by decide) rfl
        exact k_X5_howManyFall_69 C0 N MC MS res q_Sc q_Tb q_Sk q_all q_apart q_Pk1 v1 v3 v4 n_row n_all a_all n_apart a_apart gc gs _ ih v6 v7 r21z q_row h _ _ hP hD hS _ (lv_sub hl [0, 1, 2, 3, 4, 5, 6] rfl)
def f_X5_howManyFall (N : Nat) (MC : Nat) (MS : Nat) (v1 : Int32) (v2 : Int32) (v3 : Int32) (v4 : Int32) (n_row : Nat) (a_row : Nat → Int32) (n_all : Nat) (a_all : Nat → Int32) (n_apart : Nat) (a_apart : Nat → Int32) : Option (Int32 × Nat × (Nat → Int32)) :=
  if v2 ≤ v4 then
    if 0 + (if nI n_row = 0 then 1 else 0) ≤ MC ∧ 0 + (if nI n_row = 0 then 50001 else 0) ≤ MS then
      Option.bind (f_X4_cleared N (if nI n_row = 0 then 1 else 0) (if nI n_row = 0 then 50001 else 0)  n_row a_row) fun r2z =>
      if v2 < (1 : Int32) then
        if 0 + (if nI n_row = 0 then 1 else 0) ≤ MC ∧ 0 + (if nI n_row = 0 then 50001 else 0) ≤ MS then
          some ((0 : Int32), r2z.1, r2z.2)
        else
          none
      else
        if v4 < (nI r2z.1) then
          if v2 < 0 ∨ r2z.1 ≤ v2.toNatClampNeg then
            none
          else
            l_X5_howManyFall_43 N MC MS v1 v3 v4 r2z.1 n_all a_all n_apart a_apart (0 + (if nI n_row = 0 then 1 else 0)) (0 + (if nI n_row = 0 then 50001 else 0)) N ((0 : Int32), (1 : Int32), upd r2z.2 v2.toNatClampNeg (1 : Int32))
        else
          if 0 + (if nI n_row = 0 then 1 else 0) ≤ MC ∧ 0 + (if nI n_row = 0 then 50001 else 0) ≤ MS then
            some ((0 : Int32), r2z.1, r2z.2)
          else
            none
    else
      none
  else
    if 0 ≤ MC ∧ 0 ≤ MS then
      some ((0 : Int32), n_row, a_row)
    else
      none
set_option maxRecDepth 100000 in
set_option maxHeartbeats 4000000 in
theorem k_X5_howManyFall_0 {p : Program} {l : Launch} {e : Env} {s : State} {m : MethodId} {args : Array Value} {below : List Frame} {meth : Method} {c : Code} {dC : Nat → ClassId} {dI : Nat → Nat → Nat} {cyI cyJ cyZ : ClassId} {A : Nat → Prop} (C0 : mC p s m meth c args cX5_howManyFall (some .int) 8 RX5 wsX5_howManyFall (gK dC dI cyI cyJ cyZ) A) (N : Nat) (MC MS : Nat) (res : Int32 × Nat × (Nat → Int32)) (q_Sc : Nat) (q_Tb : Nat) (q_Sk : Nat) (q_all : Nat) (q_apart : Nat) (q_Pk1 : Nat) (v1 : Int32) (v2 : Int32) (v3 : Int32) (v4 : Int32) (n_row : Nat) (a_row : Nat → Int32) (n_all : Nat) (a_all : Nat → Int32) (n_apart : Nat) (a_apart : Nat → Int32) (q_row : Nat) (h : f_X5_howManyFall N MC MS v1 v2 v3 v4 n_row a_row n_all a_all n_apart a_apart = some res) : ∀ (H : Heap) (locs : List Loc), va_P (dC, dI) vwCl (wd20 cyI cyJ cyZ q_Sc q_Tb q_Sk q_row q_all q_apart q_Pk1 n_row a_row n_all a_all n_apart a_apart) H → va_D A (wd20 cyI cyJ cyZ q_Sc q_Tb q_Sk q_row q_all q_apart q_Pk1 n_row a_row n_all a_all n_apart a_apart) → va_S A s.heap H locs → ∀ (ls : Array Slot), lv_has ls 8 [(0, .ref q_Sk), (1, .int v1), (2, .int v2), (3, .int v3), (4, .int v4)] → W p l e (headSpec wsX5_howManyFall (rm_X5_howManyFall MC MS)).room s m args below meth c H locs 0 0 (MQ below (va_Qi (fun (r : Int32) (_ : Nat) => r = res.1) (bW dC dI (fun (u : Nat) => (wd20 cyI cyJ cyZ q_Sc q_Tb q_Sk u q_all q_apart q_Pk1 res.2.1 res.2.2 n_all a_all n_apart a_apart)) A) A) args s MC MS A) (F0 m 0 ls []) := by
  obtain ⟨hx, hb, hr, hml, hown, hts, hlocks, hG, hA⟩ := id C0
  have hK := hG.1
  intro H locs hP hD hS ls hl
  unfold f_X5_howManyFall at h
  refine lv_iload_n hx hb dX5_howManyFall_0 rfl (lv_at hl 2 rfl) ?_
  refine lv_iload hx hb dX5_howManyFall_1 (lv_at hl 4 rfl) ?_
  refine lv_icmp_le (tgt := 8) hx hb dX5_howManyFall_3 (by decide) (fun c1z => ?_) (fun c1z => ?_)
  · have h := xt h c1z
    refine lv_aload_n hx hb dX5_howManyFall_8 rfl (lv_at hl 0 rfl) ?_
    refine va_get (D := (dC, dI)) (ci := 5) (v := .ref q_Sc) (C := RX5) (T := TX5) (N := 3) hx hb hts iw_X5_howManyFall_X5 hown hK hP 2 rfl rfl 1 (by decide) (hts (.fieldLink RX5 22 "GoesInto$Seeker" "scratch" "LGoesInto$Scratch;") (List.mem_of_getElem? (i := 1) rfl)) (fun _ h9 => h9) rfl dX5_howManyFall_9 ?_
    obtain ⟨b3z, h⟩ := xa h
    obtain ⟨r2z, hr2z, h⟩ := xb_at h
    have hPc := hP.sub (ws' := (wd10 cyI cyJ cyZ q_Sc q_row n_row a_row)) [0, 3] rfl
    have hDc := hD.sub (ws' := (wd10 cyI cyJ cyZ q_Sc q_row n_row a_row)) [0, 3] (by decide) rfl
    refine cal_r [0, 3] [1, 2, 4, 5] (va_runV (As := []) (rest := []) ⟨hx, hb, hml, hown, hts⟩ (c_X4_cleared l dC dI cyI cyJ cyZ N (if nI n_row = 0 then 1 else 0) (if nI n_row = 0 then 50001 else 0) r2z H.size q_Sc q_row  n_row a_row hr2z) (cwV 0 hts gX5_howManyFall_X4_cleared rfl rfl rfl ⟨rfl, hd_X4_cleared⟩ ⟨Nat.le_of_ble_eq_true rfl, Nat.le_of_ble_eq_true rfl⟩) ⟨pC.blind, va_recv hK hPc (ci := 4) (q0 := 0) rfl rfl, pC.pre hPc hG hDc⟩ rfl rfl hl.1 rfl (lv_room (Nat.le_of_ble_eq_true rfl)) dX5_howManyFall_12 ⟨b3z.1, b3z.2⟩) hP hD hS hA rfl rfl rfl (by decide) (fun x5z u4z H locs _ hP hD hS => ?_)
    have hP : va_P (dC, dI) vwCl (wd20 cyI cyJ cyZ q_Sc q_Tb q_Sk x5z q_all q_apart q_Pk1 r2z.1 r2z.2 n_all a_all n_apart a_apart) H := hP.sub [4, 0, 1, 5, 2, 3] rfl
    have hD : va_D A (wd20 cyI cyJ cyZ q_Sc q_Tb q_Sk x5z q_all q_apart q_Pk1 r2z.1 r2z.2 n_all a_all n_apart a_apart) := hD.sub [4, 0, 1, 5, 2, 3] (by decide) rfl
    refine lv_astore (lv' := [(5, .ref x5z), (0, .ref q_Sk), (1, .int v1), (2, .int v2), (3, .int v3), (4, .int v4)]) hx hb dX5_howManyFall_15 hl (by decide) rfl (fun ls hl => ?_)
    refine lv_iload_n hx hb dX5_howManyFall_17 rfl (lv_at hl 3 rfl) ?_
    refine lv_iconst (v := (1 : Int32)) hx hb dX5_howManyFall_18 (by decide) ?_
    refine lv_icmp_lt (tgt := 30) hx hb dX5_howManyFall_19 (by decide) (fun c6z => ?_) (fun c6z => ?_)
    · have h := xt h c6z
      refine lv_iconst (v := (0 : Int32)) hx hb dX5_howManyFall_30 (by decide) ?_
      obtain ⟨b7z, h⟩ := xa h
      refine W.widen (k := MC) (n := MS) b7z.1 b7z.2 ?_
      obtain rfl := Option.some.inj h
      exact W.iret (v := (0 : Int32)) hx hb hr (fun t ht hW => ⟨⟨_, x5z, rfl, rfl, by rw [ht]; exact hP, hD⟩, hS.F ht⟩) hS.2.2 dX5_howManyFall_31 hlocks
    · have h := xf h c6z
      refine lv_iload hx hb dX5_howManyFall_22 (lv_at hl 5 rfl) ?_
      refine lv_aload hx hb dX5_howManyFall_24 (lv_at hl 0 rfl) ?_
      refine va_alen (v := nI r2z.1) hx hb hK hP 3 0 rfl rfl rfl dX5_howManyFall_26 ?_
      refine lv_icmp_lt (tgt := 32) hx hb dX5_howManyFall_27 (by decide) (fun c8z => ?_) (fun c8z => ?_)
      · have h := xt h c8z
        refine lv_aload hx hb dX5_howManyFall_32 (lv_at hl 0 rfl) ?_
        refine lv_iload_n hx hb dX5_howManyFall_34 rfl (lv_at hl 3 rfl) ?_
        refine lv_iconst (v := (1 : Int32)) hx hb dX5_howManyFall_35 (by decide) ?_
        obtain ⟨b9z, h⟩ := xn h
        refine va_iast hx hb hK hP hD hS 3 0 rfl rfl b9z dX5_howManyFall_36 (fun H locs hP hD hS => ?_)
        have hP : va_P (dC, dI) vwCl (wd20 cyI cyJ cyZ q_Sc q_Tb q_Sk x5z q_all q_apart q_Pk1 r2z.1 (upd r2z.2 v2.toNatClampNeg (1 : Int32)) n_all a_all n_apart a_apart) H := hP
        have hD : va_D A (wd20 cyI cyJ cyZ q_Sc q_Tb q_Sk x5z q_all q_apart q_Pk1 r2z.1 (upd r2z.2 v2.toNatClampNeg (1 : Int32)) n_all a_all n_apart a_apart) := hD
        refine lv_iconst (v := (0 : Int32)) hx hb dX5_howManyFall_37 (by decide) ?_
        refine lv_istore (lv' := [(6, .int (0 : Int32)), (5, .ref x5z), (0, .ref q_Sk), (1, .int v1), (2, .int v2), (3, .int v3), (4, .int v4)]) hx hb dX5_howManyFall_38 hl (by decide) rfl (fun ls hl => ?_)
        refine lv_iconst (v := (1 : Int32)) hx hb dX5_howManyFall_40 (by decide) ?_
        refine lv_istore (lv' := [(7, .int (1 : Int32)), (6, .int (0 : Int32)), (5, .ref x5z), (0, .ref q_Sk), (1, .int v1), (2, .int v2), (3, .int v3), (4, .int v4)]) hx hb dX5_howManyFall_41 hl (by decide) rfl (fun ls hl => ?_)
        exact k_X5_howManyFall_43 C0 N MC MS res q_Sc q_Tb q_Sk q_all q_apart q_Pk1 v1 v3 v4 r2z.1 n_all a_all n_apart a_apart (0 + (if nI n_row = 0 then 1 else 0)) (0 + (if nI n_row = 0 then 50001 else 0)) N (0 : Int32) (1 : Int32) (upd r2z.2 v2.toNatClampNeg (1 : Int32)) x5z h _ _ hP hD hS _ (lv_sub hl [3, 4, 6, 7, 2, 1, 0] rfl)
      · have h := xf h c8z
        refine lv_iconst (v := (0 : Int32)) hx hb dX5_howManyFall_30 (by decide) ?_
        obtain ⟨b25z, h⟩ := xa h
        refine W.widen (k := MC) (n := MS) b25z.1 b25z.2 ?_
        obtain rfl := Option.some.inj h
        exact W.iret (v := (0 : Int32)) hx hb hr (fun t ht hW => ⟨⟨_, x5z, rfl, rfl, by rw [ht]; exact hP, hD⟩, hS.F ht⟩) hS.2.2 dX5_howManyFall_31 hlocks
  · have h := xf h c1z
    refine lv_iconst (v := (0 : Int32)) hx hb dX5_howManyFall_6 (by decide) ?_
    obtain ⟨b26z, h⟩ := xa h
    refine W.widen (k := MC) (n := MS) b26z.1 b26z.2 ?_
    obtain rfl := Option.some.inj h
    exact W.iret (v := (0 : Int32)) hx hb hr (fun t ht hW => ⟨⟨_, q_row, rfl, rfl, by rw [ht]; exact hP, hD⟩, hS.F ht⟩) hS.2.2 dX5_howManyFall_7 hlocks
set_option maxRecDepth 100000 in
set_option maxHeartbeats 4000000 in
theorem c_X5_howManyFall (l : Launch) (dC : Nat → ClassId) (dI : Nat → Nat → Nat) (cyI cyJ cyZ : ClassId) (N : Nat) (MC MS : Nat) (res : Int32 × Nat × (Nat → Int32)) (sz : Nat) (q_Sc : Nat) (q_Tb : Nat) (q_Sk : Nat) (q_row : Nat) (q_all : Nat) (q_apart : Nat) (q_Pk1 : Nat) (v1 : Int32) (v2 : Int32) (v3 : Int32) (v4 : Int32) (n_row : Nat) (a_row : Nat → Int32) (n_all : Nat) (a_all : Nat → Int32) (n_apart : Nat) (a_apart : Nat → Int32) (h : f_X5_howManyFall N MC MS v1 v2 v3 v4 n_row a_row n_all a_all n_apart a_apart = some res) : Met l yX5_howManyFall wsX5_howManyFall (rm_X5_howManyFall MC MS) (pC dC dI cyI cyJ cyZ [.ref q_Sk, .int v1, .int v2, .int v3, .int v4] sz (wd20 cyI cyJ cyZ q_Sc q_Tb q_Sk q_row q_all q_apart q_Pk1 n_row a_row n_all a_all n_apart a_apart)) (va_Qi (fun (r : Int32) (_ : Nat) => r = res.1) (bW dC dI (fun (u : Nat) => (wd20 cyI cyJ cyZ q_Sc q_Tb q_Sk u q_all q_apart q_Pk1 res.2.1 res.2.2 n_all a_all n_apart a_apart)) (va_A (wd20 cyI cyJ cyZ q_Sc q_Tb q_Sk q_row q_all q_apart q_Pk1 n_row a_row n_all a_all n_apart a_apart) sz)) (va_A (wd20 cyI cyJ cyZ q_Sc q_Tb q_Sk q_row q_all q_apart q_Pk1 n_row a_row n_all a_all n_apart a_apart) sz)) MC MS (va_A (wd20 cyI cyJ cyZ q_Sc q_Tb q_Sk q_row q_all q_apart q_Pk1 n_row a_row n_all a_all n_apart a_apart) sz) := by
  refine Met.ofW (cc := cX5_howManyFall) (maxL := 8) (ret := (some .int)) (by decide) rfl ?_
  intro p e s m args below meth c s₁ B hml hv
  obtain ⟨rfl, hsz, hP, hG, hD0⟩ := hv
  have hx := B.exec
  have hb := B.bytes
  have hr := B.returns
  have hts := atoms_spec (ws := wsX5_howManyFall) B.pre
  have hown : s.vm.findClass RX5 = some m.cls := findClass_of_methodNamed B.named
  have hlocks := B.notSynchronized
  subst hsz
  have hD := hD0.self (sz := s.heap.size)
  generalize hAe : va_A (wd20 cyI cyJ cyZ q_Sc q_Tb q_Sk q_row q_all q_apart q_Pk1 n_row a_row n_all a_all n_apart a_apart) s.heap.size = A at hD ⊢
  have hA : ∀ q : Nat, s.heap.size ≤ q → A q := fun q h => by rw [← hAe]; exact Or.inr h
  have hS : va_S A s.heap s.heap [] := va_S.rf
  have hl := lv_entry ([.ref q_Sk, .int v1, .int v2, .int v3, .int v4]) (n := 8) (Nat.le_of_ble_eq_true rfl)
  rw [lg_entry_eq]
  generalize (lg_sl ([.ref q_Sk, .int v1, .int v2, .int v3, .int v4]) ++ List.replicate (8 - (lg_sl ([.ref q_Sk, .int v1, .int v2, .int v3, .int v4])).length) Slot.unset).toArray = ls at hl ⊢
  have hl : lv_has ls 8 [(0, .ref q_Sk), (1, .int v1), (2, .int v2), (3, .int v3), (4, .int v4)] := hl
  exact k_X5_howManyFall_0 ⟨hx, hb, hr, hml, hown, hts, hlocks, hG, hA⟩ N MC MS res q_Sc q_Tb q_Sk q_all q_apart q_Pk1 v1 v2 v3 v4 n_row a_row n_all a_all n_apart a_apart q_row h _ _ hP hD hS _ hl
