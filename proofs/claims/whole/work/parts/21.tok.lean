abbrev rm_J1_canEncode_9a6ad : Room := { frames := 0, cells := 0, slots := 0, locals := 0 }
theorem hd_J1_canEncode_9a6ad : yJ1_canEncode_9a6ad.cls ≠ "java/lang/invoke/MethodHandle" ∧ yJ1_canEncode_9a6ad.cls ≠ "java/lang/invoke/VarHandle" ∧ (parseMethodDescriptor yJ1_canEncode_9a6ad.desc).map (fun d => d.parameters.length) = some 1 := by decide +kernel
def f_J1_canEncode_9a6ad (N : Nat) (v0 : Int32) : Option (Int32) :=
  if v0 < 0 then
    some (0 : Int32)
  else
    if (255 : Int32) < v0 then
      some (0 : Int32)
    else
      some (1 : Int32)
set_option maxRecDepth 100000 in
set_option maxHeartbeats 4000000 in
theorem k_J1_canEncode_9a6ad_0 {p : Program} {l : Launch} {e : Env} {s : State} {m : MethodId} {args : Array Value} {below : List Frame} {meth : Method} {c : Code} {dC : Nat → ClassId} {dI : Nat → Nat → Nat} {cyI cyJ cyZ : ClassId} {A : Nat → Prop} (C0 : mC p s m meth c args cJ1_canEncode_9a6ad (some .boolean) 1 RJ1 wsJ1_canEncode_9a6ad (gK dC dI cyI cyJ cyZ) A) (N : Nat) (res : Int32) (v0 : Int32) (h : f_J1_canEncode_9a6ad N v0 = some res) : ∀ (H : Heap) (locs : List Loc), va_P (dC, dI) vwCl (wd37 cyI cyJ cyZ) H → va_D A (wd37 cyI cyJ cyZ) → va_S A s.heap H locs → ∀ (ls : Array Slot), lv_has ls 1 [(0, .int v0)] → W p l e (headSpec wsJ1_canEncode_9a6ad rm_J1_canEncode_9a6ad).room s m args below meth c H locs 0 0 (MQ below (va_Qi (fun (r : Int32) (_ : Unit) => r = res) (bW dC dI (fun (u : Unit) => (wd37 cyI cyJ cyZ)) A) A) args s 0 0 A) (F0 m 0 ls []) := by
  obtain ⟨hx, hb, hr, hml, hown, hts, hlocks, hG, hA⟩ := id C0
  have hK := hG.1
  intro H locs hP hD hS ls hl
  unfold f_J1_canEncode_9a6ad at h
  refine lv_iload_n hx hb dJ1_canEncode_9a6ad_0 rfl (lv_at hl 0 rfl) ?_
  refine lv_if_lt (tgt := 15) hx hb dJ1_canEncode_9a6ad_1 (by decide) (fun c1z => ?_) (fun c1z => ?_)
  · have h := xt h c1z
    refine lv_iconst (v := (0 : Int32)) hx hb dJ1_canEncode_9a6ad_15 (by decide) ?_
    obtain rfl := Option.some.inj h
    exact W.zret (v := (0 : Int32)) hx hb hr rfl (fun t ht hW => ⟨⟨_, (), rfl, rfl, by rw [ht]; exact hP, hD⟩, hS.F ht⟩) hS.2.2 dJ1_canEncode_9a6ad_16 hlocks
  · have h := xf h c1z
    refine lv_iload_n hx hb dJ1_canEncode_9a6ad_4 rfl (lv_at hl 0 rfl) ?_
    refine lv_sipush (v := (255 : Int32)) hx hb dJ1_canEncode_9a6ad_5 (by decide) ?_
    refine lv_icmp_gt (tgt := 15) hx hb dJ1_canEncode_9a6ad_8 (by decide) (fun c2z => ?_) (fun c2z => ?_)
    · have h := xt h c2z
      refine lv_iconst (v := (0 : Int32)) hx hb dJ1_canEncode_9a6ad_15 (by decide) ?_
      obtain rfl := Option.some.inj h
      exact W.zret (v := (0 : Int32)) hx hb hr rfl (fun t ht hW => ⟨⟨_, (), rfl, rfl, by rw [ht]; exact hP, hD⟩, hS.F ht⟩) hS.2.2 dJ1_canEncode_9a6ad_16 hlocks
    · have h := xf h c2z
      refine lv_iconst (v := (1 : Int32)) hx hb dJ1_canEncode_9a6ad_11 (by decide) ?_
      refine lv_goto (tgt := 16) hx hb dJ1_canEncode_9a6ad_12 (by decide) ?_
      obtain rfl := Option.some.inj h
      exact W.zret (v := (1 : Int32)) hx hb hr rfl (fun t ht hW => ⟨⟨_, (), rfl, rfl, by rw [ht]; exact hP, hD⟩, hS.F ht⟩) hS.2.2 dJ1_canEncode_9a6ad_16 hlocks
set_option maxRecDepth 100000 in
set_option maxHeartbeats 4000000 in
theorem c_J1_canEncode_9a6ad (l : Launch) (dC : Nat → ClassId) (dI : Nat → Nat → Nat) (cyI cyJ cyZ : ClassId) (N : Nat) (res : Int32) (sz : Nat) (v0 : Int32) (h : f_J1_canEncode_9a6ad N v0  = some res) : Met l yJ1_canEncode_9a6ad wsJ1_canEncode_9a6ad rm_J1_canEncode_9a6ad (pC dC dI cyI cyJ cyZ [.int v0] sz (wd37 cyI cyJ cyZ)) (va_Qi (fun (r : Int32) (_ : Unit) => r = res) (bW dC dI (fun (u : Unit) => (wd37 cyI cyJ cyZ)) (va_A (wd37 cyI cyJ cyZ) sz)) (va_A (wd37 cyI cyJ cyZ) sz)) 0 0 (va_A (wd37 cyI cyJ cyZ) sz) := by
  refine Met.ofW (cc := cJ1_canEncode_9a6ad) (maxL := 1) (ret := (some .boolean)) (by decide) rfl ?_
  intro p e s m args below meth c s₁ B hml hv
  obtain ⟨rfl, hsz, hP, hG, hD0⟩ := hv
  have hx := B.exec
  have hb := B.bytes
  have hr := B.returns
  have hts := atoms_spec (ws := wsJ1_canEncode_9a6ad) B.pre
  have hown : s.vm.findClass RJ1 = some m.cls := findClass_of_methodNamed B.named
  have hlocks := B.notSynchronized
  subst hsz
  have hD := hD0.self (sz := s.heap.size)
  generalize hAe : va_A (wd37 cyI cyJ cyZ) s.heap.size = A at hD ⊢
  have hA : ∀ q : Nat, s.heap.size ≤ q → A q := fun q h => by rw [← hAe]; exact Or.inr h
  have hS : va_S A s.heap s.heap [] := va_S.rf
  have hl := lv_entry ([.int v0]) (n := 1) (Nat.le_of_ble_eq_true rfl)
  rw [lg_entry_eq]
  generalize (lg_sl ([.int v0]) ++ List.replicate (1 - (lg_sl ([.int v0])).length) Slot.unset).toArray = ls at hl ⊢
  have hl : lv_has ls 1 [(0, .int v0)] := hl
  exact k_J1_canEncode_9a6ad_0 ⟨hx, hb, hr, hml, hown, hts, hlocks, hG, hA⟩ N res  v0  h _ _ hP hD hS _ hl
abbrev rm_J0_coder_7d493 : Room := { frames := 0, cells := 0, slots := 0, locals := 0 }
theorem hd_J0_coder_7d493 : yJ0_coder_7d493.cls ≠ "java/lang/invoke/MethodHandle" ∧ yJ0_coder_7d493.cls ≠ "java/lang/invoke/VarHandle" ∧ (parseMethodDescriptor yJ0_coder_7d493.desc).map (fun d => d.parameters.length) = some 0 := by decide +kernel
def f_J0_coder_7d493 (N : Nat) : Option (Int32) :=
  some (0 : Int32)
set_option maxRecDepth 100000 in
set_option maxHeartbeats 4000000 in
theorem k_J0_coder_7d493_0 {p : Program} {l : Launch} {e : Env} {s : State} {m : MethodId} {args : Array Value} {below : List Frame} {meth : Method} {c : Code} {dC : Nat → ClassId} {dI : Nat → Nat → Nat} {cyI cyJ cyZ : ClassId} {A : Nat → Prop} (C0 : mC p s m meth c args cJ0_coder_7d493 (some .byte) 1 RJ0 wsJ0_coder_7d493 (gK dC dI cyI cyJ cyZ) A) {tkA tkV : Nat} (hTk : tkS tkA tkV A s) (N : Nat) (res : Int32) (h : f_J0_coder_7d493 N = some res) : ∀ (H : Heap) (locs : List Loc), va_P (dC, dI) vwCl (wd37 cyI cyJ cyZ) H → va_D A (wd37 cyI cyJ cyZ) → va_S A s.heap H locs → ∀ (ls : Array Slot), lv_has ls 1 [(0, .ref tkA)] → W p l e (headSpec wsJ0_coder_7d493 rm_J0_coder_7d493).room s m args below meth c H locs 0 0 (MQ below (va_Qi (fun (r : Int32) (_ : Unit) => r = res) (bW dC dI (fun (u : Unit) => (wd37 cyI cyJ cyZ)) A) A) args s 0 0 A) (F0 m 0 ls []) := by
  obtain ⟨hx, hb, hr, hml, hown, hts, hlocks, hG, hA⟩ := id C0
  have hK := hG.1
  intro H locs hP hD hS ls hl
  unfold f_J0_coder_7d493 at h
  refine va_gets hx hb hTk.2.2 hS hown (hts (.fieldLink RJ0 38 "java/lang/String" "COMPACT_STRINGS" "Z") (List.mem_of_getElem? (i := 1) rfl)) (fun _ h9 => h9) dJ0_coder_7d493_0 ?_
  refine lv_if_eq (tgt := 13) hx hb dJ0_coder_7d493_3 (by decide) (fun c1z => absurd c1z (by decide)) (fun c1z => ?_)
  refine lv_aload_n hx hb dJ0_coder_7d493_6 rfl (lv_at hl 0 rfl) ?_
  refine vk_getf hx hb (hTk.2.1.1 0 (by decide)).2.1 hS hown (hts (.fieldLink RJ0 15 "java/lang/String" "coder" "B") (List.mem_of_getElem? (i := 2) rfl)) (fun _ h9 => h9) dJ0_coder_7d493_7 ?_
  refine lv_goto (tgt := 14) hx hb dJ0_coder_7d493_10 (by decide) ?_
  obtain rfl := Option.some.inj h
  exact W.zret (v := (0 : Int32)) hx hb hr rfl (fun t ht hW => ⟨⟨_, (), rfl, rfl, by rw [ht]; exact hP, hD⟩, hS.F ht⟩) hS.2.2 dJ0_coder_7d493_14 hlocks
set_option maxRecDepth 100000 in
set_option maxHeartbeats 4000000 in
theorem c_J0_coder_7d493 (l : Launch) (dC : Nat → ClassId) (dI : Nat → Nat → Nat) (cyI cyJ cyZ : ClassId) {tkA tkV : Nat} (N : Nat) (res : Int32) (sz : Nat) (h : f_J0_coder_7d493 N   = some res) : Met l yJ0_coder_7d493 wsJ0_coder_7d493 rm_J0_coder_7d493 (pS tkA tkV dC dI cyI cyJ cyZ [.ref tkA] sz (wd37 cyI cyJ cyZ)) (va_Qi (fun (r : Int32) (_ : Unit) => r = res) (bW dC dI (fun (u : Unit) => (wd37 cyI cyJ cyZ)) (va_A (wd37 cyI cyJ cyZ) sz)) (va_A (wd37 cyI cyJ cyZ) sz)) 0 0 (va_A (wd37 cyI cyJ cyZ) sz) := by
  refine Met.ofW (cc := cJ0_coder_7d493) (maxL := 1) (ret := (some .byte)) (by decide) rfl ?_
  intro p e s m args below meth c s₁ B hml hv
  obtain ⟨⟨rfl, hsz, hP, hG, hD0⟩, hTk⟩ := hv
  have hx := B.exec
  have hb := B.bytes
  have hr := B.returns
  have hts := atoms_spec (ws := wsJ0_coder_7d493) B.pre
  have hown : s.vm.findClass RJ0 = some m.cls := findClass_of_methodNamed B.named
  have hlocks := B.notSynchronized
  subst hsz
  have hD := hD0.self (sz := s.heap.size)
  generalize hAe : va_A (wd37 cyI cyJ cyZ) s.heap.size = A at hD hTk ⊢
  have hA : ∀ q : Nat, s.heap.size ≤ q → A q := fun q h => by rw [← hAe]; exact Or.inr h
  have hS : va_S A s.heap s.heap [] := va_S.rf
  have hl := lv_entry ([.ref tkA]) (n := 1) (Nat.le_of_ble_eq_true rfl)
  rw [lg_entry_eq]
  generalize (lg_sl ([.ref tkA]) ++ List.replicate (1 - (lg_sl ([.ref tkA])).length) Slot.unset).toArray = ls at hl ⊢
  have hl : lv_has ls 1 [(0, .ref tkA)] := hl
  exact k_J0_coder_7d493_0 ⟨hx, hb, hr, hml, hown, hts, hlocks, hG, hA⟩ hTk N res    h _ _ hP hD hS _ hl
abbrev rm_J0_isLatin1_aae02 : Room := { frames := 0, cells := 0, slots := 0, locals := 0 }
theorem hd_J0_isLatin1_aae02 : yJ0_isLatin1_aae02.cls ≠ "java/lang/invoke/MethodHandle" ∧ yJ0_isLatin1_aae02.cls ≠ "java/lang/invoke/VarHandle" ∧ (parseMethodDescriptor yJ0_isLatin1_aae02.desc).map (fun d => d.parameters.length) = some 0 := by decide +kernel
def f_J0_isLatin1_aae02 (N : Nat) : Option (Int32) :=
  some (1 : Int32)
set_option maxRecDepth 100000 in
set_option maxHeartbeats 4000000 in
theorem k_J0_isLatin1_aae02_0 {p : Program} {l : Launch} {e : Env} {s : State} {m : MethodId} {args : Array Value} {below : List Frame} {meth : Method} {c : Code} {dC : Nat → ClassId} {dI : Nat → Nat → Nat} {cyI cyJ cyZ : ClassId} {A : Nat → Prop} (C0 : mC p s m meth c args cJ0_isLatin1_aae02 (some .boolean) 1 RJ0 wsJ0_isLatin1_aae02 (gK dC dI cyI cyJ cyZ) A) {tkA tkV : Nat} (hTk : tkS tkA tkV A s) (N : Nat) (res : Int32) (h : f_J0_isLatin1_aae02 N = some res) : ∀ (H : Heap) (locs : List Loc), va_P (dC, dI) vwCl (wd37 cyI cyJ cyZ) H → va_D A (wd37 cyI cyJ cyZ) → va_S A s.heap H locs → ∀ (ls : Array Slot), lv_has ls 1 [(0, .ref tkA)] → W p l e (headSpec wsJ0_isLatin1_aae02 rm_J0_isLatin1_aae02).room s m args below meth c H locs 0 0 (MQ below (va_Qi (fun (r : Int32) (_ : Unit) => r = res) (bW dC dI (fun (u : Unit) => (wd37 cyI cyJ cyZ)) A) A) args s 0 0 A) (F0 m 0 ls []) := by
  obtain ⟨hx, hb, hr, hml, hown, hts, hlocks, hG, hA⟩ := id C0
  have hK := hG.1
  intro H locs hP hD hS ls hl
  unfold f_J0_isLatin1_aae02 at h
  refine va_gets hx hb hTk.2.2 hS hown (hts (.fieldLink RJ0 38 "java/lang/String" "COMPACT_STRINGS" "Z") (List.mem_of_getElem? (i := 1) rfl)) (fun _ h9 => h9) dJ0_isLatin1_aae02_0 ?_
  refine lv_if_eq (tgt := 17) hx hb dJ0_isLatin1_aae02_3 (by decide) (fun c1z => absurd c1z (by decide)) (fun c1z => ?_)
  refine lv_aload_n hx hb dJ0_isLatin1_aae02_6 rfl (lv_at hl 0 rfl) ?_
  refine vk_getf hx hb (hTk.2.1.1 0 (by decide)).2.1 hS hown (hts (.fieldLink RJ0 15 "java/lang/String" "coder" "B") (List.mem_of_getElem? (i := 2) rfl)) (fun _ h9 => h9) dJ0_isLatin1_aae02_7 ?_
  refine lv_if_ne (tgt := 17) hx hb dJ0_isLatin1_aae02_10 (by decide) (fun c2z => absurd c2z (by decide)) (fun c2z => ?_)
  refine lv_iconst (v := (1 : Int32)) hx hb dJ0_isLatin1_aae02_13 (by decide) ?_
  refine lv_goto (tgt := 18) hx hb dJ0_isLatin1_aae02_14 (by decide) ?_
  obtain rfl := Option.some.inj h
  exact W.zret (v := (1 : Int32)) hx hb hr rfl (fun t ht hW => ⟨⟨_, (), rfl, rfl, by rw [ht]; exact hP, hD⟩, hS.F ht⟩) hS.2.2 dJ0_isLatin1_aae02_18 hlocks
set_option maxRecDepth 100000 in
set_option maxHeartbeats 4000000 in
theorem c_J0_isLatin1_aae02 (l : Launch) (dC : Nat → ClassId) (dI : Nat → Nat → Nat) (cyI cyJ cyZ : ClassId) {tkA tkV : Nat} (N : Nat) (res : Int32) (sz : Nat) (h : f_J0_isLatin1_aae02 N   = some res) : Met l yJ0_isLatin1_aae02 wsJ0_isLatin1_aae02 rm_J0_isLatin1_aae02 (pS tkA tkV dC dI cyI cyJ cyZ [.ref tkA] sz (wd37 cyI cyJ cyZ)) (va_Qi (fun (r : Int32) (_ : Unit) => r = res) (bW dC dI (fun (u : Unit) => (wd37 cyI cyJ cyZ)) (va_A (wd37 cyI cyJ cyZ) sz)) (va_A (wd37 cyI cyJ cyZ) sz)) 0 0 (va_A (wd37 cyI cyJ cyZ) sz) := by
  refine Met.ofW (cc := cJ0_isLatin1_aae02) (maxL := 1) (ret := (some .boolean)) (by decide) rfl ?_
  intro p e s m args below meth c s₁ B hml hv
  obtain ⟨⟨rfl, hsz, hP, hG, hD0⟩, hTk⟩ := hv
  have hx := B.exec
  have hb := B.bytes
  have hr := B.returns
  have hts := atoms_spec (ws := wsJ0_isLatin1_aae02) B.pre
  have hown : s.vm.findClass RJ0 = some m.cls := findClass_of_methodNamed B.named
  have hlocks := B.notSynchronized
  subst hsz
  have hD := hD0.self (sz := s.heap.size)
  generalize hAe : va_A (wd37 cyI cyJ cyZ) s.heap.size = A at hD hTk ⊢
  have hA : ∀ q : Nat, s.heap.size ≤ q → A q := fun q h => by rw [← hAe]; exact Or.inr h
  have hS : va_S A s.heap s.heap [] := va_S.rf
  have hl := lv_entry ([.ref tkA]) (n := 1) (Nat.le_of_ble_eq_true rfl)
  rw [lg_entry_eq]
  generalize (lg_sl ([.ref tkA]) ++ List.replicate (1 - (lg_sl ([.ref tkA])).length) Slot.unset).toArray = ls at hl ⊢
  have hl : lv_has ls 1 [(0, .ref tkA)] := hl
  exact k_J0_isLatin1_aae02_0 ⟨hx, hb, hr, hml, hown, hts, hlocks, hG, hA⟩ hTk N res    h _ _ hP hD hS _ hl
abbrev rm_J0_length_8abf5 : Room := { frames := 1, cells := 0, slots := 0, locals := 20 }
theorem hd_J0_length_8abf5 : yJ0_length_8abf5.cls ≠ "java/lang/invoke/MethodHandle" ∧ yJ0_length_8abf5.cls ≠ "java/lang/invoke/VarHandle" ∧ (parseMethodDescriptor yJ0_length_8abf5.desc).map (fun d => d.parameters.length) = some 0 := by decide +kernel
def f_J0_length_8abf5 (N : Nat) : Option (Int32) :=
  Option.bind (f_J0_coder_7d493 N ) fun r1z =>
  some ((23 : Int32) >>> (r1z &&& 31))
set_option maxRecDepth 100000 in
set_option maxHeartbeats 4000000 in
theorem k_J0_length_8abf5_0 {p : Program} {l : Launch} {e : Env} {s : State} {m : MethodId} {args : Array Value} {below : List Frame} {meth : Method} {c : Code} {dC : Nat → ClassId} {dI : Nat → Nat → Nat} {cyI cyJ cyZ : ClassId} {A : Nat → Prop} (C0 : mC p s m meth c args cJ0_length_8abf5 (some .int) 1 RJ0 wsJ0_length_8abf5 (gK dC dI cyI cyJ cyZ) A) {tkA tkV : Nat} (hTk : tkS tkA tkV A s) (N : Nat) (res : Int32) (h : f_J0_length_8abf5 N = some res) : ∀ (H : Heap) (locs : List Loc), va_P (dC, dI) vwCl (wd37 cyI cyJ cyZ) H → va_D A (wd37 cyI cyJ cyZ) → va_S A s.heap H locs → ∀ (ls : Array Slot), lv_has ls 1 [(0, .ref tkA)] → W p l e (headSpec wsJ0_length_8abf5 rm_J0_length_8abf5).room s m args below meth c H locs 0 0 (MQ below (va_Qi (fun (r : Int32) (_ : Unit) => r = res) (bW dC dI (fun (u : Unit) => (wd37 cyI cyJ cyZ)) A) A) args s 0 0 A) (F0 m 0 ls []) := by
  obtain ⟨hx, hb, hr, hml, hown, hts, hlocks, hG, hA⟩ := id C0
  have hK := hG.1
  intro H locs hP hD hS ls hl
  unfold f_J0_length_8abf5 at h
  refine lv_aload_n hx hb dJ0_length_8abf5_0 rfl (lv_at hl 0 rfl) ?_
  refine vk_getf hx hb (hTk.2.1.1 0 (by decide)).2.2.1 hS hown (hts (.fieldLink RJ0 9 "java/lang/String" "value" "[B") (List.mem_of_getElem? (i := 1) rfl)) (fun _ h9 => h9) dJ0_length_8abf5_1 ?_
  refine va_tlen (v := (23 : Int32)) hx hb (hTk.2.1.1 0 (by decide)).2.2.2 hS (by decide) dJ0_length_8abf5_4 ?_
  refine lv_aload_n hx hb dJ0_length_8abf5_5 rfl (lv_at hl 0 rfl) ?_
  obtain ⟨r1z, hr1z, h⟩ := xb_at h
  have hPc := hP.sub (ws' := (wd37 cyI cyJ cyZ)) [] rfl
  have hDc := hD.sub (ws' := (wd37 cyI cyJ cyZ)) [] (by decide) rfl
  refine cal_i [] [] (va_runV (As := []) (rest := [.int (23 : Int32)]) ⟨hx, hb, hml, hown, hts⟩ (c_J0_coder_7d493 l dC dI cyI cyJ cyZ N r1z H.size    hr1z) (cwV 0 hts gJ0_length_8abf5_J0_coder_7d493 rfl rfl rfl ⟨rfl, hd_J0_coder_7d493⟩ ⟨Nat.le_of_ble_eq_true rfl, Nat.le_of_ble_eq_true rfl⟩) ⟨pS.blind, vk_recv hTk.2.1 (i := 0) (by decide) hS, pS.pre hPc hG hDc (hTk.go hS (va_free (wc := (wd37 cyI cyJ cyZ)) hD hS hA [] rfl))⟩ rfl rfl hl.1 rfl (lv_room (Nat.le_of_ble_eq_true rfl)) dJ0_length_8abf5_6 ⟨Nat.zero_le _, Nat.zero_le _⟩) hP hD hS hA rfl rfl rfl (by decide) (fun x3z u2z H locs hw hP hD hS => ?_)
  obtain rfl := hw.symm
  have hP : va_P (dC, dI) vwCl (wd37 cyI cyJ cyZ) H := hP.sub [] rfl
  have hD : va_D A (wd37 cyI cyJ cyZ) := hD.sub [] (by decide) rfl
  refine lv_ishr hx hb dJ0_length_8abf5_9 ?_
  obtain rfl := Option.some.inj h
  exact W.iret (v := (23 : Int32) >>> (r1z &&& 31)) hx hb hr (fun t ht hW => ⟨⟨_, (), rfl, rfl, by rw [ht]; exact hP, hD⟩, hS.F ht⟩) hS.2.2 dJ0_length_8abf5_10 hlocks
set_option maxRecDepth 100000 in
set_option maxHeartbeats 4000000 in
theorem c_J0_length_8abf5 (l : Launch) (dC : Nat → ClassId) (dI : Nat → Nat → Nat) (cyI cyJ cyZ : ClassId) {tkA tkV : Nat} (N : Nat) (res : Int32) (sz : Nat) (h : f_J0_length_8abf5 N   = some res) : Met l yJ0_length_8abf5 wsJ0_length_8abf5 rm_J0_length_8abf5 (pS tkA tkV dC dI cyI cyJ cyZ [.ref tkA] sz (wd37 cyI cyJ cyZ)) (va_Qi (fun (r : Int32) (_ : Unit) => r = res) (bW dC dI (fun (u : Unit) => (wd37 cyI cyJ cyZ)) (va_A (wd37 cyI cyJ cyZ) sz)) (va_A (wd37 cyI cyJ cyZ) sz)) 0 0 (va_A (wd37 cyI cyJ cyZ) sz) := by
  refine Met.ofW (cc := cJ0_length_8abf5) (maxL := 1) (ret := (some .int)) (by decide) rfl ?_
  intro p e s m args below meth c s₁ B hml hv
  obtain ⟨⟨rfl, hsz, hP, hG, hD0⟩, hTk⟩ := hv
  have hx := B.exec
  have hb := B.bytes
  have hr := B.returns
  have hts := atoms_spec (ws := wsJ0_length_8abf5) B.pre
  have hown : s.vm.findClass RJ0 = some m.cls := findClass_of_methodNamed B.named
  have hlocks := B.notSynchronized
  subst hsz
  have hD := hD0.self (sz := s.heap.size)
  generalize hAe : va_A (wd37 cyI cyJ cyZ) s.heap.size = A at hD hTk ⊢
  have hA : ∀ q : Nat, s.heap.size ≤ q → A q := fun q h => by rw [← hAe]; exact Or.inr h
  have hS : va_S A s.heap s.heap [] := va_S.rf
  have hl := lv_entry ([.ref tkA]) (n := 1) (Nat.le_of_ble_eq_true rfl)
  rw [lg_entry_eq]
  generalize (lg_sl ([.ref tkA]) ++ List.replicate (1 - (lg_sl ([.ref tkA])).length) Slot.unset).toArray = ls at hl ⊢
  have hl : lv_has ls 1 [(0, .ref tkA)] := hl
  exact k_J0_length_8abf5_0 ⟨hx, hb, hr, hml, hown, hts, hlocks, hG, hA⟩ hTk N res    h _ _ hP hD hS _ hl
abbrev rm_J1_indexOfChar_4cfef : Room := { frames := 0, cells := 0, slots := 0, locals := 0 }
theorem hd_J1_indexOfChar_4cfef : yJ1_indexOfChar_4cfef.cls ≠ "java/lang/invoke/MethodHandle" ∧ yJ1_indexOfChar_4cfef.cls ≠ "java/lang/invoke/VarHandle" ∧ (parseMethodDescriptor yJ1_indexOfChar_4cfef.desc).map (fun d => d.parameters.length) = some 4 := by decide +kernel
def s_J1_indexOfChar_4cfef_7 (N : Nat) (v3 : Int32) (v4 : Int32) (k_7 : (Int32) → Option (Int32)) (v5 : Int32) : Option (Int32) :=
  if v3 ≤ v5 then
    some (-1 : Int32)
  else
    if v5 < 0 ∨ 23 ≤ v5.toNatClampNeg then
      none
    else
      if (tkB v5.toNatClampNeg) = v4 then
        some v5
      else
        xl (v5 + (1 : Int32)) fun y5z =>
        k_7 y5z
def l_J1_indexOfChar_4cfef_7 (N : Nat) (v3 : Int32) (v4 : Int32) (n : Nat) (z : Int32) : Option (Int32) := lp (fun k z => s_J1_indexOfChar_4cfef_7 N v3 v4 k z) n z
set_option maxRecDepth 100000 in
set_option maxHeartbeats 4000000 in
theorem k_J1_indexOfChar_4cfef_7 {p : Program} {l : Launch} {e : Env} {s : State} {m : MethodId} {args : Array Value} {below : List Frame} {meth : Method} {c : Code} {dC : Nat → ClassId} {dI : Nat → Nat → Nat} {cyI cyJ cyZ : ClassId} {A : Nat → Prop} (C0 : mC p s m meth c args cJ1_indexOfChar_4cfef (some .int) 6 RJ1 wsJ1_indexOfChar_4cfef (gK dC dI cyI cyJ cyZ) A) {tkA tkV : Nat} (hTk : tkS tkA tkV A s) (N : Nat) (res : Int32) (v3 : Int32) (v4 : Int32) : ∀ (n : Nat) (v5 : Int32), l_J1_indexOfChar_4cfef_7 N v3 v4 n v5 = some res → ∀ (H : Heap) (locs : List Loc), va_P (dC, dI) vwCl (wd37 cyI cyJ cyZ) H → va_D A (wd37 cyI cyJ cyZ) → va_S A s.heap H locs → ∀ (ls : Array Slot), lv_has ls 6 [(0, .ref tkV), (3, .int v3), (4, .int v4), (5, .int v5)] → W p l e (headSpec wsJ1_indexOfChar_4cfef rm_J1_indexOfChar_4cfef).room s m args below meth c H locs 0 0 (MQ below (va_Qi (fun (r : Int32) (_ : Unit) => r = res) (bW dC dI (fun (u : Unit) => (wd37 cyI cyJ cyZ)) A) A) args s 0 0 A) (F0 m 7 ls []) := by
  obtain ⟨hx, hb, hr, hml, hown, hts, hlocks, hG, hA⟩ := id C0
  have hK := hG.1
  intro n
  induction n with
  | zero =>
    intro v5 h
    cases h
  | succ n ih =>
    intro v5 h H locs hP hD hS ls hl
    have h : s_J1_indexOfChar_4cfef_7 N v3 v4 (l_J1_indexOfChar_4cfef_7 N v3 v4 n) v5 = some res := h
    unfold s_J1_indexOfChar_4cfef_7 at h
    refine lv_iload hx hb dJ1_indexOfChar_4cfef_7 (lv_at hl 3 rfl) ?_
    refine lv_iload_n hx hb dJ1_indexOfChar_4cfef_9 rfl (lv_at hl 1 rfl) ?_
    refine lv_icmp_ge (tgt := 31) hx hb dJ1_indexOfChar_4cfef_10 (by decide) (fun c2z => ?_) (fun c2z => ?_)
    · have h := xt h c2z
      refine lv_iconst (v := (-1 : Int32)) hx hb dJ1_indexOfChar_4cfef_31 (by decide) ?_
      obtain rfl := Option.some.inj h
      exact W.iret (v := (-1 : Int32)) hx hb hr (fun t ht hW => ⟨⟨_, (), rfl, rfl, by rw [ht]; exact hP, hD⟩, hS.F ht⟩) hS.2.2 dJ1_indexOfChar_4cfef_32 hlocks
    · have h := xf h c2z
      refine lv_aload_n hx hb dJ1_indexOfChar_4cfef_13 rfl (lv_at hl 0 rfl) ?_
      refine lv_iload hx hb dJ1_indexOfChar_4cfef_14 (lv_at hl 3 rfl) ?_
      obtain ⟨b3z, h⟩ := xn h
      refine va_tb (v := .int (tkB v5.toNatClampNeg)) hx hb (hTk.2.1.1 0 (by decide)).2.2.2 hS b3z rfl dJ1_indexOfChar_4cfef_16 ?_
      refine lv_iload hx hb dJ1_indexOfChar_4cfef_17 (lv_at hl 2 rfl) ?_
      refine lv_icmp_ne (tgt := 25) hx hb dJ1_indexOfChar_4cfef_19 (by decide) (fun c4z => ?_) (fun c4z => ?_)
      · have h := xf h c4z
        obtain ⟨y5z, ey5z⟩ : ∃ z : Int32, z = v5 + (1 : Int32) := ⟨_, rfl⟩
        have h := xl_at h ey5z
        refine lv_iinc (v := y5z) (lv' := [(5, .int y5z), (0, .ref tkV), (3, .int v3), (4, .int v4)]) hx hb dJ1_indexOfChar_4cfef_25 hl (k := 3) rfl (by rw [ey5z]; rfl) (by decide) rfl (fun ls hl => ?_)
        refine lv_goto (tgt := 7) hx hb dJ1_indexOfChar_4cfef_28 (by decide) ?_
        exact ih y5z h _ _ hP hD hS _ (lv_sub hl [1, 2, 3, 0] rfl)
      · have h := xt h c4z
        refine lv_iload hx hb dJ1_indexOfChar_4cfef_22 (lv_at hl 3 rfl) ?_
        obtain rfl := Option.some.inj h
        exact W.iret (v := v5) hx hb hr (fun t ht hW => ⟨⟨_, (), rfl, rfl, by rw [ht]; exact hP, hD⟩, hS.F ht⟩) hS.2.2 dJ1_indexOfChar_4cfef_24 hlocks
def f_J1_indexOfChar_4cfef (N : Nat) (v1 : Int32) (v2 : Int32) (v3 : Int32) : Option (Int32) :=
  xl (v1.toInt8.toInt32) fun y1z =>
  l_J1_indexOfChar_4cfef_7 N v3 y1z N v2
set_option maxRecDepth 100000 in
set_option maxHeartbeats 4000000 in
theorem k_J1_indexOfChar_4cfef_0 {p : Program} {l : Launch} {e : Env} {s : State} {m : MethodId} {args : Array Value} {below : List Frame} {meth : Method} {c : Code} {dC : Nat → ClassId} {dI : Nat → Nat → Nat} {cyI cyJ cyZ : ClassId} {A : Nat → Prop} (C0 : mC p s m meth c args cJ1_indexOfChar_4cfef (some .int) 6 RJ1 wsJ1_indexOfChar_4cfef (gK dC dI cyI cyJ cyZ) A) {tkA tkV : Nat} (hTk : tkS tkA tkV A s) (N : Nat) (res : Int32) (v1 : Int32) (v2 : Int32) (v3 : Int32) (h : f_J1_indexOfChar_4cfef N v1 v2 v3 = some res) : ∀ (H : Heap) (locs : List Loc), va_P (dC, dI) vwCl (wd37 cyI cyJ cyZ) H → va_D A (wd37 cyI cyJ cyZ) → va_S A s.heap H locs → ∀ (ls : Array Slot), lv_has ls 6 [(0, .ref tkV), (1, .int v1), (2, .int v2), (3, .int v3)] → W p l e (headSpec wsJ1_indexOfChar_4cfef rm_J1_indexOfChar_4cfef).room s m args below meth c H locs 0 0 (MQ below (va_Qi (fun (r : Int32) (_ : Unit) => r = res) (bW dC dI (fun (u : Unit) => (wd37 cyI cyJ cyZ)) A) A) args s 0 0 A) (F0 m 0 ls []) := by
  obtain ⟨hx, hb, hr, hml, hown, hts, hlocks, hG, hA⟩ := id C0
  have hK := hG.1
  intro H locs hP hD hS ls hl
  unfold f_J1_indexOfChar_4cfef at h
  refine lv_iload_n hx hb dJ1_indexOfChar_4cfef_0 rfl (lv_at hl 1 rfl) ?_
  refine lv_i2b (v := v1.toInt8.toInt32) hx hb dJ1_indexOfChar_4cfef_1 rfl ?_
  refine lv_topi (fun y1z ey1z => ?_)
  have h := xl_at h ey1z
  refine lv_istore (lv' := [(4, .int y1z), (0, .ref tkV), (1, .int v1), (2, .int v2), (3, .int v3)]) hx hb dJ1_indexOfChar_4cfef_2 hl (by decide) rfl (fun ls hl => ?_)
  refine lv_iload_n hx hb dJ1_indexOfChar_4cfef_4 rfl (lv_at hl 3 rfl) ?_
  refine lv_istore (lv' := [(5, .int v2), (4, .int y1z), (0, .ref tkV), (1, .int v1), (2, .int v2), (3, .int v3)]) hx hb dJ1_indexOfChar_4cfef_5 hl (by decide) rfl (fun ls hl => ?_)
  exact k_J1_indexOfChar_4cfef_7 C0 hTk N res v3 y1z N v2 h _ _ hP hD hS _ (lv_sub hl [2, 5, 1, 0] rfl)
set_option maxRecDepth 100000 in
set_option maxHeartbeats 4000000 in
theorem c_J1_indexOfChar_4cfef (l : Launch) (dC : Nat → ClassId) (dI : Nat → Nat → Nat) (cyI cyJ cyZ : ClassId) {tkA tkV : Nat} (N : Nat) (res : Int32) (sz : Nat) (v1 : Int32) (v2 : Int32) (v3 : Int32) (h : f_J1_indexOfChar_4cfef N v1 v2 v3  = some res) : Met l yJ1_indexOfChar_4cfef wsJ1_indexOfChar_4cfef rm_J1_indexOfChar_4cfef (pS tkA tkV dC dI cyI cyJ cyZ [.ref tkV, .int v1, .int v2, .int v3] sz (wd37 cyI cyJ cyZ)) (va_Qi (fun (r : Int32) (_ : Unit) => r = res) (bW dC dI (fun (u : Unit) => (wd37 cyI cyJ cyZ)) (va_A (wd37 cyI cyJ cyZ) sz)) (va_A (wd37 cyI cyJ cyZ) sz)) 0 0 (va_A (wd37 cyI cyJ cyZ) sz) := by
  refine Met.ofW (cc := cJ1_indexOfChar_4cfef) (maxL := 6) (ret := (some .int)) (by decide) rfl ?_
  intro p e s m args below meth c s₁ B hml hv
  obtain ⟨⟨rfl, hsz, hP, hG, hD0⟩, hTk⟩ := hv
  have hx := B.exec
  have hb := B.bytes
  have hr := B.returns
  have hts := atoms_spec (ws := wsJ1_indexOfChar_4cfef) B.pre
  have hown : s.vm.findClass RJ1 = some m.cls := findClass_of_methodNamed B.named
  have hlocks := B.notSynchronized
  subst hsz
  have hD := hD0.self (sz := s.heap.size)
  generalize hAe : va_A (wd37 cyI cyJ cyZ) s.heap.size = A at hD hTk ⊢
  have hA : ∀ q : Nat, s.heap.size ≤ q → A q := fun q h => by rw [← hAe]; exact Or.inr h
  have hS : va_S A s.heap s.heap [] := va_S.rf
  have hl := lv_entry ([.ref tkV, .int v1, .int v2, .int v3]) (n := 6) (Nat.le_of_ble_eq_true rfl)
  rw [lg_entry_eq]
  generalize (lg_sl ([.ref tkV, .int v1, .int v2, .int v3]) ++ List.replicate (6 - (lg_sl ([.ref tkV, .int v1, .int v2, .int v3])).length) Slot.unset).toArray = ls at hl ⊢
  have hl : lv_has ls 6 [(0, .ref tkV), (1, .int v1), (2, .int v2), (3, .int v3)] := hl
  exact k_J1_indexOfChar_4cfef_0 ⟨hx, hb, hr, hml, hown, hts, hlocks, hG, hA⟩ hTk N res  v1 v2 v3  h _ _ hP hD hS _ hl
abbrev rm_J1_indexOf_4cfef : Room := { frames := 1, cells := 0, slots := 0, locals := 25 }
theorem hd_J1_indexOf_4cfef : yJ1_indexOf_4cfef.cls ≠ "java/lang/invoke/MethodHandle" ∧ yJ1_indexOf_4cfef.cls ≠ "java/lang/invoke/VarHandle" ∧ (parseMethodDescriptor yJ1_indexOf_4cfef.desc).map (fun d => d.parameters.length) = some 4 := by decide +kernel
def f_J1_indexOf_4cfef (N : Nat) (v1 : Int32) (v2 : Int32) (v3 : Int32) : Option (Int32) :=
  Option.bind (f_J1_canEncode_9a6ad N v1) fun r1z =>
  if r1z = 0 then
    some (-1 : Int32)
  else
    xl (if v2 < (0 : Int32) then (0 : Int32) else v2) fun y5z =>
    xl (if (23 : Int32) < v3 then (23 : Int32) else v3) fun y6z =>
    if y5z < y6z then
      Option.bind (f_J1_indexOfChar_4cfef N v1 y5z y6z) fun r8z =>
      some r8z
    else
      some (-1 : Int32)
set_option maxRecDepth 100000 in
set_option maxHeartbeats 4000000 in
theorem k_J1_indexOf_4cfef_0 {p : Program} {l : Launch} {e : Env} {s : State} {m : MethodId} {args : Array Value} {below : List Frame} {meth : Method} {c : Code} {dC : Nat → ClassId} {dI : Nat → Nat → Nat} {cyI cyJ cyZ : ClassId} {A : Nat → Prop} (C0 : mC p s m meth c args cJ1_indexOf_4cfef (some .int) 4 RJ1 wsJ1_indexOf_4cfef (gK dC dI cyI cyJ cyZ) A) {tkA tkV : Nat} (hTk : tkS tkA tkV A s) (N : Nat) (res : Int32) (v1 : Int32) (v2 : Int32) (v3 : Int32) (h : f_J1_indexOf_4cfef N v1 v2 v3 = some res) : ∀ (H : Heap) (locs : List Loc), va_P (dC, dI) vwCl (wd37 cyI cyJ cyZ) H → va_D A (wd37 cyI cyJ cyZ) → va_S A s.heap H locs → ∀ (ls : Array Slot), lv_has ls 4 [(0, .ref tkV), (1, .int v1), (2, .int v2), (3, .int v3)] → W p l e (headSpec wsJ1_indexOf_4cfef rm_J1_indexOf_4cfef).room s m args below meth c H locs 0 0 (MQ below (va_Qi (fun (r : Int32) (_ : Unit) => r = res) (bW dC dI (fun (u : Unit) => (wd37 cyI cyJ cyZ)) A) A) args s 0 0 A) (F0 m 0 ls []) := by
  obtain ⟨hx, hb, hr, hml, hown, hts, hlocks, hG, hA⟩ := id C0
  have hK := hG.1
  intro H locs hP hD hS ls hl
  unfold f_J1_indexOf_4cfef at h
  refine lv_iload_n hx hb dJ1_indexOf_4cfef_0 rfl (lv_at hl 1 rfl) ?_
  obtain ⟨r1z, hr1z, h⟩ := xb_at h
  have hPc := hP.sub (ws' := (wd37 cyI cyJ cyZ)) [] rfl
  have hDc := hD.sub (ws' := (wd37 cyI cyJ cyZ)) [] (by decide) rfl
  refine cal_i [] [] (va_runS (As := [.int v1]) (rest := []) ⟨hx, hb, hml, hown, hts⟩ (c_J1_canEncode_9a6ad l dC dI cyI cyJ cyZ N r1z H.size  v1  hr1z) (va_cwS 1 hts gJ1_indexOf_4cfef_J1_canEncode_9a6ad rfl rfl rfl hd_J1_canEncode_9a6ad ⟨Nat.le_of_ble_eq_true rfl, Nat.le_of_ble_eq_true rfl⟩) ⟨pC.blind, pC.pre hPc hG hDc⟩ rfl rfl hl.1 rfl (lv_room (Nat.le_of_ble_eq_true rfl)) dJ1_indexOf_4cfef_1 ⟨Nat.zero_le _, Nat.zero_le _⟩) hP hD hS hA rfl rfl rfl (by decide) (fun x3z u2z H locs hw hP hD hS => ?_)
  obtain rfl := hw.symm
  have hP : va_P (dC, dI) vwCl (wd37 cyI cyJ cyZ) H := hP.sub [] rfl
  have hD : va_D A (wd37 cyI cyJ cyZ) := hD.sub [] (by decide) rfl
  refine lv_if_ne (tgt := 9) hx hb dJ1_indexOf_4cfef_4 (by decide) (fun c4z => ?_) (fun c4z => ?_)
  · have h := xf h c4z
    refine lv_iload_n hx hb dJ1_indexOf_4cfef_9 rfl (lv_at hl 2 rfl) ?_
    refine lv_iconst (v := (0 : Int32)) hx hb dJ1_indexOf_4cfef_10 (by decide) ?_
    refine va_mmax hx hb (hml.trans hl.1.symm) hown (hts (.methodLink RJ1 92 Lib.Math.max.name) (List.mem_of_getElem? (i := 1) rfl)) (hts (.static Lib.Math.max.name) (List.mem_of_getElem? (i := 2) rfl)) (hts (.initialized "java/lang/Math") (List.mem_of_getElem? (i := 3) rfl)) (hts (.code Lib.Math.max.name Lib.Math.max.code 2 (some .int)) (List.mem_of_getElem? (i := 4) rfl)) (Nat.le_of_ble_eq_true rfl) (Nat.le_of_ble_eq_true rfl) (Nat.zero_le _) (Nat.zero_le _) dJ1_indexOf_4cfef_11 ?_
    refine lv_topi (fun y5z ey5z => ?_)
    have h := xl_at h ey5z
    refine lv_istore_n (lv' := [(2, .int y5z), (0, .ref tkV), (1, .int v1), (3, .int v3)]) hx hb dJ1_indexOf_4cfef_14 rfl hl (by decide) rfl (fun ls hl => ?_)
    refine lv_iload_n hx hb dJ1_indexOf_4cfef_15 rfl (lv_at hl 3 rfl) ?_
    refine lv_aload_n hx hb dJ1_indexOf_4cfef_16 rfl (lv_at hl 1 rfl) ?_
    refine va_tlen (v := (23 : Int32)) hx hb (hTk.2.1.1 0 (by decide)).2.2.2 hS (by decide) dJ1_indexOf_4cfef_17 ?_
    refine va_mmin hx hb (hml.trans hl.1.symm) hown (hts (.methodLink RJ1 38 Lib.Math.min.name) (List.mem_of_getElem? (i := 5) rfl)) (hts (.static Lib.Math.min.name) (List.mem_of_getElem? (i := 6) rfl)) (hts (.initialized "java/lang/Math") (List.mem_of_getElem? (i := 3) rfl)) (hts (.code Lib.Math.min.name Lib.Math.min.code 2 (some .int)) (List.mem_of_getElem? (i := 7) rfl)) (Nat.le_of_ble_eq_true rfl) (Nat.le_of_ble_eq_true rfl) (Nat.zero_le _) (Nat.zero_le _) dJ1_indexOf_4cfef_18 ?_
    refine lv_topi (fun y6z ey6z => ?_)
    have h := xl_at h ey6z
    refine lv_istore_n (lv' := [(3, .int y6z), (2, .int y5z), (0, .ref tkV), (1, .int v1)]) hx hb dJ1_indexOf_4cfef_21 rfl hl (by decide) rfl (fun ls hl => ?_)
    refine lv_iload_n hx hb dJ1_indexOf_4cfef_22 rfl (lv_at hl 1 rfl) ?_
    refine lv_iload_n hx hb dJ1_indexOf_4cfef_23 rfl (lv_at hl 0 rfl) ?_
    refine lv_icmp_lt (tgt := 29) hx hb dJ1_indexOf_4cfef_24 (by decide) (fun c7z => ?_) (fun c7z => ?_)
    · have h := xt h c7z
      refine lv_aload_n hx hb dJ1_indexOf_4cfef_29 rfl (lv_at hl 2 rfl) ?_
      refine lv_iload_n hx hb dJ1_indexOf_4cfef_30 rfl (lv_at hl 3 rfl) ?_
      refine lv_iload_n hx hb dJ1_indexOf_4cfef_31 rfl (lv_at hl 1 rfl) ?_
      refine lv_iload_n hx hb dJ1_indexOf_4cfef_32 rfl (lv_at hl 0 rfl) ?_
      obtain ⟨r8z, hr8z, h⟩ := xb_at h
      have hPc := hP.sub (ws' := (wd37 cyI cyJ cyZ)) [] rfl
      have hDc := hD.sub (ws' := (wd37 cyI cyJ cyZ)) [] (by decide) rfl
      refine cal_i [] [] (va_runS (As := [.ref tkV, .int v1, .int y5z, .int y6z]) (rest := []) ⟨hx, hb, hml, hown, hts⟩ (c_J1_indexOfChar_4cfef l dC dI cyI cyJ cyZ N r8z H.size  v1 y5z y6z  hr8z) (va_cwS 4 hts gJ1_indexOf_4cfef_J1_indexOfChar_4cfef rfl rfl rfl hd_J1_indexOfChar_4cfef ⟨Nat.le_of_ble_eq_true rfl, Nat.le_of_ble_eq_true rfl⟩) ⟨pS.blind, pS.pre hPc hG hDc (hTk.go hS (va_free (wc := (wd37 cyI cyJ cyZ)) hD hS hA [] rfl))⟩ rfl rfl hl.1 rfl (lv_room (Nat.le_of_ble_eq_true rfl)) dJ1_indexOf_4cfef_33 ⟨Nat.zero_le _, Nat.zero_le _⟩) hP hD hS hA rfl rfl rfl (by decide) (fun x10z u9z H locs hw hP hD hS => ?_)
      obtain rfl := hw.symm
      have hP : va_P (dC, dI) vwCl (wd37 cyI cyJ cyZ) H := hP.sub [] rfl
      have hD : va_D A (wd37 cyI cyJ cyZ) := hD.sub [] (by decide) rfl
      obtain rfl := Option.some.inj h
      exact W.iret (v := r8z) hx hb hr (fun t ht hW => ⟨⟨_, (), rfl, rfl, by rw [ht]; exact hP, hD⟩, hS.F ht⟩) hS.2.2 dJ1_indexOf_4cfef_36 hlocks
    · have h := xf h c7z
      refine lv_iconst (v := (-1 : Int32)) hx hb dJ1_indexOf_4cfef_27 (by decide) ?_
      obtain rfl := Option.some.inj h
      exact W.iret (v := (-1 : Int32)) hx hb hr (fun t ht hW => ⟨⟨_, (), rfl, rfl, by rw [ht]; exact hP, hD⟩, hS.F ht⟩) hS.2.2 dJ1_indexOf_4cfef_28 hlocks
  · have h := xt h c4z
    refine lv_iconst (v := (-1 : Int32)) hx hb dJ1_indexOf_4cfef_7 (by decide) ?_
    obtain rfl := Option.some.inj h
    exact W.iret (v := (-1 : Int32)) hx hb hr (fun t ht hW => ⟨⟨_, (), rfl, rfl, by rw [ht]; exact hP, hD⟩, hS.F ht⟩) hS.2.2 dJ1_indexOf_4cfef_8 hlocks
set_option maxRecDepth 100000 in
set_option maxHeartbeats 4000000 in
theorem c_J1_indexOf_4cfef (l : Launch) (dC : Nat → ClassId) (dI : Nat → Nat → Nat) (cyI cyJ cyZ : ClassId) {tkA tkV : Nat} (N : Nat) (res : Int32) (sz : Nat) (v1 : Int32) (v2 : Int32) (v3 : Int32) (h : f_J1_indexOf_4cfef N v1 v2 v3  = some res) : Met l yJ1_indexOf_4cfef wsJ1_indexOf_4cfef rm_J1_indexOf_4cfef (pS tkA tkV dC dI cyI cyJ cyZ [.ref tkV, .int v1, .int v2, .int v3] sz (wd37 cyI cyJ cyZ)) (va_Qi (fun (r : Int32) (_ : Unit) => r = res) (bW dC dI (fun (u : Unit) => (wd37 cyI cyJ cyZ)) (va_A (wd37 cyI cyJ cyZ) sz)) (va_A (wd37 cyI cyJ cyZ) sz)) 0 0 (va_A (wd37 cyI cyJ cyZ) sz) := by
  refine Met.ofW (cc := cJ1_indexOf_4cfef) (maxL := 4) (ret := (some .int)) (by decide) rfl ?_
  intro p e s m args below meth c s₁ B hml hv
  obtain ⟨⟨rfl, hsz, hP, hG, hD0⟩, hTk⟩ := hv
  have hx := B.exec
  have hb := B.bytes
  have hr := B.returns
  have hts := atoms_spec (ws := wsJ1_indexOf_4cfef) B.pre
  have hown : s.vm.findClass RJ1 = some m.cls := findClass_of_methodNamed B.named
  have hlocks := B.notSynchronized
  subst hsz
  have hD := hD0.self (sz := s.heap.size)
  generalize hAe : va_A (wd37 cyI cyJ cyZ) s.heap.size = A at hD hTk ⊢
  have hA : ∀ q : Nat, s.heap.size ≤ q → A q := fun q h => by rw [← hAe]; exact Or.inr h
  have hS : va_S A s.heap s.heap [] := va_S.rf
  have hl := lv_entry ([.ref tkV, .int v1, .int v2, .int v3]) (n := 4) (Nat.le_of_ble_eq_true rfl)
  rw [lg_entry_eq]
  generalize (lg_sl ([.ref tkV, .int v1, .int v2, .int v3]) ++ List.replicate (4 - (lg_sl ([.ref tkV, .int v1, .int v2, .int v3])).length) Slot.unset).toArray = ls at hl ⊢
  have hl : lv_has ls 4 [(0, .ref tkV), (1, .int v1), (2, .int v2), (3, .int v3)] := hl
  exact k_J1_indexOf_4cfef_0 ⟨hx, hb, hr, hml, hown, hts, hlocks, hG, hA⟩ hTk N res  v1 v2 v3  h _ _ hP hD hS _ hl
abbrev rm_J0_indexOf_7cf53 : Room := { frames := 2, cells := 0, slots := 0, locals := 48 }
theorem hd_J0_indexOf_7cf53 : yJ0_indexOf_7cf53.cls ≠ "java/lang/invoke/MethodHandle" ∧ yJ0_indexOf_7cf53.cls ≠ "java/lang/invoke/VarHandle" ∧ (parseMethodDescriptor yJ0_indexOf_7cf53.desc).map (fun d => d.parameters.length) = some 2 := by decide +kernel
def f_J0_indexOf_7cf53 (N : Nat) (v1 : Int32) (v2 : Int32) : Option (Int32) :=
  Option.bind (f_J0_isLatin1_aae02 N ) fun r1z =>
  if r1z = 0 then
    none
  else
    Option.bind (f_J0_length_8abf5 N ) fun r5z =>
    Option.bind (f_J1_indexOf_4cfef N v1 v2 r5z) fun r8z =>
    some r8z
set_option maxRecDepth 100000 in
set_option maxHeartbeats 4000000 in
theorem k_J0_indexOf_7cf53_0 {p : Program} {l : Launch} {e : Env} {s : State} {m : MethodId} {args : Array Value} {below : List Frame} {meth : Method} {c : Code} {dC : Nat → ClassId} {dI : Nat → Nat → Nat} {cyI cyJ cyZ : ClassId} {A : Nat → Prop} (C0 : mC p s m meth c args cJ0_indexOf_7cf53 (some .int) 3 RJ0 wsJ0_indexOf_7cf53 (gK dC dI cyI cyJ cyZ) A) {tkA tkV : Nat} (hTk : tkS tkA tkV A s) (N : Nat) (res : Int32) (v1 : Int32) (v2 : Int32) (h : f_J0_indexOf_7cf53 N v1 v2 = some res) : ∀ (H : Heap) (locs : List Loc), va_P (dC, dI) vwCl (wd37 cyI cyJ cyZ) H → va_D A (wd37 cyI cyJ cyZ) → va_S A s.heap H locs → ∀ (ls : Array Slot), lv_has ls 3 [(0, .ref tkA), (1, .int v1), (2, .int v2)] → W p l e (headSpec wsJ0_indexOf_7cf53 rm_J0_indexOf_7cf53).room s m args below meth c H locs 0 0 (MQ below (va_Qi (fun (r : Int32) (_ : Unit) => r = res) (bW dC dI (fun (u : Unit) => (wd37 cyI cyJ cyZ)) A) A) args s 0 0 A) (F0 m 0 ls []) := by
  obtain ⟨hx, hb, hr, hml, hown, hts, hlocks, hG, hA⟩ := id C0
  have hK := hG.1
  intro H locs hP hD hS ls hl
  unfold f_J0_indexOf_7cf53 at h
  refine lv_aload_n hx hb dJ0_indexOf_7cf53_0 rfl (lv_at hl 0 rfl) ?_
  obtain ⟨r1z, hr1z, h⟩ := xb_at h
  have hPc := hP.sub (ws' := (wd37 cyI cyJ cyZ)) [] rfl
  have hDc := hD.sub (ws' := (wd37 cyI cyJ cyZ)) [] (by decide) rfl
  refine cal_i [] [] (va_runV (As := []) (rest := []) ⟨hx, hb, hml, hown, hts⟩ (c_J0_isLatin1_aae02 l dC dI cyI cyJ cyZ N r1z H.size    hr1z) (cwV 0 hts gJ0_indexOf_7cf53_J0_isLatin1_aae02 rfl rfl rfl ⟨rfl, hd_J0_isLatin1_aae02⟩ ⟨Nat.le_of_ble_eq_true rfl, Nat.le_of_ble_eq_true rfl⟩) ⟨pS.blind, vk_recv hTk.2.1 (i := 0) (by decide) hS, pS.pre hPc hG hDc (hTk.go hS (va_free (wc := (wd37 cyI cyJ cyZ)) hD hS hA [] rfl))⟩ rfl rfl hl.1 rfl (lv_room (Nat.le_of_ble_eq_true rfl)) dJ0_indexOf_7cf53_1 ⟨Nat.zero_le _, Nat.zero_le _⟩) hP hD hS hA rfl rfl rfl (by decide) (fun x3z u2z H locs hw hP hD hS => ?_)
  obtain rfl := hw.symm
  have hP : va_P (dC, dI) vwCl (wd37 cyI cyJ cyZ) H := hP.sub [] rfl
  have hD : va_D A (wd37 cyI cyJ cyZ) := hD.sub [] (by decide) rfl
  refine lv_if_eq (tgt := 23) hx hb dJ0_indexOf_7cf53_4 (by decide) (fun c4z => ?_) (fun c4z => ?_)
  · have h := xt h c4z
    cases h
  · have h := xf h c4z
    refine lv_aload_n hx hb dJ0_indexOf_7cf53_7 rfl (lv_at hl 0 rfl) ?_
    refine vk_getf hx hb (hTk.2.1.1 0 (by decide)).2.2.1 hS hown (hts (.fieldLink RJ0 9 "java/lang/String" "value" "[B") (List.mem_of_getElem? (i := 1) rfl)) (fun _ h9 => h9) dJ0_indexOf_7cf53_8 ?_
    refine lv_iload_n hx hb dJ0_indexOf_7cf53_11 rfl (lv_at hl 1 rfl) ?_
    refine lv_iload_n hx hb dJ0_indexOf_7cf53_12 rfl (lv_at hl 2 rfl) ?_
    refine lv_aload_n hx hb dJ0_indexOf_7cf53_13 rfl (lv_at hl 0 rfl) ?_
    obtain ⟨r5z, hr5z, h⟩ := xb_at h
    have hPc := hP.sub (ws' := (wd37 cyI cyJ cyZ)) [] rfl
    have hDc := hD.sub (ws' := (wd37 cyI cyJ cyZ)) [] (by decide) rfl
    refine cal_i [] [] (va_runV (As := []) (rest := [.int v2, .int v1, .ref tkV]) ⟨hx, hb, hml, hown, hts⟩ (c_J0_length_8abf5 l dC dI cyI cyJ cyZ N r5z H.size    hr5z) (cwV 0 hts gJ0_indexOf_7cf53_J0_length_8abf5 rfl rfl rfl ⟨rfl, hd_J0_length_8abf5⟩ ⟨Nat.le_of_ble_eq_true rfl, Nat.le_of_ble_eq_true rfl⟩) ⟨pS.blind, vk_recv hTk.2.1 (i := 0) (by decide) hS, pS.pre hPc hG hDc (hTk.go hS (va_free (wc := (wd37 cyI cyJ cyZ)) hD hS hA [] rfl))⟩ rfl rfl hl.1 rfl (lv_room (Nat.le_of_ble_eq_true rfl)) dJ0_indexOf_7cf53_14 ⟨Nat.zero_le _, Nat.zero_le _⟩) hP hD hS hA rfl rfl rfl (by decide) (fun x7z u6z H locs hw hP hD hS => ?_)
    obtain rfl := hw.symm
    have hP : va_P (dC, dI) vwCl (wd37 cyI cyJ cyZ) H := hP.sub [] rfl
    have hD : va_D A (wd37 cyI cyJ cyZ) := hD.sub [] (by decide) rfl
    obtain ⟨r8z, hr8z, h⟩ := xb_at h
    have hPc := hP.sub (ws' := (wd37 cyI cyJ cyZ)) [] rfl
    have hDc := hD.sub (ws' := (wd37 cyI cyJ cyZ)) [] (by decide) rfl
    refine cal_i [] [] (va_runS (As := [.ref tkV, .int v1, .int v2, .int r5z]) (rest := []) ⟨hx, hb, hml, hown, hts⟩ (c_J1_indexOf_4cfef l dC dI cyI cyJ cyZ N r8z H.size  v1 v2 r5z  hr8z) (va_cwS 4 hts gJ0_indexOf_7cf53_J1_indexOf_4cfef rfl rfl rfl hd_J1_indexOf_4cfef ⟨Nat.le_of_ble_eq_true rfl, Nat.le_of_ble_eq_true rfl⟩) ⟨pS.blind, pS.pre hPc hG hDc (hTk.go hS (va_free (wc := (wd37 cyI cyJ cyZ)) hD hS hA [] rfl))⟩ rfl rfl hl.1 rfl (lv_room (Nat.le_of_ble_eq_true rfl)) dJ0_indexOf_7cf53_17 ⟨Nat.zero_le _, Nat.zero_le _⟩) hP hD hS hA rfl rfl rfl (by decide) (fun x10z u9z H locs hw hP hD hS => ?_)
    obtain rfl := hw.symm
    have hP : va_P (dC, dI) vwCl (wd37 cyI cyJ cyZ) H := hP.sub [] rfl
    have hD : va_D A (wd37 cyI cyJ cyZ) := hD.sub [] (by decide) rfl
    refine lv_goto (tgt := 36) hx hb dJ0_indexOf_7cf53_20 (by decide) ?_
    obtain rfl := Option.some.inj h
    exact W.iret (v := r8z) hx hb hr (fun t ht hW => ⟨⟨_, (), rfl, rfl, by rw [ht]; exact hP, hD⟩, hS.F ht⟩) hS.2.2 dJ0_indexOf_7cf53_36 hlocks
set_option maxRecDepth 100000 in
set_option maxHeartbeats 4000000 in
theorem c_J0_indexOf_7cf53 (l : Launch) (dC : Nat → ClassId) (dI : Nat → Nat → Nat) (cyI cyJ cyZ : ClassId) {tkA tkV : Nat} (N : Nat) (res : Int32) (sz : Nat) (v1 : Int32) (v2 : Int32) (h : f_J0_indexOf_7cf53 N v1 v2  = some res) : Met l yJ0_indexOf_7cf53 wsJ0_indexOf_7cf53 rm_J0_indexOf_7cf53 (pS tkA tkV dC dI cyI cyJ cyZ [.ref tkA, .int v1, .int v2] sz (wd37 cyI cyJ cyZ)) (va_Qi (fun (r : Int32) (_ : Unit) => r = res) (bW dC dI (fun (u : Unit) => (wd37 cyI cyJ cyZ)) (va_A (wd37 cyI cyJ cyZ) sz)) (va_A (wd37 cyI cyJ cyZ) sz)) 0 0 (va_A (wd37 cyI cyJ cyZ) sz) := by
  refine Met.ofW (cc := cJ0_indexOf_7cf53) (maxL := 3) (ret := (some .int)) (by decide) rfl ?_
  intro p e s m args below meth c s₁ B hml hv
  obtain ⟨⟨rfl, hsz, hP, hG, hD0⟩, hTk⟩ := hv
  have hx := B.exec
  have hb := B.bytes
  have hr := B.returns
  have hts := atoms_spec (ws := wsJ0_indexOf_7cf53) B.pre
  have hown : s.vm.findClass RJ0 = some m.cls := findClass_of_methodNamed B.named
  have hlocks := B.notSynchronized
  subst hsz
  have hD := hD0.self (sz := s.heap.size)
  generalize hAe : va_A (wd37 cyI cyJ cyZ) s.heap.size = A at hD hTk ⊢
  have hA : ∀ q : Nat, s.heap.size ≤ q → A q := fun q h => by rw [← hAe]; exact Or.inr h
  have hS : va_S A s.heap s.heap [] := va_S.rf
  have hl := lv_entry ([.ref tkA, .int v1, .int v2]) (n := 3) (Nat.le_of_ble_eq_true rfl)
  rw [lg_entry_eq]
  generalize (lg_sl ([.ref tkA, .int v1, .int v2]) ++ List.replicate (3 - (lg_sl ([.ref tkA, .int v1, .int v2])).length) Slot.unset).toArray = ls at hl ⊢
  have hl : lv_has ls 3 [(0, .ref tkA), (1, .int v1), (2, .int v2)] := hl
  exact k_J0_indexOf_7cf53_0 ⟨hx, hb, hr, hml, hown, hts, hlocks, hG, hA⟩ hTk N res  v1 v2  h _ _ hP hD hS _ hl
abbrev rm_J0_indexOf_0f7a4 : Room := { frames := 3, cells := 0, slots := 0, locals := 70 }
theorem hd_J0_indexOf_0f7a4 : yJ0_indexOf_0f7a4.cls ≠ "java/lang/invoke/MethodHandle" ∧ yJ0_indexOf_0f7a4.cls ≠ "java/lang/invoke/VarHandle" ∧ (parseMethodDescriptor yJ0_indexOf_0f7a4.desc).map (fun d => d.parameters.length) = some 1 := by decide +kernel
def f_J0_indexOf_0f7a4 (N : Nat) (v1 : Int32) : Option (Int32) :=
  Option.bind (f_J0_indexOf_7cf53 N v1 (0 : Int32)) fun r1z =>
  some r1z
set_option maxRecDepth 100000 in
set_option maxHeartbeats 4000000 in
theorem k_J0_indexOf_0f7a4_0 {p : Program} {l : Launch} {e : Env} {s : State} {m : MethodId} {args : Array Value} {below : List Frame} {meth : Method} {c : Code} {dC : Nat → ClassId} {dI : Nat → Nat → Nat} {cyI cyJ cyZ : ClassId} {A : Nat → Prop} (C0 : mC p s m meth c args cJ0_indexOf_0f7a4 (some .int) 2 RJ0 wsJ0_indexOf_0f7a4 (gK dC dI cyI cyJ cyZ) A) {tkA tkV : Nat} (hTk : tkS tkA tkV A s) (N : Nat) (res : Int32) (v1 : Int32) (h : f_J0_indexOf_0f7a4 N v1 = some res) : ∀ (H : Heap) (locs : List Loc), va_P (dC, dI) vwCl (wd37 cyI cyJ cyZ) H → va_D A (wd37 cyI cyJ cyZ) → va_S A s.heap H locs → ∀ (ls : Array Slot), lv_has ls 2 [(0, .ref tkA), (1, .int v1)] → W p l e (headSpec wsJ0_indexOf_0f7a4 rm_J0_indexOf_0f7a4).room s m args below meth c H locs 0 0 (MQ below (va_Qi (fun (r : Int32) (_ : Unit) => r = res) (bW dC dI (fun (u : Unit) => (wd37 cyI cyJ cyZ)) A) A) args s 0 0 A) (F0 m 0 ls []) := by
  obtain ⟨hx, hb, hr, hml, hown, hts, hlocks, hG, hA⟩ := id C0
  have hK := hG.1
  intro H locs hP hD hS ls hl
  unfold f_J0_indexOf_0f7a4 at h
  refine lv_aload_n hx hb dJ0_indexOf_0f7a4_0 rfl (lv_at hl 0 rfl) ?_
  refine lv_iload_n hx hb dJ0_indexOf_0f7a4_1 rfl (lv_at hl 1 rfl) ?_
  refine lv_iconst (v := (0 : Int32)) hx hb dJ0_indexOf_0f7a4_2 (by decide) ?_
  obtain ⟨r1z, hr1z, h⟩ := xb_at h
  have hPc := hP.sub (ws' := (wd37 cyI cyJ cyZ)) [] rfl
  have hDc := hD.sub (ws' := (wd37 cyI cyJ cyZ)) [] (by decide) rfl
  refine cal_i [] [] (va_runV (As := [.int v1, .int (0 : Int32)]) (rest := []) ⟨hx, hb, hml, hown, hts⟩ (c_J0_indexOf_7cf53 l dC dI cyI cyJ cyZ N r1z H.size  v1 (0 : Int32)  hr1z) (cwV 2 hts gJ0_indexOf_0f7a4_J0_indexOf_7cf53 rfl rfl rfl ⟨rfl, hd_J0_indexOf_7cf53⟩ ⟨Nat.le_of_ble_eq_true rfl, Nat.le_of_ble_eq_true rfl⟩) ⟨pS.blind, vk_recv hTk.2.1 (i := 0) (by decide) hS, pS.pre hPc hG hDc (hTk.go hS (va_free (wc := (wd37 cyI cyJ cyZ)) hD hS hA [] rfl))⟩ rfl rfl hl.1 rfl (lv_room (Nat.le_of_ble_eq_true rfl)) dJ0_indexOf_0f7a4_3 ⟨Nat.zero_le _, Nat.zero_le _⟩) hP hD hS hA rfl rfl rfl (by decide) (fun x3z u2z H locs hw hP hD hS => ?_)
  obtain rfl := hw.symm
  have hP : va_P (dC, dI) vwCl (wd37 cyI cyJ cyZ) H := hP.sub [] rfl
  have hD : va_D A (wd37 cyI cyJ cyZ) := hD.sub [] (by decide) rfl
  obtain rfl := Option.some.inj h
  exact W.iret (v := r1z) hx hb hr (fun t ht hW => ⟨⟨_, (), rfl, rfl, by rw [ht]; exact hP, hD⟩, hS.F ht⟩) hS.2.2 dJ0_indexOf_0f7a4_6 hlocks
set_option maxRecDepth 100000 in
set_option maxHeartbeats 4000000 in
theorem c_J0_indexOf_0f7a4 (l : Launch) (dC : Nat → ClassId) (dI : Nat → Nat → Nat) (cyI cyJ cyZ : ClassId) {tkA tkV : Nat} (N : Nat) (res : Int32) (sz : Nat) (v1 : Int32) (h : f_J0_indexOf_0f7a4 N v1  = some res) : Met l yJ0_indexOf_0f7a4 wsJ0_indexOf_0f7a4 rm_J0_indexOf_0f7a4 (pS tkA tkV dC dI cyI cyJ cyZ [.ref tkA, .int v1] sz (wd37 cyI cyJ cyZ)) (va_Qi (fun (r : Int32) (_ : Unit) => r = res) (bW dC dI (fun (u : Unit) => (wd37 cyI cyJ cyZ)) (va_A (wd37 cyI cyJ cyZ) sz)) (va_A (wd37 cyI cyJ cyZ) sz)) 0 0 (va_A (wd37 cyI cyJ cyZ) sz) := by
  refine Met.ofW (cc := cJ0_indexOf_0f7a4) (maxL := 2) (ret := (some .int)) (by decide) rfl ?_
  intro p e s m args below meth c s₁ B hml hv
  obtain ⟨⟨rfl, hsz, hP, hG, hD0⟩, hTk⟩ := hv
  have hx := B.exec
  have hb := B.bytes
  have hr := B.returns
  have hts := atoms_spec (ws := wsJ0_indexOf_0f7a4) B.pre
  have hown : s.vm.findClass RJ0 = some m.cls := findClass_of_methodNamed B.named
  have hlocks := B.notSynchronized
  subst hsz
  have hD := hD0.self (sz := s.heap.size)
  generalize hAe : va_A (wd37 cyI cyJ cyZ) s.heap.size = A at hD hTk ⊢
  have hA : ∀ q : Nat, s.heap.size ≤ q → A q := fun q h => by rw [← hAe]; exact Or.inr h
  have hS : va_S A s.heap s.heap [] := va_S.rf
  have hl := lv_entry ([.ref tkA, .int v1]) (n := 2) (Nat.le_of_ble_eq_true rfl)
  rw [lg_entry_eq]
  generalize (lg_sl ([.ref tkA, .int v1]) ++ List.replicate (2 - (lg_sl ([.ref tkA, .int v1])).length) Slot.unset).toArray = ls at hl ⊢
  have hl : lv_has ls 2 [(0, .ref tkA), (1, .int v1)] := hl
  exact k_J0_indexOf_0f7a4_0 ⟨hx, hb, hr, hml, hown, hts, hlocks, hG, hA⟩ hTk N res  v1  h _ _ hP hD hS _ hl
abbrev rm_X10_append : Room := { frames := 4, cells := 0, slots := 0, locals := 91 }
theorem hd_X10_append : yX10_append.cls ≠ "java/lang/invoke/MethodHandle" ∧ yX10_append.cls ≠ "java/lang/invoke/VarHandle" ∧ (parseMethodDescriptor yX10_append.desc).map (fun d => d.parameters.length) = some 2 := by decide +kernel
theorem iw_X10_append_X10 : ∀ w ∈ wsX100, w ∈ wsX10_append := List.forall_mem_cons.mpr ⟨List.mem_of_getElem? (i := 93) rfl, List.forall_mem_cons.mpr ⟨List.mem_of_getElem? (i := 94) rfl, List.forall_mem_cons.mpr ⟨List.mem_of_getElem? (i := 95) rfl, List.forall_mem_cons.mpr ⟨List.mem_of_getElem? (i := 96) rfl, fun _ h => absurd h List.not_mem_nil⟩⟩⟩⟩
def s_X10_append_19 (N : Nat) (v2 : Int64) (k_19 : (Int32 × Int32 × (Nat → Int32)) → Option (Int32 × Int32 × (Nat → Int32))) (v4 : Int32) (wi_length : Int32) (a_text : Nat → Int32) : Option (Int32 × Int32 × (Nat → Int32)) :=
  if v4 < 0 then
    some (wi_length, wi_length, a_text)
  else
    if (60 : Int32) ≤ wi_length then
      some (wi_length, wi_length, a_text)
    else
      xl ((((v2.toUInt64 >>> (((8 : Int32) * v4).toInt64.toUInt64 &&& Int64.toUInt64 63)).toInt64) &&& (255 : Int64)).toInt32) fun y5z =>
      Option.bind (f_J0_indexOf_0f7a4 N ((y5z.toUInt32 % 65536).toInt32)) fun r6z =>
      if wi_length < 0 ∨ 60 ≤ wi_length.toNatClampNeg then
        none
      else
        xl (wi_length + (1 : Int32)) fun y10z =>
        xl (v4 + (-1 : Int32)) fun y11z =>
        k_19 (y11z, y10z, upd a_text wi_length.toNatClampNeg r6z)
def l_X10_append_19 (N : Nat) (v2 : Int64) (n : Nat) (z : Int32 × Int32 × (Nat → Int32)) : Option (Int32 × Int32 × (Nat → Int32)) := lp (fun k z => s_X10_append_19 N v2 k z.1 z.2.1 z.2.2) n z
set_option maxRecDepth 100000 in
set_option maxHeartbeats 4000000 in
theorem k_X10_append_19 {p : Program} {l : Launch} {e : Env} {s : State} {m : MethodId} {args : Array Value} {below : List Frame} {meth : Method} {c : Code} {dC : Nat → ClassId} {dI : Nat → Nat → Nat} {cyI cyJ cyZ : ClassId} {A : Nat → Prop} (C0 : mC p s m meth c args cX10_append (some .int) 6 RX10 wsX10_append (gK dC dI cyI cyJ cyZ) A) {tkA tkV : Nat} (hTk : tkS tkA tkV A s) (N : Nat) (res : Int32 × Int32 × (Nat → Int32)) (q_Ws : Nat) (q_text : Nat) (q_Tr : Nat) (q_Pk2 : Nat) (v2 : Int64) : ∀ (n : Nat) (v4 : Int32) (wi_length : Int32) (a_text : Nat → Int32), l_X10_append_19 N v2 n (v4, wi_length, a_text) = some res → ∀ (H : Heap) (locs : List Loc), va_P (dC, dI) vwCl (wd38 cyI cyJ cyZ q_Ws q_text q_Tr q_Pk2 wi_length a_text) H → va_D A (wd38 cyI cyJ cyZ q_Ws q_text q_Tr q_Pk2 wi_length a_text) → va_S A s.heap H locs → ∀ (ls : Array Slot), lv_has ls 6 [(0, .ref q_Ws), (2, .long v2), (4, .int v4)] → W p l e (headSpec wsX10_append rm_X10_append).room s m args below meth c H locs 0 0 (MQ below (va_Qi (fun (r : Int32) (_ : Unit) => r = res.1) (bW dC dI (fun (u : Unit) => (wd38 cyI cyJ cyZ q_Ws q_text q_Tr q_Pk2 res.2.1 res.2.2)) A) A) args s 0 0 A) (F0 m 19 ls []) := by
  obtain ⟨hx, hb, hr, hml, hown, hts, hlocks, hG, hA⟩ := id C0
  have hK := hG.1
  intro n
  induction n with
  | zero =>
    intro v4 wi_length a_text h
    cases h
  | succ n ih =>
    intro v4 wi_length a_text h H locs hP hD hS ls hl
    have h : s_X10_append_19 N v2 (l_X10_append_19 N v2 n) v4 wi_length a_text = some res := h
    unfold s_X10_append_19 at h
    refine lv_iload hx hb dX10_append_19 (lv_at hl 2 rfl) ?_
    refine lv_if_lt (tgt := 80) hx hb dX10_append_21 (by decide) (fun c3z => ?_) (fun c3z => ?_)
    · have h := xt h c3z
      refine lv_aload_n hx hb dX10_append_80 rfl (lv_at hl 0 rfl) ?_
      refine va_get (D := (dC, dI)) (ci := 10) (v := .int wi_length) (C := RX10) (T := TX10) (N := 4) hx hb hts iw_X10_append_X10 hown hK hP 0 rfl rfl 3 (by decide) (hts (.fieldLink RX10 22 "GoesInto$Wishes" "length" "I") (List.mem_of_getElem? (i := 1) rfl)) (fun _ h9 => h9) rfl dX10_append_81 ?_
      obtain rfl := Option.some.inj h
      exact W.iret (v := wi_length) hx hb hr (fun t ht hW => ⟨⟨_, (), rfl, rfl, by rw [ht]; exact hP, hD⟩, hS.F ht⟩) hS.2.2 dX10_append_84 hlocks
    · have h := xf h c3z
      refine lv_aload_n hx hb dX10_append_24 rfl (lv_at hl 0 rfl) ?_
      refine va_get (D := (dC, dI)) (ci := 10) (v := .int wi_length) (C := RX10) (T := TX10) (N := 4) hx hb hts iw_X10_append_X10 hown hK hP 0 rfl rfl 3 (by decide) (hts (.fieldLink RX10 22 "GoesInto$Wishes" "length" "I") (List.mem_of_getElem? (i := 1) rfl)) (fun _ h9 => h9) rfl dX10_append_25 ?_
      refine lv_bipush (v := (60 : Int32)) hx hb dX10_append_28 (by decide) ?_
      refine lv_icmp_ge (tgt := 80) hx hb dX10_append_30 (by decide) (fun c4z => ?_) (fun c4z => ?_)
      · have h := xt h c4z
        refine lv_aload_n hx hb dX10_append_80 rfl (lv_at hl 0 rfl) ?_
        refine va_get (D := (dC, dI)) (ci := 10) (v := .int wi_length) (C := RX10) (T := TX10) (N := 4) hx hb hts iw_X10_append_X10 hown hK hP 0 rfl rfl 3 (by decide) (hts (.fieldLink RX10 22 "GoesInto$Wishes" "length" "I") (List.mem_of_getElem? (i := 1) rfl)) (fun _ h9 => h9) rfl dX10_append_81 ?_
        obtain rfl := Option.some.inj h
        exact W.iret (v := wi_length) hx hb hr (fun t ht hW => ⟨⟨_, (), rfl, rfl, by rw [ht]; exact hP, hD⟩, hS.F ht⟩) hS.2.2 dX10_append_84 hlocks
      · have h := xf h c4z
        refine lv_lload_n hx hb dX10_append_33 rfl (lv_at hl 1 rfl) ?_
        refine lv_bipush (v := (8 : Int32)) hx hb dX10_append_34 (by decide) ?_
        refine lv_iload hx hb dX10_append_36 (lv_at hl 2 rfl) ?_
        refine lv_imul hx hb dX10_append_38 ?_
        refine lv_lushr (v := (v2.toUInt64 >>> (((8 : Int32) * v4).toInt64.toUInt64 &&& Int64.toUInt64 63)).toInt64) hx hb dX10_append_39 rfl ?_
        refine lv_ldc2 (v := (255 : Int64)) hx hb hown (hts (.constantLong RX10 30 (255)) (List.mem_of_getElem? (i := 2) rfl)) dX10_append_40 ?_
        refine lv_land hx hb dX10_append_43 ?_
        refine lv_l2i (v := (((v2.toUInt64 >>> (((8 : Int32) * v4).toInt64.toUInt64 &&& Int64.toUInt64 63)).toInt64) &&& (255 : Int64)).toInt32) hx hb dX10_append_44 rfl ?_
        refine lv_topi (fun y5z ey5z => ?_)
        have h := xl_at h ey5z
        refine lv_istore (lv' := [(5, .int y5z), (0, .ref q_Ws), (2, .long v2), (4, .int v4)]) hx hb dX10_append_45 hl (by decide) rfl (fun ls hl => ?_)
        refine lv_aload_n hx hb dX10_append_47 rfl (lv_at hl 1 rfl) ?_
        refine va_get (D := (dC, dI)) (ci := 10) (v := .ref q_text) (C := RX10) (T := TX10) (N := 4) hx hb hts iw_X10_append_X10 hown hK hP 0 rfl rfl 2 (by decide) (hts (.fieldLink RX10 18 "GoesInto$Wishes" "text" "[I") (List.mem_of_getElem? (i := 3) rfl)) (fun _ h9 => h9) rfl dX10_append_48 ?_
        refine lv_aload_n hx hb dX10_append_51 rfl (lv_at hl 1 rfl) ?_
        refine va_get (D := (dC, dI)) (ci := 10) (v := .int wi_length) (C := RX10) (T := TX10) (N := 4) hx hb hts iw_X10_append_X10 hown hK hP 0 rfl rfl 3 (by decide) (hts (.fieldLink RX10 22 "GoesInto$Wishes" "length" "I") (List.mem_of_getElem? (i := 1) rfl)) (fun _ h9 => h9) rfl dX10_append_52 ?_
        refine va_ldcS hx hb hown hTk.1 dX10_append_55 ?_
        refine lv_iload hx hb dX10_append_57 (lv_at hl 0 rfl) ?_
        refine lv_i2c (v := (y5z.toUInt32 % 65536).toInt32) hx hb dX10_append_59 rfl ?_
        obtain ⟨r6z, hr6z, h⟩ := xb_at h
        have hPc := hP.sub (ws' := (wd37 cyI cyJ cyZ)) [] rfl
        have hDc := hD.sub (ws' := (wd37 cyI cyJ cyZ)) [] (by decide) rfl
        refine cal_i [] [0, 1] (va_runV (As := [.int ((y5z.toUInt32 % 65536).toInt32)]) (rest := [.int wi_length, .ref q_text]) ⟨hx, hb, hml, hown, hts⟩ (c_J0_indexOf_0f7a4 l dC dI cyI cyJ cyZ N r6z H.size  ((y5z.toUInt32 % 65536).toInt32)  hr6z) (cwV 1 hts gX10_append_J0_indexOf_0f7a4 rfl rfl rfl ⟨rfl, hd_J0_indexOf_0f7a4⟩ ⟨Nat.le_of_ble_eq_true rfl, Nat.le_of_ble_eq_true rfl⟩) ⟨pS.blind, vk_recv hTk.2.1 (i := 0) (by decide) hS, pS.pre hPc hG hDc (hTk.go hS (va_free (wc := (wd37 cyI cyJ cyZ)) hD hS hA [] rfl))⟩ rfl rfl hl.1 rfl (lv_room (Nat.le_of_ble_eq_true rfl)) dX10_append_60 ⟨Nat.zero_le _, Nat.zero_le _⟩) hP hD hS hA rfl rfl rfl (by decide) (fun x8z u7z H locs hw hP hD hS => ?_)
        obtain rfl := hw.symm
        have hP : va_P (dC, dI) vwCl (wd38 cyI cyJ cyZ q_Ws q_text q_Tr q_Pk2 wi_length a_text) H := hP.sub [0, 1] rfl
        have hD : va_D A (wd38 cyI cyJ cyZ q_Ws q_text q_Tr q_Pk2 wi_length a_text) := hD.sub [0, 1] (by decide) rfl
        obtain ⟨b9z, h⟩ := xn h
        refine va_iast hx hb hK hP hD hS 1 0 rfl rfl b9z dX10_append_63 (fun H locs hP hD hS => ?_)
        have hP : va_P (dC, dI) vwCl (wd38 cyI cyJ cyZ q_Ws q_text q_Tr q_Pk2 wi_length (upd a_text wi_length.toNatClampNeg r6z)) H := hP
        have hD : va_D A (wd38 cyI cyJ cyZ q_Ws q_text q_Tr q_Pk2 wi_length (upd a_text wi_length.toNatClampNeg r6z)) := hD
        refine lv_aload_n hx hb dX10_append_64 rfl (lv_at hl 1 rfl) ?_
        refine lv_dup hx hb dX10_append_65 rfl ?_
        refine va_get (D := (dC, dI)) (ci := 10) (v := .int wi_length) (C := RX10) (T := TX10) (N := 4) hx hb hts iw_X10_append_X10 hown hK hP 0 rfl rfl 3 (by decide) (hts (.fieldLink RX10 22 "GoesInto$Wishes" "length" "I") (List.mem_of_getElem? (i := 1) rfl)) (fun _ h9 => h9) rfl dX10_append_66 ?_
        refine lv_iconst (v := (1 : Int32)) hx hb dX10_append_69 (by decide) ?_
        refine lv_iadd hx hb dX10_append_70 ?_
        refine lv_topi (fun y10z ey10z => ?_)
        have h := xl_at h ey10z
        refine va_put (D := (dC, dI)) (ci := 10) (v := .int y10z) (ty := .int) (C := RX10) (T := TX10) (N := 4) hx hb hts iw_X10_append_X10 tyX10 tyX10_ok nmX10 hown hK hP hD hS 0 rfl rfl 3 (by decide) (hts (.fieldLink RX10 22 "GoesInto$Wishes" "length" "I") (List.mem_of_getElem? (i := 1) rfl)) (fun _ h9 => h9) rfl (tyX10_ok 3 (by decide)) rfl rfl (Nat.le_of_ble_eq_true rfl) dX10_append_71 (fun H locs hP hD hS => ?_)
        have hP : va_P (dC, dI) vwCl (wd38 cyI cyJ cyZ q_Ws q_text q_Tr q_Pk2 y10z (upd a_text wi_length.toNatClampNeg r6z)) H := hP
        have hD : va_D A (wd38 cyI cyJ cyZ q_Ws q_text q_Tr q_Pk2 y10z (upd a_text wi_length.toNatClampNeg r6z)) := hD
        obtain ⟨y11z, ey11z⟩ : ∃ z : Int32, z = v4 + (-1 : Int32) := ⟨_, rfl⟩
        have h := xl_at h ey11z
        refine lv_iinc (v := y11z) (lv' := [(4, .int y11z), (5, .int y5z), (0, .ref q_Ws), (2, .long v2)]) hx hb dX10_append_74 hl (k := 3) rfl (by rw [ey11z]; rfl) (by decide) rfl (fun ls hl => ?_)
        refine lv_goto (tgt := 19) hx hb dX10_append_77 (by decide) ?_
        exact ih y11z y10z (upd a_text wi_length.toNatClampNeg r6z) h _ _ hP hD hS _ (lv_sub hl [2, 3, 0] rfl)
def f_X10_append (N : Nat) (v1 : Int32) (v2 : Int64) (wi_length : Int32) (a_text : Nat → Int32) : Option (Int32 × Int32 × (Nat → Int32)) :=
  if (wi_length + v1) ≤ (60 : Int32) then
    xl (v1 - (1 : Int32)) fun y2z =>
    l_X10_append_19 N v2 N (y2z, wi_length, a_text)
  else
    some ((-3 : Int32), wi_length, a_text)
set_option maxRecDepth 100000 in
set_option maxHeartbeats 4000000 in
theorem k_X10_append_0 {p : Program} {l : Launch} {e : Env} {s : State} {m : MethodId} {args : Array Value} {below : List Frame} {meth : Method} {c : Code} {dC : Nat → ClassId} {dI : Nat → Nat → Nat} {cyI cyJ cyZ : ClassId} {A : Nat → Prop} (C0 : mC p s m meth c args cX10_append (some .int) 6 RX10 wsX10_append (gK dC dI cyI cyJ cyZ) A) {tkA tkV : Nat} (hTk : tkS tkA tkV A s) (N : Nat) (res : Int32 × Int32 × (Nat → Int32)) (q_Ws : Nat) (q_text : Nat) (q_Tr : Nat) (q_Pk2 : Nat) (v1 : Int32) (v2 : Int64) (wi_length : Int32) (a_text : Nat → Int32) (h : f_X10_append N v1 v2 wi_length a_text = some res) : ∀ (H : Heap) (locs : List Loc), va_P (dC, dI) vwCl (wd38 cyI cyJ cyZ q_Ws q_text q_Tr q_Pk2 wi_length a_text) H → va_D A (wd38 cyI cyJ cyZ q_Ws q_text q_Tr q_Pk2 wi_length a_text) → va_S A s.heap H locs → ∀ (ls : Array Slot), lv_has ls 6 [(0, .ref q_Ws), (1, .int v1), (2, .long v2)] → W p l e (headSpec wsX10_append rm_X10_append).room s m args below meth c H locs 0 0 (MQ below (va_Qi (fun (r : Int32) (_ : Unit) => r = res.1) (bW dC dI (fun (u : Unit) => (wd38 cyI cyJ cyZ q_Ws q_text q_Tr q_Pk2 res.2.1 res.2.2)) A) A) args s 0 0 A) (F0 m 0 ls []) := by
  obtain ⟨hx, hb, hr, hml, hown, hts, hlocks, hG, hA⟩ := id C0
  have hK := hG.1
  intro H locs hP hD hS ls hl
  unfold f_X10_append at h
  refine lv_aload_n hx hb dX10_append_0 rfl (lv_at hl 0 rfl) ?_
  refine va_get (D := (dC, dI)) (ci := 10) (v := .int wi_length) (C := RX10) (T := TX10) (N := 4) hx hb hts iw_X10_append_X10 hown hK hP 0 rfl rfl 3 (by decide) (hts (.fieldLink RX10 22 "GoesInto$Wishes" "length" "I") (List.mem_of_getElem? (i := 1) rfl)) (fun _ h9 => h9) rfl dX10_append_1 ?_
  refine lv_iload_n hx hb dX10_append_4 rfl (lv_at hl 1 rfl) ?_
  refine lv_iadd hx hb dX10_append_5 ?_
  refine lv_bipush (v := (60 : Int32)) hx hb dX10_append_6 (by decide) ?_
  refine lv_icmp_le (tgt := 14) hx hb dX10_append_8 (by decide) (fun c1z => ?_) (fun c1z => ?_)
  · have h := xt h c1z
    refine lv_iload_n hx hb dX10_append_14 rfl (lv_at hl 1 rfl) ?_
    refine lv_iconst (v := (1 : Int32)) hx hb dX10_append_15 (by decide) ?_
    refine lv_isub hx hb dX10_append_16 ?_
    refine lv_topi (fun y2z ey2z => ?_)
    have h := xl_at h ey2z
    refine lv_istore (lv' := [(4, .int y2z), (0, .ref q_Ws), (1, .int v1), (2, .long v2)]) hx hb dX10_append_17 hl (by decide) rfl (fun ls hl => ?_)
    exact k_X10_append_19 C0 hTk N res q_Ws q_text q_Tr q_Pk2 v2 N y2z wi_length a_text h _ _ hP hD hS _ (lv_sub hl [1, 3, 0] rfl)
  · have h := xf h c1z
    refine lv_bipush (v := (-3 : Int32)) hx hb dX10_append_11 (by decide) ?_
    obtain rfl := Option.some.inj h
    exact W.iret (v := (-3 : Int32)) hx hb hr (fun t ht hW => ⟨⟨_, (), rfl, rfl, by rw [ht]; exact hP, hD⟩, hS.F ht⟩) hS.2.2 dX10_append_13 hlocks
set_option maxRecDepth 100000 in
set_option maxHeartbeats 4000000 in
theorem c_X10_append (l : Launch) (dC : Nat → ClassId) (dI : Nat → Nat → Nat) (cyI cyJ cyZ : ClassId) {tkA tkV : Nat} (N : Nat) (res : Int32 × Int32 × (Nat → Int32)) (sz : Nat) (q_Ws : Nat) (q_text : Nat) (q_Tr : Nat) (q_Pk2 : Nat) (v1 : Int32) (v2 : Int64) (wi_length : Int32) (a_text : Nat → Int32) (h : f_X10_append N v1 v2 wi_length a_text = some res) : Met l yX10_append wsX10_append rm_X10_append (pS tkA tkV dC dI cyI cyJ cyZ [.ref q_Ws, .int v1, .long v2] sz (wd38 cyI cyJ cyZ q_Ws q_text q_Tr q_Pk2 wi_length a_text)) (va_Qi (fun (r : Int32) (_ : Unit) => r = res.1) (bW dC dI (fun (u : Unit) => (wd38 cyI cyJ cyZ q_Ws q_text q_Tr q_Pk2 res.2.1 res.2.2)) (va_A (wd38 cyI cyJ cyZ q_Ws q_text q_Tr q_Pk2 wi_length a_text) sz)) (va_A (wd38 cyI cyJ cyZ q_Ws q_text q_Tr q_Pk2 wi_length a_text) sz)) 0 0 (va_A (wd38 cyI cyJ cyZ q_Ws q_text q_Tr q_Pk2 wi_length a_text) sz) := by
  refine Met.ofW (cc := cX10_append) (maxL := 6) (ret := (some .int)) (by decide) rfl ?_
  intro p e s m args below meth c s₁ B hml hv
  obtain ⟨⟨rfl, hsz, hP, hG, hD0⟩, hTk⟩ := hv
  have hx := B.exec
  have hb := B.bytes
  have hr := B.returns
  have hts := atoms_spec (ws := wsX10_append) B.pre
  have hown : s.vm.findClass RX10 = some m.cls := findClass_of_methodNamed B.named
  have hlocks := B.notSynchronized
  subst hsz
  have hD := hD0.self (sz := s.heap.size)
  generalize hAe : va_A (wd38 cyI cyJ cyZ q_Ws q_text q_Tr q_Pk2 wi_length a_text) s.heap.size = A at hD hTk ⊢
  have hA : ∀ q : Nat, s.heap.size ≤ q → A q := fun q h => by rw [← hAe]; exact Or.inr h
  have hS : va_S A s.heap s.heap [] := va_S.rf
  have hl := lv_entry ([.ref q_Ws, .int v1, .long v2]) (n := 6) (Nat.le_of_ble_eq_true rfl)
  rw [lg_entry_eq]
  generalize (lg_sl ([.ref q_Ws, .int v1, .long v2]) ++ List.replicate (6 - (lg_sl ([.ref q_Ws, .int v1, .long v2])).length) Slot.unset).toArray = ls at hl ⊢
  have hl : lv_has ls 6 [(0, .ref q_Ws), (1, .int v1), (2, .long v2)] := hl
  exact k_X10_append_0 ⟨hx, hb, hr, hml, hown, hts, hlocks, hG, hA⟩ hTk N res q_Ws q_text q_Tr q_Pk2 v1 v2 wi_length a_text  h _ _ hP hD hS _ hl
abbrev rm_X11_write : Room := { frames := 5, cells := 0, slots := 0, locals := 116 }
theorem hd_X11_write : yX11_write.cls ≠ "java/lang/invoke/MethodHandle" ∧ yX11_write.cls ≠ "java/lang/invoke/VarHandle" ∧ (parseMethodDescriptor yX11_write.desc).map (fun d => d.parameters.length) = some 2 := by decide +kernel
theorem iw_X11_write_X11 : ∀ w ∈ wsX110, w ∈ wsX11_write := List.forall_mem_cons.mpr ⟨List.mem_of_getElem? (i := 103) rfl, List.forall_mem_cons.mpr ⟨List.mem_of_getElem? (i := 104) rfl, List.forall_mem_cons.mpr ⟨List.mem_of_getElem? (i := 105) rfl, List.forall_mem_cons.mpr ⟨List.mem_of_getElem? (i := 106) rfl, List.forall_mem_cons.mpr ⟨List.mem_of_getElem? (i := 107) rfl, List.forall_mem_cons.mpr ⟨List.mem_of_getElem? (i := 108) rfl, List.forall_mem_cons.mpr ⟨List.mem_of_getElem? (i := 109) rfl, List.forall_mem_cons.mpr ⟨List.mem_of_getElem? (i := 110) rfl, List.forall_mem_cons.mpr ⟨List.mem_of_getElem? (i := 111) rfl, fun _ h => absurd h List.not_mem_nil⟩⟩⟩⟩⟩⟩⟩⟩⟩
theorem iw_X11_write_X10 : ∀ w ∈ wsX100, w ∈ wsX11_write := List.forall_mem_cons.mpr ⟨List.mem_of_getElem? (i := 112) rfl, List.forall_mem_cons.mpr ⟨List.mem_of_getElem? (i := 113) rfl, List.forall_mem_cons.mpr ⟨List.mem_of_getElem? (i := 114) rfl, List.forall_mem_cons.mpr ⟨List.mem_of_getElem? (i := 115) rfl, fun _ h => absurd h List.not_mem_nil⟩⟩⟩⟩
def f_X11_write (N : Nat) (v1 : Int32) (v2 : Int64) (wi_length : Int32) (a_text : Nat → Int32) : Option (Int32 × Int32 × (Nat → Int32)) :=
  Option.bind (f_X11_within N v1 (1 : Int32) (8 : Int32)) fun r1z =>
  if r1z = 0 then
    some ((-1 : Int32), wi_length, a_text)
  else
    Option.bind (f_X10_append N v1 v2 wi_length a_text) fun r5z =>
    some (r5z.1, r5z.2.1, r5z.2.2)
set_option maxRecDepth 100000 in
set_option maxHeartbeats 4000000 in
theorem k_X11_write_0 {p : Program} {l : Launch} {e : Env} {s : State} {m : MethodId} {args : Array Value} {below : List Frame} {meth : Method} {c : Code} {dC : Nat → ClassId} {dI : Nat → Nat → Nat} {cyI cyJ cyZ : ClassId} {A : Nat → Prop} (C0 : mC p s m meth c args cX11_write (some .int) 4 RX11 wsX11_write (gK dC dI cyI cyJ cyZ) A) {tkA tkV : Nat} (hTk : tkS tkA tkV A s) (N : Nat) (res : Int32 × Int32 × (Nat → Int32)) (q_G : Nat) (q_Ws : Nat) (q_text : Nat) (q_Pr : Nat) (q_Sp : Nat) (q_Ch : Nat) (q_Tb : Nat) (q_Sk : Nat) (q_Wh : Nat) (q_Mk : Nat) (q_Tr : Nat) (q_Pk2 : Nat) (v1 : Int32) (v2 : Int64) (wi_length : Int32) (a_text : Nat → Int32) (h : f_X11_write N v1 v2 wi_length a_text = some res) : ∀ (H : Heap) (locs : List Loc), va_P (dC, dI) vwCl (wd52 cyI cyJ cyZ q_G q_Ws q_text q_Pr q_Sp q_Ch q_Tb q_Sk q_Wh q_Mk q_Tr q_Pk2 wi_length a_text) H → va_D A (wd52 cyI cyJ cyZ q_G q_Ws q_text q_Pr q_Sp q_Ch q_Tb q_Sk q_Wh q_Mk q_Tr q_Pk2 wi_length a_text) → va_S A s.heap H locs → ∀ (ls : Array Slot), lv_has ls 4 [(0, .ref q_G), (1, .int v1), (2, .long v2)] → W p l e (headSpec wsX11_write rm_X11_write).room s m args below meth c H locs 0 0 (MQ below (va_Qi (fun (r : Int32) (_ : Unit) => r = res.1) (bW dC dI (fun (u : Unit) => (wd52 cyI cyJ cyZ q_G q_Ws q_text q_Pr q_Sp q_Ch q_Tb q_Sk q_Wh q_Mk q_Tr q_Pk2 res.2.1 res.2.2)) A) A) args s 0 0 A) (F0 m 0 ls []) := by
  obtain ⟨hx, hb, hr, hml, hown, hts, hlocks, hG, hA⟩ := id C0
  have hK := hG.1
  intro H locs hP hD hS ls hl
  unfold f_X11_write at h
  refine lv_iload_n hx hb dX11_write_0 rfl (lv_at hl 1 rfl) ?_
  refine lv_iconst (v := (1 : Int32)) hx hb dX11_write_1 (by decide) ?_
  refine lv_bipush (v := (8 : Int32)) hx hb dX11_write_2 (by decide) ?_
  obtain ⟨r1z, hr1z, h⟩ := xb_at h
  have hPc := hP.sub (ws' := (wd37 cyI cyJ cyZ)) [] rfl
  have hDc := hD.sub (ws' := (wd37 cyI cyJ cyZ)) [] (by decide) rfl
  refine cal_i [] [0, 1, 2] (va_runS (As := [.int v1, .int (1 : Int32), .int (8 : Int32)]) (rest := []) ⟨hx, hb, hml, hown, hts⟩ (c_X11_within l dC dI cyI cyJ cyZ N r1z H.size  v1 (1 : Int32) (8 : Int32)  hr1z) (va_cwS 3 hts gX11_write_X11_within rfl rfl rfl hd_X11_within ⟨Nat.le_of_ble_eq_true rfl, Nat.le_of_ble_eq_true rfl⟩) ⟨pC.blind, pC.pre hPc hG hDc⟩ rfl rfl hl.1 rfl (lv_room (Nat.le_of_ble_eq_true rfl)) dX11_write_4 ⟨Nat.zero_le _, Nat.zero_le _⟩) hP hD hS hA rfl rfl rfl (by decide) (fun x3z u2z H locs hw hP hD hS => ?_)
  obtain rfl := hw.symm
  have hP : va_P (dC, dI) vwCl (wd52 cyI cyJ cyZ q_G q_Ws q_text q_Pr q_Sp q_Ch q_Tb q_Sk q_Wh q_Mk q_Tr q_Pk2 wi_length a_text) H := hP.sub [0, 1, 2] rfl
  have hD : va_D A (wd52 cyI cyJ cyZ q_G q_Ws q_text q_Pr q_Sp q_Ch q_Tb q_Sk q_Wh q_Mk q_Tr q_Pk2 wi_length a_text) := hD.sub [0, 1, 2] (by decide) rfl
  refine lv_if_ne (tgt := 12) hx hb dX11_write_7 (by decide) (fun c4z => ?_) (fun c4z => ?_)
  · have h := xf h c4z
    refine lv_aload_n hx hb dX11_write_12 rfl (lv_at hl 0 rfl) ?_
    refine va_get (D := (dC, dI)) (ci := 11) (v := .ref q_Ws) (C := RX11) (T := TX11) (N := 9) hx hb hts iw_X11_write_X11 hown hK hP 0 rfl rfl 8 (by decide) (hts (.fieldLink RX11 87 "GoesInto" "wishes" "LGoesInto$Wishes;") (List.mem_of_getElem? (i := 1) rfl)) (fun _ h9 => h9) rfl dX11_write_13 ?_
    refine lv_iload_n hx hb dX11_write_16 rfl (lv_at hl 1 rfl) ?_
    refine lv_lload_n hx hb dX11_write_17 rfl (lv_at hl 2 rfl) ?_
    obtain ⟨r5z, hr5z, h⟩ := xb_at h
    have hPc := hP.sub (ws' := (wd38 cyI cyJ cyZ q_Ws q_text q_Tr q_Pk2 wi_length a_text)) [1, 2] rfl
    have hDc := hD.sub (ws' := (wd38 cyI cyJ cyZ q_Ws q_text q_Tr q_Pk2 wi_length a_text)) [1, 2] (by decide) rfl
    refine cal_i [1, 2] [0] (va_runV (As := [.int v1, .long v2]) (rest := []) ⟨hx, hb, hml, hown, hts⟩ (c_X10_append l dC dI cyI cyJ cyZ N r5z H.size q_Ws q_text q_Tr q_Pk2 v1 v2 wi_length a_text hr5z) (cwV 2 hts gX11_write_X10_append rfl rfl rfl ⟨rfl, hd_X10_append⟩ ⟨Nat.le_of_ble_eq_true rfl, Nat.le_of_ble_eq_true rfl⟩) ⟨pS.blind, va_recv hK hPc (ci := 10) (q0 := 0) rfl rfl, pS.pre hPc hG hDc (hTk.go hS (va_free (wc := (wd38 cyI cyJ cyZ q_Ws q_text q_Tr q_Pk2 wi_length a_text)) hD hS hA [1, 2] rfl))⟩ rfl rfl hl.1 rfl (lv_room (Nat.le_of_ble_eq_true rfl)) dX11_write_18 ⟨Nat.zero_le _, Nat.zero_le _⟩) hP hD hS hA rfl rfl rfl (by decide) (fun x7z u6z H locs hw hP hD hS => ?_)
    obtain rfl := hw.symm
    have hP : va_P (dC, dI) vwCl (wd52 cyI cyJ cyZ q_G q_Ws q_text q_Pr q_Sp q_Ch q_Tb q_Sk q_Wh q_Mk q_Tr q_Pk2 r5z.2.1 r5z.2.2) H := hP.sub [0, 1, 2] rfl
    have hD : va_D A (wd52 cyI cyJ cyZ q_G q_Ws q_text q_Pr q_Sp q_Ch q_Tb q_Sk q_Wh q_Mk q_Tr q_Pk2 r5z.2.1 r5z.2.2) := hD.sub [0, 1, 2] (by decide) rfl
    obtain rfl := Option.some.inj h
    exact W.iret (v := r5z.1) hx hb hr (fun t ht hW => ⟨⟨_, (), rfl, rfl, by rw [ht]; exact hP, hD⟩, hS.F ht⟩) hS.2.2 dX11_write_21 hlocks
  · have h := xt h c4z
    refine lv_iconst (v := (-1 : Int32)) hx hb dX11_write_10 (by decide) ?_
    obtain rfl := Option.some.inj h
    exact W.iret (v := (-1 : Int32)) hx hb hr (fun t ht hW => ⟨⟨_, (), rfl, rfl, by rw [ht]; exact hP, hD⟩, hS.F ht⟩) hS.2.2 dX11_write_11 hlocks
set_option maxRecDepth 100000 in
set_option maxHeartbeats 4000000 in
theorem c_X11_write (l : Launch) (dC : Nat → ClassId) (dI : Nat → Nat → Nat) (cyI cyJ cyZ : ClassId) {tkA tkV : Nat} (N : Nat) (res : Int32 × Int32 × (Nat → Int32)) (sz : Nat) (q_G : Nat) (q_Ws : Nat) (q_text : Nat) (q_Pr : Nat) (q_Sp : Nat) (q_Ch : Nat) (q_Tb : Nat) (q_Sk : Nat) (q_Wh : Nat) (q_Mk : Nat) (q_Tr : Nat) (q_Pk2 : Nat) (v1 : Int32) (v2 : Int64) (wi_length : Int32) (a_text : Nat → Int32) (h : f_X11_write N v1 v2 wi_length a_text = some res) : Met l yX11_write wsX11_write rm_X11_write (pS tkA tkV dC dI cyI cyJ cyZ [.ref q_G, .int v1, .long v2] sz (wd52 cyI cyJ cyZ q_G q_Ws q_text q_Pr q_Sp q_Ch q_Tb q_Sk q_Wh q_Mk q_Tr q_Pk2 wi_length a_text)) (va_Qi (fun (r : Int32) (_ : Unit) => r = res.1) (bW dC dI (fun (u : Unit) => (wd52 cyI cyJ cyZ q_G q_Ws q_text q_Pr q_Sp q_Ch q_Tb q_Sk q_Wh q_Mk q_Tr q_Pk2 res.2.1 res.2.2)) (va_A (wd52 cyI cyJ cyZ q_G q_Ws q_text q_Pr q_Sp q_Ch q_Tb q_Sk q_Wh q_Mk q_Tr q_Pk2 wi_length a_text) sz)) (va_A (wd52 cyI cyJ cyZ q_G q_Ws q_text q_Pr q_Sp q_Ch q_Tb q_Sk q_Wh q_Mk q_Tr q_Pk2 wi_length a_text) sz)) 0 0 (va_A (wd52 cyI cyJ cyZ q_G q_Ws q_text q_Pr q_Sp q_Ch q_Tb q_Sk q_Wh q_Mk q_Tr q_Pk2 wi_length a_text) sz) := by
  refine Met.ofW (cc := cX11_write) (maxL := 4) (ret := (some .int)) (by decide) rfl ?_
  intro p e s m args below meth c s₁ B hml hv
  obtain ⟨⟨rfl, hsz, hP, hG, hD0⟩, hTk⟩ := hv
  have hx := B.exec
  have hb := B.bytes
  have hr := B.returns
  have hts := atoms_spec (ws := wsX11_write) B.pre
  have hown : s.vm.findClass RX11 = some m.cls := findClass_of_methodNamed B.named
  have hlocks := B.notSynchronized
  subst hsz
  have hD := hD0.self (sz := s.heap.size)
  generalize hAe : va_A (wd52 cyI cyJ cyZ q_G q_Ws q_text q_Pr q_Sp q_Ch q_Tb q_Sk q_Wh q_Mk q_Tr q_Pk2 wi_length a_text) s.heap.size = A at hD hTk ⊢
  have hA : ∀ q : Nat, s.heap.size ≤ q → A q := fun q h => by rw [← hAe]; exact Or.inr h
  have hS : va_S A s.heap s.heap [] := va_S.rf
  have hl := lv_entry ([.ref q_G, .int v1, .long v2]) (n := 4) (Nat.le_of_ble_eq_true rfl)
  rw [lg_entry_eq]
  generalize (lg_sl ([.ref q_G, .int v1, .long v2]) ++ List.replicate (4 - (lg_sl ([.ref q_G, .int v1, .long v2])).length) Slot.unset).toArray = ls at hl ⊢
  have hl : lv_has ls 4 [(0, .ref q_G), (1, .int v1), (2, .long v2)] := hl
  exact k_X11_write_0 ⟨hx, hb, hr, hml, hown, hts, hlocks, hG, hA⟩ hTk N res q_G q_Ws q_text q_Pr q_Sp q_Ch q_Tb q_Sk q_Wh q_Mk q_Tr q_Pk2 v1 v2 wi_length a_text  h _ _ hP hD hS _ hl
