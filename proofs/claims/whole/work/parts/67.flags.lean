/-! the model: made by bits, flags, what is seen -/
def BtR (n d : Nat) (a : Nat → Int64) : Prop := ∀ k i, k < 80 → i < 64 → (a k).toBitVec.getLsbD i = mb n d (64 * k + i)
theorem sh64 : ∀ o, o < 64 → (((nI o).toInt64 &&& 63).toBitVec.smod 64).toNat = o := by decide +kernel
theorem ush64 : ∀ o, o < 64 → 0 < o → ((((64 : Int32) - nI o).toInt64.toUInt64 &&& Int64.toUInt64 63).toBitVec % 64).toNat = 64 - o := by decide +kernel
theorem shl_b (x : Int64) {o : Nat} (ho : o < 64) {i : Nat} (hi : i < 64) : (x <<< ((nI o).toInt64 &&& 63)).toBitVec.getLsbD i = (!decide (i < o) && x.toBitVec.getLsbD (i - o)) := by
  show (x.toBitVec <<< (((nI o).toInt64 &&& 63).toBitVec.smod 64)).getLsbD i = _
  rw [BitVec.shiftLeft_eq', sh64 o ho, BitVec.getLsbD_shiftLeft]
  simp [hi]
theorem ushr_b (x : Int64) {o : Nat} (ho : o < 64) (h0 : 0 < o) (i : Nat) : ((x.toUInt64 >>> (((64 : Int32) - nI o).toInt64.toUInt64 &&& Int64.toUInt64 63)).toInt64).toBitVec.getLsbD i = x.toBitVec.getLsbD (64 - o + i) := by
  show (x.toBitVec >>> ((((64 : Int32) - nI o).toInt64.toUInt64 &&& Int64.toUInt64 63).toBitVec % 64)).getLsbD i = _
  rw [BitVec.ushiftRight_eq', ush64 o ho h0, BitVec.getLsbD_ushiftRight]
theorem shr_b (x : Int64) {o : Nat} (ho : o < 64) : ((x >>> ((nI o).toInt64 &&& 63)) &&& (1 : Int64) = (1 : Int64)) ↔ x.toBitVec.getLsbD o = true := by
  have e : ∀ y : Int64, (y &&& (1 : Int64) = (1 : Int64)) ↔ y.toBitVec.getLsbD 0 = true := by
    intro y
    constructor
    · intro h
      have := congrArg (fun z : Int64 => z.toBitVec.getLsbD 0) h
      simp only [Int64.toBitVec_and, BitVec.getLsbD_and] at this
      have h1 : ((1 : Int64).toBitVec).getLsbD 0 = true := by decide
      rw [h1, Bool.and_true] at this
      exact this
    · intro h
      apply Int64.toBitVec_inj.1
      apply BitVec.eq_of_getLsbD_eq
      intro i hi
      rw [Int64.toBitVec_and, BitVec.getLsbD_and]
      rcases Nat.eq_zero_or_pos i with q | q
      · subst q
        rw [h]
        rfl
      · have : ((1 : Int64).toBitVec).getLsbD i = false := by
          show (BitVec.ofNat 64 1).getLsbD i = false
          rw [BitVec.getLsbD_ofNat]
          have : Nat.testBit 1 i = false := by
            rw [show (1 : Nat) = 2 ^ 0 from rfl, Nat.testBit_two_pow]
            simp <;> omega
          rw [this, Bool.and_false]
        rw [this, Bool.and_false]
  rw [e]
  have : (x >>> ((nI o).toInt64 &&& 63)).toBitVec.getLsbD 0 = x.toBitVec.getLsbD o := by
    show (x.toBitVec.sshiftRight' (((nI o).toInt64 &&& 63).toBitVec.smod 64)).getLsbD 0 = _
    rw [BitVec.sshiftRight_eq', sh64 o ho, BitVec.getLsbD_sshiftRight]
    simp [ho]
  rw [this]
theorem orL_b (x y : Int64) (i : Nat) : (x ||| y).toBitVec.getLsbD i = (x.toBitVec.getLsbD i || y.toBitVec.getLsbD i) := by
  rw [Int64.toBitVec_or, BitVec.getLsbD_or]
theorem bits_in (N : Nat) (hN : 2 ^ 40 ≤ N) {n d : Nat} (hd1 : 1 ≤ d) (hd : d < 5000) (hdn : d ∣ n) (K : (Int32 × (Nat → Int64)) → Option (Int32 × (Nat → Int64))) (post : Option (Int32 × (Nat → Int64)) → Prop) (hK : ∀ a : Nat → Int64, BtR n (d + 1) a → post (K (nI (d + 1), a))) {a : Nat → Int64} (ha : BtR n d a) : post (l_X12_isMade_56 N K (nI d) (nI (d / 64)) (nI (d % 64)) N ((79 : Int32), a)) := by
  have h40 : (2 : Nat) ^ 40 = 1099511627776 := by decide
  have hdm : 64 * (d / 64) + d % 64 = d := Nat.div_add_mod d 64
  have ho : d % 64 < 64 := Nat.mod_lt _ (by decide)
  generalize hf : d / 64 = fr at *
  generalize hof : d % 64 = o at *
  unfold l_X12_isMade_56
  -- the state: the words above x are done; x + 1 words are as they were
  refine lp_post (I := fun (z : Int32 × (Nat → Int64)) => ∃ x : Nat, z.1 + 1 = nI x ∧ z.1 = nI x - 1 ∧ x ≤ 80 ∧ fr ≤ x ∧ (∀ k i, x ≤ k → k < 80 → i < 64 → (z.2 k).toBitVec.getLsbD i = mb n (d + 1) (64 * k + i)) ∧ (∀ k i, k < x → i < 64 → (z.2 k).toBitVec.getLsbD i = mb n d (64 * k + i))) (μ := fun z => (z.1 + 1).toNatClampNeg) (post := post) ?_ N _ ?_ ?_
  · intro z K2 hI hK2
    obtain ⟨y1, y2⟩ := z
    obtain ⟨x, e1, e1', hx, hfx, hhi, hlo⟩ := hI
    simp only at e1 e1' hhi hlo
    show post (s_X12_isMade_56 N K (nI d) (nI fr) (nI o) K2 y1 y2)
    unfold s_X12_isMade_56
    rcases Nat.eq_or_lt_of_le hfx with c | c
    · -- done
      have hlt : y1 < nI fr := by
        rw [e1', ← c]
        rcases Nat.eq_zero_or_pos fr with q | q
        · rw [q]; decide
        · obtain ⟨f', rfl⟩ : ∃ f', fr = f' + 1 := ⟨fr - 1, by omega⟩
          rw [nI_pred]
          exact L_lt f' (f' + 1) (by omega) (by omega)
      rw [if_pos hlt]
      simp only [xl, nI_1]
      refine hK _ (fun k i hk hi => ?_)
      rcases Nat.lt_or_ge k x with w | w
      · rw [hlo k i w hi, mb_s]
        have : ¬ (d ∣ n ∧ d ≤ 64 * k + i) := fun q => by omega
        simp [this]
      · exact hhi k i w hk hi
    · obtain ⟨v, rfl⟩ : ∃ v, x = v + 1 := ⟨x - 1, by omega⟩
      have ey : y1 = nI v := by rw [e1', nI_pred]
      subst ey
      rw [if_neg (L_nlt v fr (by omega) (by omega)), pk_sub (by omega)]
      simp only [xl]
      rw [if_neg (L_in (v - fr) 80 (by omega) (by omega)), nI_clamp (by omega)]
      -- the new word
      have fin : ∀ s0 : Int64, (∀ i, i < 64 → ((y2 v).toBitVec.getLsbD i || ((y2 (v - fr) <<< ((nI o).toInt64 &&& 63)).toBitVec.getLsbD i || s0.toBitVec.getLsbD i)) = mb n (d + 1) (64 * v + i)) → post (j_X12_isMade_110 N K2 (nI v) s0 (y2 (v - fr) <<< ((nI o).toInt64 &&& 63)) y2) := by
        intro s0 hs0
        unfold j_X12_isMade_110
        simp only [xl]
        rw [if_neg (L_in v 80 (by omega) (by omega)), nI_clamp (by omega)]
        have ev : nI v + (-1 : Int32) = nI v - 1 := by
          apply Int32.toBitVec_inj.1
          rw [Int32.toBitVec_add, Int32.toBitVec_sub, BitVec.sub_eq_add_neg]
          rfl
        have ev2 : nI v - 1 + 1 = nI v := Int32.sub_add_cancel _ _
        refine hK2 _ ⟨v, ?_, ?_, by omega, by omega, fun k i h1 h2 hi => ?_, fun k i h1 hi => ?_⟩ ?_
        · show nI v + (-1 : Int32) + 1 = nI v
          rw [ev, ev2]
        · show nI v + (-1 : Int32) = nI v - 1
          exact ev
        · show (vp_updL y2 v _ k).toBitVec.getLsbD i = _
          by_cases q : k = v
          · subst q
            rw [pk_uLs, orL_b, orL_b]
            exact hs0 i hi
          · rw [pk_uLn q]; exact hhi k i (by omega) h2 hi
        · show (vp_updL y2 v _ k).toBitVec.getLsbD i = _
          rw [pk_uLn (by omega)]; exact hlo k i (by omega) hi
        · show (nI v + (-1 : Int32) + 1).toNatClampNeg < (nI v + 1).toNatClampNeg
          rw [ev, ev2, nI_1, nI_clamp (by omega), nI_clamp (by omega)]; omega
      have z0 : ∀ i, ((0 : Int64).toBitVec).getLsbD i = false := fun i => by
        show (0#64).getLsbD i = false
        simp
      -- what the shifted word gives
      have w1 : ∀ i, i < 64 → (y2 (v - fr) <<< ((nI o).toInt64 &&& 63)).toBitVec.getLsbD i = (!decide (i < o) && mb n d (64 * v + i - d)) := fun i hi => by
        rw [shl_b _ ho hi]
        by_cases q : i < o
        · simp [q]
        · rw [hlo (v - fr) (i - o) (by omega) (by omega), show 64 * (v - fr) + (i - o) = 64 * v + i - d by omega]
      have w0 : ∀ i, i < 64 → (y2 v).toBitVec.getLsbD i = mb n d (64 * v + i) := fun i hi => hlo v i (by omega) hi
      by_cases c1 : o = 0
      · rw [if_pos (L_le o 0 (by omega) (by decide))]
        unfold j_X12_isMade_109
        refine fin 0 (fun i hi => ?_)
        rw [w0 i hi, w1 i hi, z0, mb_s]
        have h1 : ¬ i < o := by omega
        have h2 : d ≤ 64 * v + i := by omega
        simp [h1, h2, hdn]
      · rw [if_neg (L_nle o 0 (by omega) (by omega))]
        by_cases c2 : v ≤ fr
        · rw [if_pos (L_le v fr c2 (by omega))]
          unfold j_X12_isMade_109
          refine fin 0 (fun i hi => ?_)
          rw [w0 i hi, w1 i hi, z0, mb_s]
          by_cases q : i < o
          · have h2 : ¬ d ≤ 64 * v + i := by omega
            simp [q, h2]
          · have h2 : d ≤ 64 * v + i := by omega
            simp [q, h2, hdn]
        · rw [if_neg (L_nle v fr (by omega) (by omega)), show (1 : Int32) = nI 1 from rfl, pk_sub (by omega), if_neg (L_in (v - fr - 1) 80 (by omega) (by omega)), nI_clamp (by omega)]
          refine fin _ (fun i hi => ?_)
          rw [w0 i hi, w1 i hi, ushr_b _ ho (by omega), mb_s]
          have h2 : d ≤ 64 * v + i := by omega
          by_cases q : i < o
          · rw [hlo (v - fr - 1) (64 - o + i) (by omega) (by omega), show 64 * (v - fr - 1) + (64 - o + i) = 64 * v + i - d by omega]
            simp [q, h2, hdn]
          · have : (y2 (v - fr - 1)).toBitVec.getLsbD (64 - o + i) = false := BitVec.getLsbD_of_ge _ _ (by omega)
            rw [this]
            simp [q, h2, hdn]
  · refine ⟨80, (by show (79 : Int32) + 1 = nI 80; decide), (by show (79 : Int32) = nI 80 - 1; decide), by decide, by omega, fun k i h1 h2 _ => by omega, fun k i h1 hi => ha k i h1 hi⟩
  · show ((79 : Int32) + 1).toNatClampNeg < N
    rw [show ((79 : Int32) + 1).toNatClampNeg = 80 by decide]; omega
theorem isMade_f (N : Nat) (hN : 2 ^ 40 ≤ N) {n : Nat} (h0 : 0 < n) (hn : n ≤ 5000) (a0 : Nat → Int64) : ∃ a', f_X12_isMade N (nI n) a0 = some (if mb n n n = true then 1 else 0, a') := by
  have h40 : (2 : Nat) ^ 40 = 1099511627776 := by decide
  unfold f_X12_isMade l_X12_isMade_2
  refine lp_post (I := fun (z : Int32 × (Nat → Int64)) => ∃ x : Nat, z.1 = nI x ∧ x ≤ 80 ∧ ∀ k, k < x → z.2 k = 0) (μ := fun z => 81 - z.1.toNatClampNeg) (post := fun r => ∃ a', r = some (if mb n n n = true then 1 else 0, a')) ?_ N _ ?_ ?_
  · intro z K hI hK
    obtain ⟨y1, y2⟩ := z
    obtain ⟨x, e1, hx, hz⟩ := hI
    simp only at e1 hz
    subst e1
    show ∃ a', s_X12_isMade_2 N (nI n) K (nI x) y2 = _
    unfold s_X12_isMade_2
    by_cases c : 80 ≤ x
    · rw [if_pos (L_le 80 x c (by omega))]
      unfold j_X12_isMade_21
      rw [if_neg (by decide)]
      unfold l_X12_isMade_30
      refine lp_post (I := fun (z : Int32 × (Nat → Int64)) => ∃ d : Nat, z.1 = nI d ∧ 1 ≤ d ∧ d ≤ n ∧ BtR n d z.2) (μ := fun z => 5002 - z.1.toNatClampNeg) (post := fun r => ∃ a', r = some (if mb n n n = true then 1 else 0, a')) ?_ N _ ?_ ?_
      · intro z K2 hI2 hK2
        obtain ⟨t1, t2⟩ := z
        obtain ⟨d, e1, hd1, hd, hy⟩ := hI2
        simp only at e1 hy
        subst e1
        have hμ : d < n → 5002 - (nI (d + 1)).toNatClampNeg < 5002 - (nI d).toNatClampNeg := fun _ => by rw [nI_clamp (by omega), nI_clamp (by omega)]; omega
        show ∃ a', s_X12_isMade_30 N (nI n) K2 (nI d) t2 = _
        unfold s_X12_isMade_30
        by_cases c2 : n ≤ d
        · rw [if_pos (L_le n d c2 (by omega))]
          have : d = n := by omega
          subst this
          unfold j_X12_isMade_137
          rw [show (64 : Int32) = nI 64 from rfl, pk_rem (by omega) (by decide) (by decide), pk_div (by omega) (by decide) (by decide)]
          simp only [xl]
          rw [if_neg (L_in (d / 64) 80 (by omega) (by omega)), nI_clamp (by omega)]
          have hb := hy (d / 64) (d % 64) (by omega) (Nat.mod_lt _ (by decide))
          rw [Nat.div_add_mod] at hb
          have := shr_b (t2 (d / 64)) (show d % 64 < 64 from Nat.mod_lt _ (by decide))
          rw [hb] at this
          by_cases q : mb d d d = true
          · rw [if_pos (this.mpr q), if_pos q]; exact ⟨_, rfl⟩
          · rw [if_neg (fun w => q (this.mp w)), if_neg q]; exact ⟨_, rfl⟩
        · rw [if_neg (L_nle n d (by omega) (by omega)), if_neg (L_ne d 0 (by omega) (by omega) (by decide))]
          by_cases dv : n % d = 0
          · rw [if_pos ((L_rem (by omega) (by omega) (by omega)).mpr dv), show (64 : Int32) = nI 64 from rfl, pk_rem (by omega) (by decide) (by decide), pk_div (by omega) (by decide) (by decide)]
            simp only [xl]
            exact bits_in N hN hd1 (by omega) (Nat.dvd_of_mod_eq_zero dv) K2 (fun r => ∃ a', r = some (if mb n n n = true then 1 else 0, a')) (fun a ha => hK2 _ ⟨d + 1, rfl, by omega, by omega, ha⟩ (hμ (by omega))) hy
          · rw [if_neg (fun q => dv ((L_rem (by omega) (by omega) (by omega)).mp q))]
            simp only [xl, nI_1]
            refine hK2 _ ⟨d + 1, rfl, by omega, by omega, fun k i hk hi => ?_⟩ (hμ (by omega))
            show (t2 k).toBitVec.getLsbD i = _
            rw [hy k i hk hi, mb_s]
            have : ¬ (d ∣ n ∧ d ≤ 64 * k + i) := fun q => dv (Nat.mod_eq_zero_of_dvd q.1)
            simp [this]
      · refine ⟨1, rfl, by decide, by omega, fun k i hk hi => ?_⟩
        show (vp_updL y2 _ _ k).toBitVec.getLsbD i = _
        have h0n : ¬ (0 ∣ n ∧ 0 ≤ 64 * k + i) := fun q => by have := Nat.eq_zero_of_zero_dvd q.1; omega
        rw [mb_s]
        simp only [h0n, decide_false, Bool.false_and, Bool.or_false]
        unfold mb
        by_cases q : k = 0
        · subst q
          rw [show vp_updL y2 (0 : Int32).toNatClampNeg 1 0 = 1 from pk_uLs]
          show (BitVec.ofNat 64 1).getLsbD i = _
          rw [BitVec.getLsbD_ofNat, show (1 : Nat) = 2 ^ 0 from rfl, Nat.testBit_two_pow]
          by_cases q2 : i = 0
          · simp [q2]
          · have : ¬ 0 = i := by omega
            simp [q2, this]
        · have : vp_updL y2 (0 : Int32).toNatClampNeg 1 k = y2 k := pk_uLn (k := 0) q
          rw [this, hz k (by omega)]
          show (0#64).getLsbD i = _
          rw [show decide (64 * k + i = 0) = false from by rw [decide_eq_false_iff_not]; omega]
          simp
      · show 5002 - _ < N
        omega
    · rw [if_neg (L_nle 80 x (by omega) (by decide)), if_neg (L_in x 80 (by omega) (by omega)), nI_clamp (by omega)]
      simp only [xl, nI_1]
      refine hK _ ⟨x + 1, rfl, by omega, fun k hk => ?_⟩ ?_
      · show vp_updL y2 x _ k = _
        by_cases q : k = x
        · rw [q, pk_uLs]
        · rw [pk_uLn q]; exact hz k (by omega)
      · show 81 - (nI (x + 1)).toNatClampNeg < 81 - (nI x).toNatClampNeg
        rw [nI_clamp (by omega), nI_clamp (by omega)]; omega
  · exact ⟨0, rfl, by decide, fun k hk => by omega⟩
  · show 81 - _ < N
    omega
def bI (c : Bool) : Int32 := if c = true then 1 else 0
theorem bI_0 (c : Bool) : (bI c = 0) ↔ ¬ c = true := by unfold bI; exact ite01 _
theorem bI_01 (c : Bool) : bI c = 0 ∨ bI c = 1 := by unfold bI; cases c <;> simp
theorem nar_b (c : Bool) : vp_nar .boolean (bI c) = bI c := by cases c <;> rfl
def FgR (o h t : Nat → Int32) (n : Nat) : Prop := ∀ m, 1 ≤ m → m < n → o m = bI (se m 4) ∧ h m = bI (se m 8) ∧ t m = bI (se m 9)
def FgOK (al : Int32) (o h t : Nat → Int32) : Prop := al = 0 ∨ (al = 1 ∧ FgR o h t 5001)
theorem layFlags_f (N : Nat) (hN : 2 ^ 40 ≤ N) {al tk pm : Int32} {mp : Nat → Int64} {mt o h t : Nat → Int32} {bits : Nat → Int64} (hM : MtOK tk mt) (hF : FgOK al o h t) : ∃ (pm' : Int32) (mp' : Nat → Int64) (mt' o' h' t' : Nat → Int32) (bits' : Nat → Int64), f_X12_layFlags N pm tk al mp mt o h t bits = some (pm', nI 0, 1, mp', mt', o', h', t', bits') ∧ MT 0 mt' ∧ FgR o' h' t' 5001 := by
  have h40 : (2 : Nat) ^ 40 = 1099511627776 := by decide
  obtain ⟨pm', mp', mt', l1, l2⟩ := layTable_f N hN (show 0 ≤ 3 by decide) hM pm mp
  have l1 : f_X12_layTable N (0 : Int32) pm tk mp mt = some (pm', nI 0, mp', mt') := l1
  unfold f_X12_layFlags
  rw [l1, ob]
  simp only
  rcases hF with e | ⟨e, hR⟩
  · rw [if_pos e]
    unfold l_X12_layFlags_24
    refine lp_post (I := fun (z : Int32 × Int32 × Int32 × (Nat → Int32) × (Nat → Int32) × (Nat → Int32) × (Nat → Int64)) => ∃ n : Nat, 1 ≤ n ∧ n ≤ 5001 ∧ z.1 = nI (bst 0 n) ∧ z.2.1 = nI (bst 1 n) ∧ z.2.2.1 = nI n ∧ FgR z.2.2.2.1 z.2.2.2.2.1 z.2.2.2.2.2.1 n) (μ := fun z => 5002 - z.2.2.1.toNatClampNeg) (post := fun r => ∃ (pm2 : Int32) (mp2 : Nat → Int64) (mt2 o' h' t' : Nat → Int32) (bits' : Nat → Int64), r = some (pm2, nI 0, 1, mp2, mt2, o', h', t', bits') ∧ MT 0 mt2 ∧ FgR o' h' t' 5001) ?_ N _ ?_ ?_
    · intro z K hI hK
      obtain ⟨y1, y2, y3, y4, y5, y6, y7⟩ := z
      obtain ⟨n, hn1, hn2, e1, e2, e3, hR⟩ := hI
      simp only at e1 e2 e3 hR
      subst e1
      subst e2
      subst e3
      show ∃ (pm2 : Int32) (mp2 : Nat → Int64) (mt2 o' h' t' : Nat → Int32) (bits' : Nat → Int64), s_X12_layFlags_24 N pm' (nI 0) 1 mp' mt' K (nI (bst 0 n)) (nI (bst 1 n)) (nI n) y4 y5 y6 y7 = some (pm2, nI 0, 1, mp2, mt2, o', h', t', bits') ∧ MT 0 mt2 ∧ FgR o' h' t' 5001
      unfold s_X12_layFlags_24
      by_cases c : 5000 < n
      · rw [if_pos (L_lt 5000 n c (by omega))]
        have : n = 5001 := by omega
        subst this
        exact ⟨pm', mp', mt', y4, y5, y6, y7, rfl, l2, hR⟩
      · have hx0 := bst_lt 0 n hn1
        have hx1 := bst_lt 1 n hn1
        have b0 := bst_s 0 hn1
        have b1 := bst_s 1 hn1
        have g1 := tbv_lt (k := 0) (x := n) (by decide)
        have g2 := tbv_lt (k := 0) (x := bst 0 n) (by decide)
        have g3 := tbv_lt (k := 0) (x := bst 1 n) (by decide)
        rw [if_neg (L_nlt 5000 n (by omega) (by decide)), weigh_f N l2 hn1 (by omega), ob]
        -- the end of a round
        have j127 : ∀ (o2 : Nat → Int32) (b2 : Nat → Int64), (∀ m, 1 ≤ m → m < n → o2 m = bI (se m 4)) → o2 n = bI (se n 4) → ∀ h2 : Nat → Int32, (∀ m, 1 ≤ m → m < n → h2 m = bI (se m 8)) → h2 n = bI (se n 8) → ∃ (pm2 : Int32) (mp2 : Nat → Int64) (mt2 o' h' t' : Nat → Int32) (bits' : Nat → Int64), j_X12_layFlags_127 N K (nI (bst 0 n)) (nI (bst 1 n)) (nI n) (bI (se n 9)) (nI n) o2 h2 y6 b2 = some (pm2, nI 0, 1, mp2, mt2, o', h', t', bits') ∧ MT 0 mt2 ∧ FgR o' h' t' 5001 := by
          intro o2 b2 ho hon h2 hh hhn
          have hμ : 5002 - (nI (n + 1)).toNatClampNeg < 5002 - (nI n).toNatClampNeg := by rw [nI_clamp (by omega), nI_clamp (by omega)]; omega
          have fin : FgR o2 h2 (upd y6 n (bI (se n 9))) (n + 1) := fun m h1 h3 => by
            by_cases q : m = n
            · subst q
              exact ⟨hon, hhn, pk_us⟩
            · rw [pk_un q]
              exact ⟨ho m h1 (by omega), hh m h1 (by omega), (hR m h1 (by omega)).2.2⟩
          unfold j_X12_layFlags_127
          rw [if_neg (L_in n 5001 (by omega) (by omega)), if_neg (L_in n 5001 (by omega) (by omega)), nI_clamp (by omega), nar_b, hhn]
          have s8 : se n 8 = rc 0 (bst 0 n) n := rfl
          have s9 : se n 9 = rc 1 (bst 1 n) n := rfl
          have j142 : ∀ v : Int32, v = nI (bst 0 (n + 1)) → ∃ (pm2 : Int32) (mp2 : Nat → Int64) (mt2 o' h' t' : Nat → Int32) (bits' : Nat → Int64), j_X12_layFlags_142 N K (nI (bst 1 n)) (nI n) v o2 h2 (upd y6 n (bI (se n 9))) b2 = some (pm2, nI 0, 1, mp2, mt2, o', h', t', bits') ∧ MT 0 mt2 ∧ FgR o' h' t' 5001 := by
            intro v hv
            unfold j_X12_layFlags_142
            rw [if_neg (L_in n 5001 (by omega) (by omega)), nI_clamp (by omega), pk_us]
            simp only [xl, nI_1]
            by_cases q : se n 9 = true
            · rw [if_neg (fun w => (bI_0 _).mp w q)]
              refine hK _ ⟨n + 1, by omega, by omega, hv, ?_, rfl, fin⟩ hμ
              show nI n = nI _
              rw [b1, if_pos (by rw [← s9]; exact q)]
            · rw [if_pos ((bI_0 _).mpr q)]
              refine hK _ ⟨n + 1, by omega, by omega, hv, ?_, rfl, fin⟩ hμ
              show nI _ = nI _
              rw [b1, if_neg (by rw [← s9]; exact q)]
          by_cases q : se n 8 = true
          · rw [if_neg (fun w => (bI_0 _).mp w q)]
            exact j142 _ (by rw [b0, if_pos (by rw [← s8]; exact q)])
          · rw [if_pos ((bI_0 _).mpr q)]
            exact j142 _ (by rw [b0, if_neg (by rw [← s8]; exact q)])
        have j88 : ∀ (o2 : Nat → Int32) (b2 : Nat → Int64), (∀ m, 1 ≤ m → m < n → o2 m = bI (se m 4)) → o2 n = bI (se n 4) → ∃ (pm2 : Int32) (mp2 : Nat → Int64) (mt2 o' h' t' : Nat → Int32) (bits' : Nat → Int64), j_X12_layFlags_88 N K (nI (bst 0 n)) (nI (bst 1 n)) (nI n) (bI (se n 8)) (nI n) mt' o2 y5 y6 b2 = some (pm2, nI 0, 1, mp2, mt2, o', h', t', bits') ∧ MT 0 mt2 ∧ FgR o' h' t' 5001 := by
          intro o2 b2 ho hon
          have k127 := j127 o2 b2 ho hon (upd y5 n (bI (se n 8))) (fun m h1 h2 => by rw [pk_un (by omega)]; exact (hR m h1 h2).2.1) pk_us
          unfold j_X12_layFlags_88 j_X12_layFlags_122
          rw [if_neg (L_in n 5001 (by omega) (by omega)), nI_clamp (by omega), nar_b]
          have s9 : se n 9 = rc 1 (bst 1 n) n := rfl
          by_cases c0 : bst 1 n = 0
          · rw [if_pos (by rw [c0]; rfl)]
            have : bI (se n 9) = 1 := by rw [s9]; simp [rc, c0, bI]
            rw [this] at k127
            exact k127
          · rw [if_neg (L_ne (bst 1 n) 0 c0 (by omega) (by decide)), if_neg (show ¬ (nI n < 0 ∨ 50001 ≤ n) from fun q => by rcases q with q | q; exact nI_pos (by omega) q; omega), if_neg (L_in (bst 1 n) 50001 (by omega) (by omega)), nI_clamp (by omega), l2 n (by omega), l2 (bst 1 n) (by omega), nI_i64 (by omega), nI_i64 (by omega), nI_i64 (by omega), nI_i64 (by omega), lN_mul, lN_mul]
            by_cases q : tbv 0 n * bst 1 n ≤ tbv 0 (bst 1 n) * n
            · rw [if_pos ((M_leI (sm63 g1 (by omega)) (sm63 g3 (by omega))).mpr q)]
              have : bI (se n 9) = 0 := by
                have : se n 9 = false := by rw [s9]; simp [rc, c0] <;> omega
                rw [this]; rfl
              rw [this] at k127
              exact k127
            · rw [if_neg (fun w => q ((M_leI (sm63 g1 (by omega)) (sm63 g3 (by omega))).mp w))]
              have : bI (se n 9) = 1 := by
                have : se n 9 = true := by rw [s9]; simp [rc, c0] <;> omega
                rw [this]; rfl
              rw [this] at k127
              exact k127
        have j58 : ∀ b2 : Nat → Int64, ∃ (pm2 : Int32) (mp2 : Nat → Int64) (mt2 o' h' t' : Nat → Int32) (bits' : Nat → Int64), j_X12_layFlags_58 N K (nI (bst 0 n)) (nI (bst 1 n)) (nI n) (bI (se n 4)) (nI n) mt' y4 y5 y6 b2 = some (pm2, nI 0, 1, mp2, mt2, o', h', t', bits') ∧ MT 0 mt2 ∧ FgR o' h' t' 5001 := by
          intro b2
          have k88 := j88 (upd y4 n (bI (se n 4))) b2 (fun m h1 h2 => by rw [pk_un (by omega)]; exact (hR m h1 h2).1) pk_us
          unfold j_X12_layFlags_58 j_X12_layFlags_83
          rw [if_neg (L_in n 5001 (by omega) (by omega)), nI_clamp (by omega), nar_b]
          have s8 : se n 8 = rc 0 (bst 0 n) n := rfl
          by_cases c0 : bst 0 n = 0
          · rw [if_pos (by rw [c0]; rfl)]
            have : bI (se n 8) = 1 := by rw [s8]; simp [rc, c0, bI]
            rw [this] at k88
            exact k88
          · rw [if_neg (L_ne (bst 0 n) 0 c0 (by omega) (by decide)), if_neg (show ¬ (nI n < 0 ∨ 50001 ≤ n) from fun q => by rcases q with q | q; exact nI_pos (by omega) q; omega), if_neg (L_in (bst 0 n) 50001 (by omega) (by omega)), nI_clamp (by omega), l2 n (by omega), l2 (bst 0 n) (by omega)]
            by_cases q : tbv 0 n ≤ tbv 0 (bst 0 n)
            · rw [if_pos (L_le _ _ q (by omega))]
              have : bI (se n 8) = 0 := by
                have : se n 8 = false := by rw [s8]; simp [rc, c0] <;> omega
                rw [this]; rfl
              rw [this] at k88
              exact k88
            · rw [if_neg (L_nle (tbv 0 n) (tbv 0 (bst 0 n)) (by omega) (by omega))]
              have : bI (se n 8) = 1 := by
                have : se n 8 = true := by rw [s8]; simp [rc, c0] <;> omega
                rw [this]; rfl
              rw [this] at k88
              exact k88
        have hw3 : wgh n < 3 := by unfold wgh; split <;> (try split) <;> omega
        have s4 : se n 4 = (rch n && !mb n n n) := rfl
        by_cases w : wgh n = 2
        · rw [if_pos (by rw [w]; rfl)]
          obtain ⟨b2, m1⟩ := isMade_f N hN hn1 (show n ≤ 5000 by omega) y7
          rw [m1, ob]
          simp only [ite01]
          have hr := (wgh_2 n).mp w
          have k := j58 b2
          by_cases q : mb n n n = true
          · rw [if_neg (fun v => v q)]
            have : bI (se n 4) = 0 := by rw [s4, hr, q]; rfl
            rw [this] at k
            exact k
          · rw [if_pos q]
            have q' : mb n n n = false := by simpa using q
            have : bI (se n 4) = 1 := by rw [s4, hr, q']; rfl
            rw [this] at k
            exact k
        · rw [if_neg (L_ne (wgh n) 2 w (by omega) (by decide))]
          have hr : rch n = false := by
            have : ¬ rch n = true := fun v => w ((wgh_2 n).mpr v)
            simpa using this
          have k := j58 y7
          have : bI (se n 4) = 0 := by rw [s4, hr]; rfl
          rw [this] at k
          exact k
    · exact ⟨1, by decide, by decide, rfl, rfl, rfl, fun m h1 h2 => by omega⟩
    · show 5002 - _ < N
      omega
  · subst e
    rw [if_neg one0]
    exact ⟨pm', mp', mt', o, h, t, bits, rfl, l2, hR⟩
theorem lookAt_f (N : Nat) (hN : 2 ^ 40 ≤ N) {n : Nat} (h0 : 0 < n) (hn : n ≤ 5000) (pm un0 fr0 : Int32) (mp : Nat → Int64) : ∃ (pm' : Int32) (mp' : Nat → Int64), f_X12_lookAt N (nI n) pm un0 fr0 mp = some (pm', nI (om n), bI (sqf n), mp') := by
  have h40 : (2 : Nat) ^ 40 = 1099511627776 := by decide
  unfold f_X12_lookAt
  obtain ⟨w, Q, arr, l1, hw, hMF, hv⟩ := layPrimes_f N hN h0 (show n ≤ 10000000000 by omega) pm mp
  rw [nI_i64 (by omega), l1, ob]
  simp only
  obtain ⟨q1, q2, q3⟩ := hMF
  refine ⟨nI w, arr, ?_⟩
  unfold l_X12_lookAt_18
  have hsm : ∀ k, k ≤ w → 0 < prodf Q k := fun k hk => prodf_pos (fun i hi => by have := (q1 i (by omega)).1; omega)
  have hQn : ∀ k, k < w → Q k < 2 ^ 63 := fun k hk => by
    have h1 : Q k ∣ prodf Q w := by
      obtain ⟨e, he⟩ := Nat.exists_eq_add_of_le (show k + 1 ≤ w by omega)
      rw [he]
      clear he
      induction e with
      | zero => exact Nat.dvd_mul_left _ _
      | succ e ih => exact Nat.dvd_trans ih (Nat.dvd_mul_right _ _)
    rw [q3] at h1
    have := Nat.le_of_dvd h0 h1
    omega
  refine lp_eq _ (I := fun (z : Int32 × Int32 × Int32) => ∃ k : Nat, k ≤ w ∧ z.1 = nI k ∧ z.2.1 = nI (om (prodf Q k)) ∧ z.2.2 = bI (sqf (prodf Q k))) (μ := fun z => 50 - z.1.toNatClampNeg) ?_ N _ ?_ ?_
  · intro z K hI hK
    obtain ⟨y1, y2, y3⟩ := z
    obtain ⟨k, hk, e1, e2, e3⟩ := hI
    simp only at e1 e2 e3
    subst e1
    subst e2
    subst e3
    show s_X12_lookAt_18 N (nI w) arr K (nI k) _ _ = _
    unfold s_X12_lookAt_18
    by_cases c : w ≤ k
    · rw [if_pos (L_le w k c (by omega)), show k = w by omega, q3]
    · rw [if_neg (L_nle w k (by omega) (by omega))]
      have hp := q1 k (by omega)
      have hs : prodf Q (k + 1) = prodf Q k * Q k := rfl
      have o1 := om_mul (hsm k (by omega)) hp
      have o2 := sqf_mul (hsm k (by omega)) hp
      rw [← hs] at o1 o2
      have hμ : 50 - (nI (k + 1)).toNatClampNeg < 50 - (nI k).toNatClampNeg := by rw [nI_clamp (by omega), nI_clamp (by omega)]; omega
      have j53 : ∀ ag : Bool, ag = decide (Q k ∣ prodf Q k) → j_X12_lookAt_53 N K (nI k) (bI ag) (nI (om (prodf Q k))) (bI (sqf (prodf Q k))) = some (nI w, nI (om n), bI (sqf n), arr) := by
        intro ag hag
        have key : ∀ s0 : Nat, s0 = (if Q k ∣ prodf Q k then 0 else 1) → j_X12_lookAt_68 N K (nI k) (bI ag) (nI s0) (nI (om (prodf Q k))) (bI (sqf (prodf Q k))) = some (nI w, nI (om n), bI (sqf n), arr) := by
          intro s0 hs0
          unfold j_X12_lookAt_68 j_X12_lookAt_88
          simp only [xl, nI_1, nI_add, bI_0]
          rw [hs0, ← o1]
          by_cases f : sqf (prodf Q k) = true
          · rw [if_neg (fun v => v f)]
            by_cases a : ag = true
            · rw [if_neg (fun v => v a)]
              refine hK _ ⟨k + 1, by omega, rfl, rfl, ?_⟩ hμ
              show (0 : Int32) = _
              rw [o2, ← hag, a]; simp [bI]
            · rw [if_pos a]
              refine hK _ ⟨k + 1, by omega, rfl, rfl, ?_⟩ hμ
              show (1 : Int32) = _
              have a' : ag = false := by simpa using a
              rw [o2, ← hag, a', f]; rfl
          · rw [if_pos f]
            refine hK _ ⟨k + 1, by omega, rfl, rfl, ?_⟩ hμ
            show (0 : Int32) = _
            have f' : sqf (prodf Q k) = false := by simpa using f
            rw [o2, f']; rfl
        unfold j_X12_lookAt_53
        simp only [bI_0]
        by_cases a : ag = true
        · rw [if_neg (fun v => v a)]
          exact key 0 (by rw [if_pos (by simpa [hag] using a)])
        · rw [if_pos a]
          exact key 1 (by rw [if_neg (by simpa [hag] using a)])
      by_cases k0 : k = 0
      · rw [if_pos (L_le k 0 (by omega) (by decide))]
        unfold j_X12_lookAt_52
        refine j53 false ?_
        subst k0
        have : ¬ Q 0 ∣ prodf Q 0 := fun v => by
          have := Nat.le_of_dvd (by decide) (show Q 0 ∣ 1 from v)
          have := hp.1
          omega
        simp [this]
      · rw [if_neg (L_nle k 0 (by omega) (by omega)), if_neg (L_in k 40 (by omega) (by omega)), show (1 : Int32) = nI 1 from rfl, pk_sub (by omega)]
        simp only [xl]
        rw [if_neg (L_in (k - 1) 40 (by omega) (by omega)), nI_clamp (by omega), nI_clamp (by omega), hv k (by omega), hv (k - 1) (by omega)]
        have heq : (lN (Q k) = lN (Q (k - 1))) ↔ Q k = Q (k - 1) := pk_lEQ (hQn k (by omega)) (hQn (k - 1) (by omega))
        have hdv : (Q k ∣ prodf Q k) ↔ Q k = Q (k - 1) := by
          constructor
          · intro v
            rcases Classical.em (Q k = Q (k - 1)) with r | r
            · exact r
            · exfalso
              refine prodf_free hp (fun i hi => ⟨q1 i (by omega), fun e => ?_⟩) v
              have a := q2 i (k - 1) (by omega) (by omega)
              have b := q2 (k - 1) k (by omega) (by omega)
              omega
          · intro v
            obtain ⟨k', rfl⟩ : ∃ k', k = k' + 1 := ⟨k - 1, by omega⟩
            rw [v]
            exact Nat.dvd_mul_left _ _
        by_cases r : Q k = Q (k - 1)
        · rw [if_pos (heq.mpr r)]
          exact j53 true (by simp [hdv.mpr r])
        · rw [if_neg (fun v => r (heq.mp v))]
          unfold j_X12_lookAt_52
          have : ¬ Q k ∣ prodf Q k := fun v => r (hdv.mp v)
          exact j53 false (by simp [this])
  · exact ⟨0, Nat.zero_le _, rfl, by rw [show prodf Q 0 = 1 from rfl, om_1]; rfl, by rw [show prodf Q 0 = 1 from rfl, sqf_1]; rfl⟩
  · show 50 - _ < N
    omega
theorem seen_f (N : Nat) (hN : 2 ^ 40 ≤ N) {n b : Nat} (h0 : 0 < n) (hn : n ≤ 5000) (hb : b < 256) (ht : tix b < 19) {mt o h t : Nat → Int32} (hM : MT 0 mt) (hF : FgR o h t 5001) (pm un0 fr0 : Int32) (mp : Nat → Int64) : ∃ (pm' un' fr' : Int32) (mp' : Nat → Int64), f_X12_seen N (nI b) (nI n) pm un0 fr0 mp mt o h t = some (bI (se n (tix b)), pm', un', fr', mp') := by
  have h40 : (2 : Nat) ^ 40 = 1099511627776 := by decide
  have hbt := (tok_ok b hb).2.2 (by omega)
  obtain ⟨f1, f2, f3⟩ := hF n h0 (by omega)
  have wf := weigh_f N hM h0 (show n ≤ 50000 by omega)
  have hw3 : wgh n < 3 := by unfold wgh; split <;> (try split) <;> omega
  obtain ⟨pm', mp', lf⟩ := lookAt_f N hN h0 hn pm un0 fr0 mp
  have ho := om_le h0 hn
  generalize hj : tix b = j at *
  have fig : ∀ q : Nat, 1 ≤ q → q ≤ 9 → j = 9 + q → b = 48 + q → ∃ (pm' un' fr' : Int32) (mp' : Nat → Int64), (Option.bind (f_X12_lookAt N (nI n) pm un0 fr0 mp) fun r46z => if r46z.2.1 = (nI b - (48 : Int32)) then some ((1 : Int32), r46z.1, r46z.2.1, r46z.2.2.1, r46z.2.2.2) else some ((0 : Int32), r46z.1, r46z.2.1, r46z.2.2.1, r46z.2.2.2)) = some (bI (se n j), pm', un', fr', mp') := by
    intro q q1 q9 ej eb
    rw [lf, ob]
    simp only
    rw [show (48 : Int32) = nI 48 from rfl, pk_sub (by omega), show b - 48 = q by omega]
    have hse : se n j = decide (om n = q) := by
      unfold se
      rw [if_neg (by omega), if_neg (by omega), if_neg (by omega), if_neg (by omega), if_neg (by omega), if_neg (by omega), if_neg (by omega), if_neg (by omega), if_neg (by omega), if_neg (by omega), show j - 9 = q by omega]
    rw [hse]
    by_cases c : om n = q
    · rw [if_pos (by rw [c]), decide_eq_true c]
      exact ⟨pm', _, _, mp', rfl⟩
    · rw [if_neg (L_ne (om n) q c (by omega) (by omega)), decide_eq_false c]
      exact ⟨pm', _, _, mp', rfl⟩
  unfold f_X12_seen
  rcases (show j = 0 ∨ j = 1 ∨ j = 2 ∨ j = 3 ∨ j = 4 ∨ j = 5 ∨ j = 6 ∨ j = 7 ∨ j = 8 ∨ j = 9 ∨ j = 10 ∨ j = 11 ∨ j = 12 ∨ j = 13 ∨ j = 14 ∨ j = 15 ∨ j = 16 ∨ j = 17 ∨ j = 18 by omega) with rfl | rfl | rfl | rfl | rfl | rfl | rfl | rfl | rfl | rfl | rfl | rfl | rfl | rfl | rfl | rfl | rfl | rfl | rfl <;> (have hbt : _ = b := hbt) <;> subst hbt
  -- r
  · rw [if_neg (by decide), if_neg (by decide), if_neg (by decide), if_neg (by decide), if_neg (by decide), if_neg (by decide), if_neg (by decide), if_pos (by decide), wf, ob]
    have := wgh_2 n
    have hse : se n 0 = rch n := rfl
    by_cases c : rch n = true
    · rw [if_pos (by rw [this.mpr c]; rfl), hse, c]; exact ⟨_, _, _, _, rfl⟩
    · rw [if_neg (L_ne (wgh n) 2 (fun v => c (this.mp v)) (by omega) (by decide)), hse, show rch n = false by simpa using c]; exact ⟨_, _, _, _, rfl⟩
  -- b
  · rw [if_pos (by decide), sortOf_f N hN hM h0 (by omega), ob]
    have hse : se n 1 = decide (srt n = 3) := rfl
    have hs4 : srt n < 4 := by unfold srt; split <;> (try split) <;> omega
    by_cases c : srt n = 3
    · rw [if_pos (by rw [c]; rfl), hse, decide_eq_true c]; exact ⟨_, _, _, _, rfl⟩
    · rw [if_neg (L_ne (srt n) 3 c (by omega) (by decide)), hse, decide_eq_false c]; exact ⟨_, _, _, _, rfl⟩
  -- x
  · rw [if_neg (by decide), if_neg (by decide), if_neg (by decide), if_neg (by decide), if_neg (by decide), if_neg (by decide), if_neg (by decide), if_neg (by decide), if_neg (by decide), if_pos (by decide), wf, ob]
    have hse : se n 2 = decide (wgh n = 1) := rfl
    by_cases c : wgh n = 1
    · rw [if_pos (by rw [c]; rfl), hse, decide_eq_true c]; exact ⟨_, _, _, _, rfl⟩
    · rw [if_neg (L_ne (wgh n) 1 c (by omega) (by decide)), hse, decide_eq_false c]; exact ⟨_, _, _, _, rfl⟩
  -- p
  · rw [if_neg (by decide), if_neg (by decide), if_neg (by decide), if_neg (by decide), if_neg (by decide), if_pos (by decide), wf, ob]
    have hse : se n 3 = decide (wgh n = 0) := rfl
    by_cases c : wgh n = 0
    · rw [if_pos (by rw [c]; rfl), hse, decide_eq_true c]; exact ⟨_, _, _, _, rfl⟩
    · rw [if_neg (L_ne (wgh n) 0 c (by omega) (by decide)), hse, decide_eq_false c]; exact ⟨_, _, _, _, rfl⟩
  -- o
  · rw [if_neg (by decide), if_neg (by decide), if_neg (by decide), if_neg (by decide), if_pos (by decide), if_neg (L_in n 5001 (by omega) (by omega)), nI_clamp (by omega), f1, if_pos (bI_01 _)]
    exact ⟨_, _, _, _, rfl⟩
  -- e
  · rw [if_neg (by decide), if_pos (by decide)]
    have h2 : (nI n - nI n / (2 : Int32) * (2 : Int32) = 0) ↔ n % 2 = 0 := L_rem (a := n) (b := 2) (by omega) (by decide) (by decide)
    have hse : se n 5 = decide (n % 2 = 0) := rfl
    by_cases c : n % 2 = 0
    · rw [if_pos (h2.mpr c), hse, decide_eq_true c]; exact ⟨_, _, _, _, rfl⟩
    · rw [if_neg (fun v => c (h2.mp v)), hse, decide_eq_false c]; exact ⟨_, _, _, _, rfl⟩
  -- q
  · rw [if_neg (by decide), if_neg (by decide), if_neg (by decide), if_neg (by decide), if_neg (by decide), if_neg (by decide), if_pos (by decide), nI_i64 (by omega)]
    obtain ⟨s, r1, r2, r3, r4⟩ := root_f N hN (show n ≤ 10000000000 by omega)
    rw [r1, ob, ob, lN_mul]
    have hse : se n 6 = sqB n := rfl
    have hiff : (lN (s * s) = lN n) ↔ s * s = n := pk_lEQ (by omega) (by omega)
    by_cases c : s * s = n
    · rw [if_pos (hiff.mpr c), hse, (sqB_iff n).mpr ⟨s, c⟩]; exact ⟨_, _, _, _, rfl⟩
    · rw [if_neg (fun v => c (hiff.mp v)), hse]
      have : sqB n = false := by
        have : ¬ sqB n = true := fun v => by
          obtain ⟨x, hx⟩ := (sqB_iff n).mp v
          rcases Nat.lt_or_ge x (s + 1) with w | w
          · rcases Nat.lt_or_ge x s with w2 | w2
            · have : x * x < s * s := Nat.mul_self_lt_mul_self w2
              omega
            · have : x = s := by omega
              subst this
              exact c hx
          · have : (s + 1) * (s + 1) ≤ x * x := Nat.mul_le_mul w w
            omega
        simpa using this
      rw [this]; exact ⟨_, _, _, _, rfl⟩
  -- f
  · rw [if_neg (by decide), if_neg (by decide), if_pos (by decide), lf, ob]
    simp only
    rw [if_pos (bI_01 _)]
    exact ⟨_, _, _, _, rfl⟩
  -- h
  · rw [if_neg (by decide), if_neg (by decide), if_neg (by decide), if_pos (by decide), if_neg (L_in n 5001 (by omega) (by omega)), nI_clamp (by omega), f2, if_pos (bI_01 _)]
    exact ⟨_, _, _, _, rfl⟩
  -- t
  · rw [if_neg (by decide), if_neg (by decide), if_neg (by decide), if_neg (by decide), if_neg (by decide), if_neg (by decide), if_neg (by decide), if_neg (by decide), if_pos (by decide), if_neg (L_in n 5001 (by omega) (by omega)), nI_clamp (by omega), f3, if_pos (bI_01 _)]
    exact ⟨_, _, _, _, rfl⟩
  all_goals rw [if_neg (by decide), if_neg (by decide), if_neg (by decide), if_neg (by decide), if_neg (by decide), if_neg (by decide), if_neg (by decide), if_neg (by decide), if_neg (by decide), if_neg (by decide)]
  · exact fig 1 (by decide) (by decide) rfl rfl
  · exact fig 2 (by decide) (by decide) rfl rfl
  · exact fig 3 (by decide) (by decide) rfl rfl
  · exact fig 4 (by decide) (by decide) rfl rfl
  · exact fig 5 (by decide) (by decide) rfl rfl
  · exact fig 6 (by decide) (by decide) rfl rfl
  · exact fig 7 (by decide) (by decide) rfl rfl
  · exact fig 8 (by decide) (by decide) rfl rfl
  · exact fig 9 (by decide) (by decide) rfl rfl
