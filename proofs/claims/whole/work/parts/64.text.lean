/-! the text of wishes: what is written, its fault, its counts -/
def fT (x : Int32) : Nat → Nat → Int32
  | 0, _ => -1
  | d + 1, j => if tkB j = x then nI j else fT x d (j + 1)
def tkn : List Nat := [114, 98, 120, 112, 111, 101, 113, 102, 104, 116, 49, 50, 51, 52, 53, 54, 55, 56, 57, 126, 38, 124, 94]
def tixF (b : Nat) : List Nat → Nat → Nat
  | [], j => j
  | c :: r, j => if c = b then j else tixF b r (j + 1)
def tix (b : Nat) : Nat := tixF b tkn 0
def tokI (b : Nat) : Int32 := if tix b < 23 then nI (tix b) else -1
theorem tok_ok : ∀ b, b < 256 → fT (nI b).toInt8.toInt32 23 0 = tokI b ∧ tix b ≤ 23 ∧ (tix b < 23 → tkn.getD (tix b) 0 = b) := by decide +kernel
theorem look_m0 : ∀ b, b < 256 → f_X12_looks 0 (nI b) = some (if tix b < 19 then 1 else 0) := by decide +kernel
theorem look_c0 : ∀ b, b < 256 → f_X10_looks 0 (tokI b) = some (if tix b < 19 then 1 else 0) := by decide +kernel
theorem look_m (N : Nat) {b : Nat} (h : b < 256) : f_X12_looks N (nI b) = some (if tix b < 19 then 1 else 0) := look_m0 b h
theorem look_c (N : Nat) {b : Nat} (h : b < 256) : f_X10_looks N (tokI b) = some (if tix b < 19 then 1 else 0) := look_c0 b h
theorem tok_eq : ∀ b, b < 256 → ((tokI b = 19) ↔ tix b = 19) ∧ ((nI b = 126) ↔ tix b = 19) ∧ ((nI b = 38) ↔ tix b = 20) ∧ ((nI b = 124) ↔ tix b = 21) ∧ ((nI b = 94) ↔ tix b = 22) ∧ ((tokI b = -1) ↔ tix b = 23) ∧ ((tokI b = 20) ↔ tix b = 20) ∧ ((tokI b = 21) ↔ tix b = 21) := by decide +kernel
theorem indexOf_f (N : Nat) (hN : 100 ≤ N) {b : Nat} (hb : b < 256) : f_J0_indexOf_0f7a4 N (nI b) = some (tokI b) := by
  have hl : ∀ d j f, j + d = 23 → d < f → l_J1_indexOfChar_4cfef_7 N (23 : Int32) (nI b).toInt8.toInt32 f (nI j) = some (fT (nI b).toInt8.toInt32 d j) := by
    intro d
    induction d with
    | zero =>
      intro j f hj hf
      match f, hf with
      | f + 1, _ =>
        show s_J1_indexOfChar_4cfef_7 N (23 : Int32) (nI b).toInt8.toInt32 _ (nI j) = _
        unfold s_J1_indexOfChar_4cfef_7 fT
        rw [if_pos (L_le 23 j (by omega) (by omega))]
    | succ d ih =>
      intro j f hj hf
      match f, hf with
      | f + 1, hf =>
        show s_J1_indexOfChar_4cfef_7 N (23 : Int32) (nI b).toInt8.toInt32 (l_J1_indexOfChar_4cfef_7 N (23 : Int32) (nI b).toInt8.toInt32 f) (nI j) = _
        unfold s_J1_indexOfChar_4cfef_7 fT
        rw [if_neg (L_nle 23 j (by omega) (by decide)), if_neg (L_in j 23 (by omega) (by omega)), nI_clamp (by omega)]
        simp only [xl, nI_1]
        rw [ih (j + 1) f (by omega) (by omega)]
        split <;> rfl
  have e0 := hl 23 0 N (by omega) (by omega)
  have e0 : l_J1_indexOfChar_4cfef_7 N (23 : Int32) (nI b).toInt8.toInt32 N (0 : Int32) = some (fT (nI b).toInt8.toInt32 23 0) := e0
  rw [(tok_ok b hb).1] at e0
  unfold f_J0_indexOf_0f7a4 f_J0_indexOf_7cf53 f_J0_isLatin1_aae02 f_J0_length_8abf5 f_J0_coder_7d493 f_J1_indexOf_4cfef f_J1_canEncode_9a6ad f_J1_indexOfChar_4cfef
  rw [ob, if_neg one0, ob, ob, if_neg (nI_pos (by omega)), if_neg (L_nlt 255 b (by omega) (by decide)), ob, if_neg one0]
  simp only [xl]
  rw [show ((23 : Int32) >>> ((0 : Int32) &&& 31)) = 23 by decide]
  rw [if_neg (show ¬ (0 : Int32) < 0 by decide), if_neg (show ¬ (23 : Int32) < 23 by decide), if_pos (show (0 : Int32) < 23 by decide), e0]
  rfl
/-- one byte of a long, by both roads -/
theorem byte_f (x : Int64) : ∀ k, k < 8 → ∃ b : Nat, b < 256 ∧ (((x.toUInt64 >>> (((8 : Int32) * nI k).toInt64.toUInt64 &&& Int64.toUInt64 63)).toInt64) &&& (255 : Int64)).toInt32 = nI b ∧ ((x >>> (((8 : Int32) * nI k).toInt64 &&& 63)) &&& (255 : Int64)).toInt32 = nI b := by
  intro k hk
  have key : ((x.toUInt64 >>> (((8 : Int32) * nI k).toInt64.toUInt64 &&& Int64.toUInt64 63)).toInt64) &&& (255 : Int64) = lN (x.toBitVec.toNat / 2 ^ (8 * k) % 256) ∧ (x >>> (((8 : Int32) * nI k).toInt64 &&& 63)) &&& (255 : Int64) = lN (x.toBitVec.toNat / 2 ^ (8 * k) % 256) := by
    have hs : ((((8 : Int32) * nI k).toInt64.toUInt64 &&& Int64.toUInt64 63).toBitVec % 64).toNat = 8 * k ∧ ((((8 : Int32) * nI k).toInt64 &&& 63).toBitVec.smod 64).toNat = 8 * k := by
      rcases (show k = 0 ∨ k = 1 ∨ k = 2 ∨ k = 3 ∨ k = 4 ∨ k = 5 ∨ k = 6 ∨ k = 7 by omega) with rfl | rfl | rfl | rfl | rfl | rfl | rfl | rfl <;> decide
    have hm : lN (x.toBitVec.toNat / 2 ^ (8 * k) % 256) = lN (x.toBitVec.toNat / 2 ^ (8 * k)) &&& lN (2 ^ 8 - 1) := (fb_maskL (x.toBitVec.toNat / 2 ^ (8 * k)) 8).symm
    rw [hm, show (255 : Int64) = lN (2 ^ 8 - 1) from rfl]
    have e1 : (x.toUInt64 >>> (((8 : Int32) * nI k).toInt64.toUInt64 &&& Int64.toUInt64 63)).toInt64 = lN (x.toBitVec.toNat / 2 ^ (8 * k)) := by
      apply Int64.toBitVec_inj.1
      show x.toBitVec >>> ((((8 : Int32) * nI k).toInt64.toUInt64 &&& Int64.toUInt64 63).toBitVec % 64) = BitVec.ofNat 64 (x.toBitVec.toNat / 2 ^ (8 * k))
      apply BitVec.eq_of_toNat_eq
      rw [BitVec.ushiftRight_eq', hs.1, BitVec.toNat_ushiftRight, BitVec.toNat_ofNat, Nat.shiftRight_eq_div_pow, Nat.mod_eq_of_lt]
      exact Nat.lt_of_le_of_lt (Nat.div_le_self _ _) x.toBitVec.isLt
    refine ⟨by rw [e1], ?_⟩
    apply Int64.toBitVec_inj.1
    show (x.toBitVec.sshiftRight' ((((8 : Int32) * nI k).toInt64 &&& 63).toBitVec.smod 64)) &&& BitVec.ofNat 64 (2 ^ 8 - 1) = BitVec.ofNat 64 (x.toBitVec.toNat / 2 ^ (8 * k)) &&& BitVec.ofNat 64 (2 ^ 8 - 1)
    apply BitVec.eq_of_getLsbD_eq
    intro i hi
    rw [BitVec.getLsbD_and, BitVec.getLsbD_and]
    by_cases h8 : i < 8
    · congr 1
      rw [BitVec.sshiftRight_eq', hs.2, BitVec.getLsbD_sshiftRight, if_pos (show 8 * k + i < 64 by omega), BitVec.getLsbD_ofNat]
      have : (decide (i < 64)) = true := by simp; omega
      rw [Nat.testBit_div_two_pow, this]
      simp [BitVec.getLsbD, Nat.add_comm, show ¬ 64 ≤ i by omega]
    · have : (BitVec.ofNat 64 (2 ^ 8 - 1)).getLsbD i = false := by
        rw [BitVec.getLsbD_ofNat, Nat.testBit_two_pow_sub_one]
        simp [h8]
      rw [this, Bool.and_false, Bool.and_false]
  refine ⟨x.toBitVec.toNat / 2 ^ (8 * k) % 256, Nat.mod_lt _ (by decide), ?_, ?_⟩
  · rw [key.1, lN_i]
  · rw [key.2, lN_i]
/-- both texts tell the same -/
def TxOK (wl : Int32) (ct : Nat → Int32) (ml : Int32) (mtx : Nat → Int32) : Prop := ∃ len : Nat, len ≤ 60 ∧ wl = nI len ∧ ml = nI len ∧ ∃ bt : Nat → Nat, ∀ i, i < len → bt i < 256 ∧ ct i = tokI (bt i) ∧ mtx i = nI (bt i)
theorem write_eq (N : Nat) (hN : 2 ^ 40 ≤ N) (v1 : Int32) (v2 : Int64) {wl ml : Int32} {ct mtx : Nat → Int32} (h : TxOK wl ct ml mtx) : ∃ (ans wl' ml' : Int32) (ct' mtx' : Nat → Int32), f_X11_write N v1 v2 wl ct = some (ans, wl', ct') ∧ f_X12_write N v1 v2 ml mtx = some (ans, ml', mtx') ∧ TxOK wl' ct' ml' mtx' := by
  have h40 : (2 : Nat) ^ 40 = 1099511627776 := by decide
  obtain ⟨len, hl, rfl, rfl, bt, hb⟩ := h
  rcases with_f N v1 1 8 (by decide) (by decide) with ⟨n, n1, n8, rfl, w1, w2⟩ | ⟨w1, w2⟩
  · have w1 : f_X11_within N (nI n) (1 : Int32) (8 : Int32) = some 1 := w1
    have w2 : f_X12_in N (nI n).toInt64 (1 : Int64) (8 : Int64) = some 1 := w2
    unfold f_X11_write f_X10_append f_X12_write
    rw [w1, w2, ob, ob, if_neg one0, if_neg one0, nI_add]
    by_cases c : len + n ≤ 60
    · rw [if_pos (L_le (len + n) 60 c (by decide)), if_pos (L_le (len + n) 60 c (by decide))]
      simp only [xl]
      rw [show (1 : Int32) = nI 1 from rfl, pk_sub n1]
      -- both loops together
      have go : ∀ d fc fm len (ct mtx : Nat → Int32) (bt : Nat → Nat), len + d ≤ 60 → d ≤ 8 → d < fc → d < fm → (∀ i, i < len → bt i < 256 ∧ ct i = tokI (bt i) ∧ mtx i = nI (bt i)) → ∃ (ct' mtx' : Nat → Int32) (bt' : Nat → Nat), l_X10_append_19 N v2 fc (nI d - 1, nI len, ct) = some (nI (len + d), nI (len + d), ct') ∧ l_X12_write_33 N v2 fm (nI d - 1, nI len, mtx) = some (nI (len + d), nI (len + d), mtx') ∧ ∀ i, i < len + d → bt' i < 256 ∧ ct' i = tokI (bt' i) ∧ mtx' i = nI (bt' i) := by
        intro d
        induction d with
        | zero =>
          intro fc fm len ct mtx bt h1 h2 h3 h4 hb
          match fc, fm, h3, h4 with
          | fc + 1, fm + 1, _, _ =>
            refine ⟨ct, mtx, bt, ?_, ?_, hb⟩
            · show s_X10_append_19 N v2 (l_X10_append_19 N v2 fc) (nI 0 - 1) (nI len) ct = _
              unfold s_X10_append_19
              rw [if_pos (by decide)]; rfl
            · show s_X12_write_33 N v2 (l_X12_write_33 N v2 fm) (nI 0 - 1) (nI len) mtx = _
              unfold s_X12_write_33
              rw [if_pos (by decide)]; rfl
        | succ d ih =>
          intro fc fm len ct mtx bt h1 h2 h3 h4 hb
          match fc, fm, h3, h4 with
          | fc + 1, fm + 1, h3, h4 =>
            obtain ⟨b, hb1, e1, e2⟩ := byte_f v2 d (by omega)
            obtain ⟨ct', mtx', bt', g1, g2, g3⟩ := ih fc fm (len + 1) (upd ct len (tokI b)) (upd mtx len (nI b)) (fun i => if i = len then b else bt i) (by omega) (by omega) (by omega) (by omega) (fun i hi => by
              by_cases q : i = len
              · subst q
                rw [pk_us, pk_us, if_pos rfl]
                exact ⟨hb1, rfl, rfl⟩
              · rw [pk_un q, pk_un q, if_neg q]
                exact hb i (by omega))
            rw [show len + (d + 1) = len + 1 + d by omega]
            have ed : nI (d + 1) - 1 = nI d := nI_pred d
            have em : nI d + (-1 : Int32) = nI d - 1 := by
              apply Int32.toBitVec_inj.1
              rw [Int32.toBitVec_add, Int32.toBitVec_sub, BitVec.sub_eq_add_neg]
              rfl
            refine ⟨ct', mtx', bt', ?_, ?_, g3⟩
            · show s_X10_append_19 N v2 (l_X10_append_19 N v2 fc) (nI (d + 1) - 1) (nI len) ct = _
              unfold s_X10_append_19
              rw [ed, if_neg (nI_pos (by omega)), if_neg (L_nle 60 len (by omega) (by decide)), e1]
              simp only [xl]
              rw [pk_char, pk_tn (by omega), Nat.mod_eq_of_lt (by omega), indexOf_f N (by omega) hb1, ob, if_neg (L_in len 60 (by omega) (by omega)), nI_clamp (by omega), nI_1, em]
              exact g1
            · show s_X12_write_33 N v2 (l_X12_write_33 N v2 fm) (nI (d + 1) - 1) (nI len) mtx = _
              unfold s_X12_write_33
              rw [ed, if_neg (nI_pos (by omega)), e2]
              simp only [xl]
              rw [if_neg (L_in len 60 (by omega) (by omega)), nI_clamp (by omega), nI_1, em]
              exact g2
      obtain ⟨ct', mtx', bt', g1, g2, g3⟩ := go n N N len ct mtx bt c n8 (by omega) (by omega) hb
      have en : nI n - 1 = nI (n - 1) := by rw [show (1 : Int32) = nI 1 from rfl, pk_sub n1]
      rw [en] at g1 g2
      rw [g1, g2, ob]
      exact ⟨nI (len + n), nI (len + n), nI (len + n), ct', mtx', rfl, rfl, len + n, c, rfl, rfl, bt', g3⟩
    · rw [if_neg (L_nle (len + n) 60 (by omega) (by omega)), if_neg (L_nle (len + n) 60 (by omega) (by omega)), ob]
      exact ⟨-3, nI len, nI len, ct, mtx, rfl, rfl, len, hl, rfl, rfl, bt, hb⟩
  · have w1 : f_X11_within N v1 (1 : Int32) (8 : Int32) = some 0 := w1
    have w2 : f_X12_in N v1.toInt64 (1 : Int64) (8 : Int64) = some 0 := w2
    refine ⟨-1, nI len, nI len, ct, mtx, ?_, ?_, len, hl, rfl, rfl, bt, hb⟩
    · unfold f_X11_write
      rw [w1, ob, if_pos rfl]
    · unfold f_X12_write
      rw [w2, ob, if_pos rfl]
/-! the first fault -/
def ft (t : Nat → Nat) (len : Nat) : Nat → Nat → Nat → Int32
  | 0, _, pile => if pile = 1 then -4 else nI len
  | d + 1, a, pile => if t a < 19 then (if pile = 8 then nI a else ft t len d (a + 1) (pile + 1)) else if t a = 19 then (if pile < 1 then nI a else ft t len d (a + 1) pile) else if t a < 23 then (if pile < 2 then nI a else ft t len d (a + 1) (pile - 1)) else nI a
theorem fault_c (N : Nat) {len : Nat} (hl : len ≤ 60) {ct : Nat → Int32} {bt : Nat → Nat} (hb : ∀ i, i < len → bt i < 256 ∧ ct i = tokI (bt i)) : ∀ d a pile f, a + d = len → d < f → pile ≤ 8 → l_X10_firstFault_4 N (nI len) ct f (nI pile, nI a) = some (ft (fun i => tix (bt i)) len d a pile)
  | 0, a, pile, f + 1, h1, h2, h3 => by
    show s_X10_firstFault_4 N (nI len) ct _ (nI pile) (nI a) = _
    unfold s_X10_firstFault_4 j_X10_firstFault_118 ft
    rw [if_pos (L_le len a (by omega) (by omega))]
    by_cases q : pile = 1
    · rw [if_pos (by rw [q]; rfl), if_pos q]
    · rw [if_neg (L_ne pile 1 q (by omega) (by decide)), if_neg q]
  | d + 1, a, pile, f + 1, h1, h2, h3 => by
    obtain ⟨b1, b2⟩ := hb a (by omega)
    obtain ⟨o1, _, _, _, _, o6, _, _⟩ := tok_eq (bt a) b1
    have ot := (tok_ok (bt a) b1).2.1
    show s_X10_firstFault_4 N (nI len) ct (l_X10_firstFault_4 N (nI len) ct f) (nI pile) (nI a) = _
    unfold s_X10_firstFault_4 ft
    rw [if_neg (L_nle len a (by omega) (by omega)), if_neg (L_nle 60 a (by omega) (by decide)), if_neg (L_in a 60 (by omega) (by omega)), nI_clamp (by omega), b2]
    simp only [xl]
    rw [look_c N b1, ob]
    simp only [ite01]
    have s47 : ∀ s0 : Int32, j_X10_firstFault_47 N (l_X10_firstFault_4 N (nI len) ct f) (nI pile) (nI a) (tokI (bt a)) s0 = (if tix (bt a) < 19 then (if nI pile < (8 : Int32) then j_X10_firstFault_67 N (l_X10_firstFault_4 N (nI len) ct f) (nI pile) (nI a) (tokI (bt a)) s0 0 else j_X10_firstFault_67 N (l_X10_firstFault_4 N (nI len) ct f) (nI pile) (nI a) (tokI (bt a)) s0 1) else j_X10_firstFault_67 N (l_X10_firstFault_4 N (nI len) ct f) (nI pile) (nI a) (tokI (bt a)) s0 0) := by
      intro s0
      unfold j_X10_firstFault_47 j_X10_firstFault_66
      rw [look_c N b1, ob]
      simp only [ite01]
      by_cases q : tix (bt a) < 19
      · rw [if_neg (fun w => w q), if_pos q]
      · rw [if_pos q, if_neg q]
    by_cases q : tix (bt a) < 19
    · rw [if_neg (fun w => w q), s47, if_pos q, if_pos q]
      have n1 : ¬ tokI (bt a) = -1 := fun w => by have := o6.mp w; omega
      by_cases q8 : pile = 8
      · rw [if_neg (L_nlt pile 8 (by omega) (by omega)), if_pos q8]
        unfold j_X10_firstFault_67
        rw [if_neg n1, if_neg (L_nlt pile 0 (by omega) (by omega)), if_neg one0]
      · rw [if_pos (L_lt pile 8 (by omega) (by decide)), if_neg q8]
        unfold j_X10_firstFault_67
        rw [if_neg n1, if_neg (L_nlt pile 0 (by omega) (by omega)), if_pos rfl, look_c N b1, ob]
        simp only [ite01]
        rw [if_neg (fun w => w q)]
        simp only [xl, nI_1]
        exact fault_c N hl hb d (a + 1) (pile + 1) f (by omega) (by omega) (by omega)
    · rw [if_pos q, if_neg q]
      by_cases q19 : tix (bt a) = 19
      · rw [if_pos (o1.mpr q19), s47, if_neg q, if_pos q19]
        have n1 : ¬ tokI (bt a) = -1 := fun w => by have := o6.mp w; omega
        unfold j_X10_firstFault_67
        rw [if_neg n1]
        by_cases q1 : pile < 1
        · rw [if_pos (L_lt pile 1 q1 (by decide)), if_pos q1]
        · rw [if_neg (L_nlt pile 1 (by omega) (by omega)), if_neg q1, if_pos rfl, look_c N b1, ob]
          simp only [ite01]
          rw [if_pos q, if_pos (o1.mpr q19)]
          simp only [xl, nI_1]
          rw [show nI pile + (0 : Int32) = nI pile from nI_add pile 0]
          exact fault_c N hl hb d (a + 1) pile f (by omega) (by omega) (by omega)
      · rw [if_neg (fun w => q19 (o1.mp w)), s47, if_neg q, if_neg q19]
        unfold j_X10_firstFault_67
        by_cases q23 : tix (bt a) < 23
        · have n1 : ¬ tokI (bt a) = -1 := fun w => by have := o6.mp w; omega
          rw [if_neg n1, if_pos q23]
          by_cases q2 : pile < 2
          · rw [if_pos (L_lt pile 2 q2 (by decide)), if_pos q2]
          · rw [if_neg (L_nlt pile 2 (by omega) (by omega)), if_neg q2, if_pos rfl, look_c N b1, ob]
            simp only [ite01]
            rw [if_pos q, if_neg (fun w => q19 (o1.mp w))]
            simp only [xl, nI_1]
            obtain ⟨p', rfl⟩ : ∃ p', pile = p' + 1 := ⟨pile - 1, by omega⟩
            rw [pk_m1]
            exact fault_c N hl hb d (a + 1) p' f (by omega) (by omega) (by omega)
        · rw [if_pos (o6.mpr (by omega)), if_neg q23]
theorem fault_m (N : Nat) {len : Nat} (hl : len ≤ 60) {mtx : Nat → Int32} {bt : Nat → Nat} (hb : ∀ i, i < len → bt i < 256 ∧ mtx i = nI (bt i)) : ∀ d a pile f, a + d = len → d < f → pile ≤ 8 → l_X12_fault_4 N (nI len) mtx f (nI pile, nI a) = some (ft (fun i => tix (bt i)) len d a pile)
  | 0, a, pile, f + 1, h1, h2, h3 => by
    show s_X12_fault_4 N (nI len) mtx _ (nI pile) (nI a) = _
    unfold s_X12_fault_4 j_X12_fault_92 ft
    rw [if_pos (L_le len a (by omega) (by omega))]
    by_cases q : pile = 1
    · rw [if_pos (by rw [q]; rfl), if_pos q]
    · rw [if_neg (L_ne pile 1 q (by omega) (by decide)), if_neg q]
  | d + 1, a, pile, f + 1, h1, h2, h3 => by
    obtain ⟨b1, b2⟩ := hb a (by omega)
    obtain ⟨_, o2, o3, o4, o5, _, _, _⟩ := tok_eq (bt a) b1
    have ot := (tok_ok (bt a) b1).2.1
    show s_X12_fault_4 N (nI len) mtx (l_X12_fault_4 N (nI len) mtx f) (nI pile) (nI a) = _
    unfold s_X12_fault_4 ft
    rw [if_neg (L_nle len a (by omega) (by omega)), if_neg (L_in a 60 (by omega) (by omega)), nI_clamp (by omega), b2]
    simp only [xl]
    rw [look_m N b1, ob]
    simp only [ite01, nI_1]
    by_cases q : tix (bt a) < 19
    · rw [if_neg (fun w => w q), if_pos q]
      by_cases q8 : pile = 8
      · rw [if_pos (by rw [q8]; rfl), if_pos q8]
      · rw [if_neg (L_ne pile 8 q8 (by omega) (by decide)), if_neg q8]
        exact fault_m N hl hb d (a + 1) (pile + 1) f (by omega) (by omega) (by omega)
    · rw [if_pos q, if_neg q]
      by_cases q19 : tix (bt a) = 19
      · rw [if_pos (o2.mpr q19), if_pos q19]
        by_cases q1 : pile < 1
        · rw [if_neg (L_nle 1 pile q1 (by decide)), if_pos q1]
        · rw [if_pos (L_le 1 pile (by omega) (by omega)), if_neg q1]
          exact fault_m N hl hb d (a + 1) pile f (by omega) (by omega) (by omega)
      · rw [if_neg (fun w => q19 (o2.mp w)), if_neg q19]
        have s71 : tix (bt a) < 23 → j_X12_fault_71 N (l_X12_fault_4 N (nI len) mtx f) (nI pile) (nI a) = some (if tix (bt a) < 23 then (if pile < 2 then nI a else ft (fun i => tix (bt i)) len d (a + 1) (pile - 1)) else nI a) := by
          intro q23
          unfold j_X12_fault_71
          simp only [xl, nI_1]
          rw [if_pos q23]
          by_cases q2 : pile < 2
          · rw [if_neg (L_nle 2 pile q2 (by decide)), if_pos q2]
          · rw [if_pos (L_le 2 pile (by omega) (by omega)), if_neg q2]
            obtain ⟨p', rfl⟩ : ∃ p', pile = p' + 1 := ⟨pile - 1, by omega⟩
            rw [pk_m1]
            exact fault_m N hl hb d (a + 1) p' f (by omega) (by omega) (by omega)
        by_cases q20 : tix (bt a) = 20
        · rw [if_pos (o3.mpr q20)]; exact s71 (by omega)
        · rw [if_neg (fun w => q20 (o3.mp w))]
          by_cases q21 : tix (bt a) = 21
          · rw [if_pos (o4.mpr q21)]; exact s71 (by omega)
          · rw [if_neg (fun w => q21 (o4.mp w))]
            by_cases q22 : tix (bt a) = 22
            · rw [if_pos (o5.mpr q22)]; exact s71 (by omega)
            · rw [if_neg (fun w => q22 (o5.mp w)), if_neg (by omega)]
theorem fault_eq (N : Nat) (hN : 2 ^ 40 ≤ N) {wl ml : Int32} {ct mtx : Nat → Int32} (h : TxOK wl ct ml mtx) : ∃ ans : Int32, f_X10_firstFault N wl ct = some ans ∧ f_X12_fault N ml mtx = some ans := by
  have h40 : (2 : Nat) ^ 40 = 1099511627776 := by decide
  obtain ⟨len, hl, rfl, rfl, bt, hb⟩ := h
  exact ⟨_, fault_c N hl (fun i hi => ⟨(hb i hi).1, (hb i hi).2.1⟩) len 0 0 N (by omega) (by omega) (by omega), fault_m N hl (fun i hi => ⟨(hb i hi).1, (hb i hi).2.2⟩) len 0 0 N (by omega) (by omega) (by omega)⟩
/-! counts -/
theorem count_c (N : Nat) {len : Nat} (hl : len ≤ 60) {ct : Nat → Int32} {bt : Nat → Nat} (hb : ∀ i, i < len → bt i < 256 ∧ ct i = tokI (bt i)) : ∀ d a f, a + d = len → d < f → l_X10_howManyLook_4 N (nI len) ct f (nI (fb_ct (fun i => decide (tix (bt i) < 19)) a), nI a) = some (nI (fb_ct (fun i => decide (tix (bt i) < 19)) len))
  | 0, a, f + 1, h1, h2 => by
    show s_X10_howManyLook_4 N (nI len) ct _ _ (nI a) = _
    unfold s_X10_howManyLook_4
    rw [if_pos (L_le len a (by omega) (by omega)), show a = len by omega]
  | d + 1, a, f + 1, h1, h2 => by
    obtain ⟨b1, b2⟩ := hb a (by omega)
    show s_X10_howManyLook_4 N (nI len) ct (l_X10_howManyLook_4 N (nI len) ct f) _ (nI a) = _
    have ih := count_c N hl hb d (a + 1) f (by omega) (by omega)
    rw [fb_ct_succ] at ih
    unfold s_X10_howManyLook_4
    rw [if_neg (L_nle len a (by omega) (by omega)), if_neg (L_nle 60 a (by omega) (by decide)), if_neg (L_in a 60 (by omega) (by omega)), nI_clamp (by omega), b2, look_c N b1, ob]
    simp only [ite01, xl, nI_1]
    by_cases q : tix (bt a) < 19
    · rw [if_neg (fun w => w q)]
      simp only [q, decide_true, if_true] at ih
      exact ih
    · rw [if_pos q]
      simp only [q, decide_false, Bool.false_eq_true, if_false, Nat.add_zero] at ih
      exact ih
theorem count_m (N : Nat) {len w : Nat} (hl : len ≤ 60) (hw : w < 2 ^ 31) {mtx : Nat → Int32} {bt : Nat → Nat} (hb : ∀ i, i < len → bt i < 256 ∧ mtx i = nI (bt i)) : ∀ d a f, a + d = len → d < f → l_X12_count_16 N (nI w) (nI len) mtx f (nI (fb_ct (fun i => decide (tix (bt i) < 19)) a), nI a) = some (if w = 0 then nI len else nI (fb_ct (fun i => decide (tix (bt i) < 19)) len))
  | 0, a, f + 1, h1, h2 => by
    show s_X12_count_16 N (nI w) (nI len) mtx _ _ (nI a) = _
    unfold s_X12_count_16 j_X12_count_50
    rw [if_pos (L_le len a (by omega) (by omega)), show a = len by omega]
    by_cases q : w = 0
    · rw [if_pos (by rw [q]; rfl), if_pos q]
    · rw [if_neg (L_ne w 0 q hw (by decide)), if_neg q]
  | d + 1, a, f + 1, h1, h2 => by
    obtain ⟨b1, b2⟩ := hb a (by omega)
    show s_X12_count_16 N (nI w) (nI len) mtx (l_X12_count_16 N (nI w) (nI len) mtx f) _ (nI a) = _
    have ih := count_m N hl hw hb d (a + 1) f (by omega) (by omega)
    rw [fb_ct_succ] at ih
    unfold s_X12_count_16
    rw [if_neg (L_nle len a (by omega) (by omega)), if_neg (L_in a 60 (by omega) (by omega)), nI_clamp (by omega), b2, look_m N b1, ob]
    simp only [ite01, xl, nI_1]
    by_cases q : tix (bt a) < 19
    · rw [if_neg (fun w => w q)]
      simp only [q, decide_true, if_true] at ih
      exact ih
    · rw [if_pos q]
      simp only [q, decide_false, Bool.false_eq_true, if_false] at ih
      rw [show nI (fb_ct (fun i => decide (tix (bt i) < 19)) a) + (0 : Int32) = nI (fb_ct (fun i => decide (tix (bt i) < 19)) a + 0) from nI_add _ 0]
      exact ih
theorem count_eq (N : Nat) (hN : 2 ^ 40 ≤ N) (v1 : Int32) {wl ml : Int32} {ct mtx : Nat → Int32} (h : TxOK wl ct ml mtx) : ∃ ans : Int32, f_X11_count N v1 wl ct = some ans ∧ f_X12_count N v1 ml mtx = some ans := by
  have h40 : (2 : Nat) ^ 40 = 1099511627776 := by decide
  obtain ⟨len, hl, rfl, rfl, bt, hb⟩ := h
  rcases with_f N v1 0 1 (by decide) (by decide) with ⟨n, n1, n8, rfl, w1, w2⟩ | ⟨w1, w2⟩
  · have w1 : f_X11_within N (nI n) (0 : Int32) (1 : Int32) = some 1 := w1
    have w2 : f_X12_in N (nI n).toInt64 (0 : Int64) (1 : Int64) = some 1 := w2
    have e1 : f_X10_howManyLook N (nI len) ct = some (nI (fb_ct (fun i => decide (tix (bt i) < 19)) len)) := count_c N hl (fun i hi => ⟨(hb i hi).1, (hb i hi).2.1⟩) len 0 N (by omega) (by omega)
    have e2 : l_X12_count_16 N (nI n) (nI len) mtx N ((0 : Int32), (0 : Int32)) = some (if n = 0 then nI len else nI (fb_ct (fun i => decide (tix (bt i) < 19)) len)) := count_m N hl (show n < 2 ^ 31 by omega) (fun i hi => ⟨(hb i hi).1, (hb i hi).2.2⟩) len 0 N (by omega) (by omega)
    refine ⟨if n = 0 then nI len else nI (fb_ct (fun i => decide (tix (bt i) < 19)) len), ?_, ?_⟩
    · unfold f_X11_count
      rw [w1, ob, if_neg one0]
      by_cases q : n = 0
      · rw [if_pos (by rw [q]; rfl), if_pos q]
      · rw [if_neg (L_ne n 0 q (by omega) (by decide)), if_neg q, e1, ob]
    · unfold f_X12_count
      rw [w2, ob, if_neg one0, e2]
  · have w1 : f_X11_within N v1 (0 : Int32) (1 : Int32) = some 0 := w1
    have w2 : f_X12_in N v1.toInt64 (0 : Int64) (1 : Int64) = some 0 := w2
    refine ⟨-1, ?_, ?_⟩
    · unfold f_X11_count
      rw [w1, ob, if_pos rfl]
    · unfold f_X12_count
      rw [w2, ob, if_pos rfl]
