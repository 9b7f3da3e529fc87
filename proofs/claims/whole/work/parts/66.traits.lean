/-! the class's traits -/
theorem orI (a b : Nat) : nI a ||| nI b = nI (a ||| b) := by
  apply Int32.toBitVec_inj.1
  show BitVec.ofNat 32 a ||| BitVec.ofNat 32 b = BitVec.ofNat 32 (a ||| b)
  apply BitVec.eq_of_getLsbD_eq
  intro i hi
  simp [hi]
theorem andI (a b : Nat) : nI a &&& nI b = nI (a &&& b) := by
  apply Int32.toBitVec_inj.1
  show BitVec.ofNat 32 a &&& BitVec.ofNat 32 b = BitVec.ofNat 32 (a &&& b)
  apply BitVec.eq_of_getLsbD_eq
  intro i hi
  simp [hi]
theorem bitI {w j : Nat} (hj : j < 31) : (nI w &&& nI (2 ^ j) = 0) ↔ w.testBit j = false := by
  rw [andI]
  have h1 : w &&& 2 ^ j ≤ 2 ^ j := Nat.and_le_right
  have h2 : 2 ^ j < 2 ^ 31 := Nat.pow_lt_pow_right (by decide) hj
  have : (nI (w &&& 2 ^ j) = nI 0) ↔ w &&& 2 ^ j = 0 := nI_eq (by omega) (by decide)
  rw [show (0 : Int32) = nI 0 from rfl, this, fb_bit_nat]
def bp2 (c : Bool) (i : Nat) : Nat := if c then 2 ^ i else 0
theorem bp2_t (c : Bool) (i j : Nat) : (bp2 c i).testBit j = (c && decide (i = j)) := by
  unfold bp2
  cases c
  · simp
  · simp [Nat.testBit_two_pow]
theorem bp2_lt (c : Bool) {i : Nat} (h : i < 21) : bp2 c i < 2 ^ 21 := by
  unfold bp2
  cases c
  · simp
  · simp only [if_true]
    exact Nat.pow_lt_pow_right (by decide) h
def sT (n : Nat) : Nat := bp2 (decide (wgh n = 0)) 3 ||| bp2 (decide (wgh n = 1)) 2 ||| bp2 (rch n) 0 ||| bp2 (rch n && !hR n) 1 ||| bp2 (rch n && !mb n n n) 4 ||| bp2 (mb n n n) 20
def pT (n : Nat) : Nat := bp2 (decide (n % 2 = 0)) 5 ||| bp2 (sqB n) 6 ||| bp2 (sqf n) 7 ||| bp2 (decide (om n ≠ 0)) (9 + om n)
def se (n j : Nat) : Bool := if j = 0 then rch n else if j = 1 then decide (srt n = 3) else if j = 2 then decide (wgh n = 1) else if j = 3 then decide (wgh n = 0) else if j = 4 then (rch n && !mb n n n) else if j = 5 then decide (n % 2 = 0) else if j = 6 then sqB n else if j = 7 then sqf n else if j = 8 then rc 0 (bst 0 n) n else if j = 9 then rc 1 (bst 1 n) n else decide (om n = j - 9)
def tW (n : Nat) : Nat := sT n ||| pT n
theorem tW_t (n j : Nat) : (tW n).testBit j = ((((((decide (wgh n = 0) && decide (3 = j)) || (decide (wgh n = 1) && decide (2 = j))) || (rch n && decide (0 = j))) || ((rch n && !hR n) && decide (1 = j))) || ((rch n && !mb n n n) && decide (4 = j))) || (mb n n n && decide (20 = j)) || ((((decide (n % 2 = 0) && decide (5 = j)) || (sqB n && decide (6 = j))) || (sqf n && decide (7 = j))) || (decide (om n ≠ 0) && decide (9 + om n = j)))) := by
  unfold tW sT pT
  simp only [Nat.testBit_or, bp2_t]
theorem tW_lt {n : Nat} (h0 : 0 < n) (hn : n ≤ 5000) : tW n < 2 ^ 21 := by
  have ho := om_le h0 hn
  unfold tW sT pT
  repeat' apply Nat.or_lt_two_pow
  all_goals (apply bp2_lt; omega)
theorem srt_3 (n : Nat) : decide (srt n = 3) = (rch n && !hR n) := by
  unfold srt
  have h := wgh_2 n
  by_cases q : rch n = true
  · have := h.mpr q
    rw [this, q]
    cases hR n <;> simp
  · have q' : rch n = false := by simpa using q
    have : ¬ wgh n = 2 := fun w => q (h.mp w)
    have hw3 : wgh n < 3 := by unfold wgh; split <;> (try split) <;> omega
    rw [if_pos (by omega), q']
    simp
    omega
theorem tW_se {n : Nat} (h0 : 0 < n) (hn : n ≤ 5000) {j : Nat} (hj : j < 19) (h8 : j ≠ 8) (h9 : j ≠ 9) : (tW n).testBit j = se n j := by
  rw [tW_t]
  have ho := om_le h0 hn
  unfold se
  rcases (show j = 0 ∨ j = 1 ∨ j = 2 ∨ j = 3 ∨ j = 4 ∨ j = 5 ∨ j = 6 ∨ j = 7 ∨ 10 ≤ j by omega) with rfl | rfl | rfl | rfl | rfl | rfl | rfl | rfl | h
  · simp <;> omega
  · rw [srt_3]; simp <;> omega
  · simp <;> omega
  · simp <;> omega
  · simp <;> omega
  · simp <;> omega
  · simp <;> omega
  · simp <;> omega
  · have e : ∀ i, i < 10 → decide (i = j) = false := fun i hi => by simp <;> omega
    have e20 : decide (20 = j) = false := by simp <;> omega
    simp only [e 0 (by decide), e 1 (by decide), e 2 (by decide), e 3 (by decide), e 4 (by decide), e 5 (by decide), e 6 (by decide), e 7 (by decide), e20, Bool.and_false, Bool.or_false, Bool.false_or]
    rw [if_neg (by omega), if_neg (by omega), if_neg (by omega), if_neg (by omega), if_neg (by omega), if_neg (by omega), if_neg (by omega), if_neg (by omega), if_neg (by omega), if_neg (by omega)]
    by_cases q : om n = j - 9
    · have q2 : 9 + om n = j := by omega
      have q3 : om n ≠ 0 := by omega
      simp only [q2, q, decide_true, Bool.and_true]
      simp <;> omega
    · have q2 : ¬ 9 + om n = j := by omega
      simp [q, q2]
theorem tW_89 {n : Nat} (h0 : 0 < n) : (tW n).testBit 8 = false ∧ (tW n).testBit 9 = false := by
  rw [tW_t, tW_t]
  constructor
  · simp <;> omega
  · simp
theorem tW_0 {n : Nat} (h0 : 0 < n) : (tW n).testBit 0 = rch n := by
  rw [tW_t]
  simp <;> omega
theorem tW_20 {n : Nat} (h0 : 0 < n) (hn : n ≤ 5000) : (tW n).testBit 20 = mb n n n := by
  have := om_le h0 hn
  rw [tW_t]
  simp <;> omega
theorem timesAt_f (N : Nat) {uu k e : Nat} (hu : uu ≤ 12) (hk : k < uu) {T : Nat → Int32} (ht : T k = nI e) : f_X6_timesAt N (nI k) (nI uu) T = some (nI e) := by
  unfold f_X6_timesAt
  rw [if_neg (nI_pos (by omega)), if_neg (L_nle uu k hk (by omega)), if_neg (L_nle 12 k (by omega) (by decide)), if_neg (L_in k 12 (by omega) (by omega)), nI_clamp (by omega), ht]
theorem shl9 : ∀ u, u < 13 → (1 : Int32) <<< (((9 : Int32) + nI u) &&& 31) = nI (2 ^ (9 + u)) := by decide +kernel
theorem primeTraits_f (N : Nat) (hN : 2 ^ 40 ≤ N) {uu n : Nat} (h0 : 0 < n) (hn : n ≤ 5000) (hu : uu ≤ 12) {P : Nat → Int64} {T : Nat → Int32} (hA : SpA uu n P T) : f_X8_primeTraits N (nI n) (nI uu) T = some (nI (pT n)) := by
  have h40 : (2 : Nat) ^ 40 = 1099511627776 := by decide
  obtain ⟨PP, EE, hF, hv⟩ := hA
  have hom := hF.om
  unfold f_X8_primeTraits l_X8_primeTraits_7
  refine lp_eq _ (I := fun (z : Int32 × Int32 × Int32) => ∃ k : Nat, k ≤ uu ∧ z.2.2 = nI k ∧ z.1 = (if sqB (prodf (fun i => PP i ^ EE i) k) = true then 1 else 0) ∧ z.2.1 = (if sqf (prodf (fun i => PP i ^ EE i) k) = true then 1 else 0)) (μ := fun z => 20 - z.2.2.toNatClampNeg) ?_ N _ ?_ ?_
  · intro z K hI hK
    obtain ⟨z1, z2, z3⟩ := z
    obtain ⟨k, hk, e1, e2, e3⟩ := hI
    simp only at e1 e2 e3
    subst e1
    subst e2
    subst e3
    show s_X8_primeTraits_7 N (nI n) (nI uu) T K _ _ (nI k) = _
    unfold s_X8_primeTraits_7
    by_cases c : uu ≤ k
    · rw [if_pos (L_le uu k c (by omega))]
      have hke : k = uu := by omega
      rw [hke, hF.2.2]
      unfold j_X8_primeTraits_69
      have key : ∀ g : Nat, g = bp2 (decide (om n ≠ 0)) (9 + om n) → j_X8_primeTraits_95 N (nI n) (if sqB n = true then 1 else 0) (if sqf n = true then 1 else 0) (nI g) = some (nI (pT n)) := by
        intro g hg
        have hp : pT n = ((bp2 (decide (n % 2 = 0)) 5 ||| bp2 (sqB n) 6) ||| bp2 (sqf n) 7) ||| g := by rw [hg]; rfl
        rw [hp, ← orI, ← orI, ← orI]
        unfold j_X8_primeTraits_95 j_X8_primeTraits_109 j_X8_primeTraits_119
        simp only [ite01]
        have h2 : (nI n - nI n / (2 : Int32) * (2 : Int32) = 0) ↔ n % 2 = 0 := L_rem (a := n) (b := 2) (by omega) (by decide) (by decide)
        by_cases q1 : n % 2 = 0
        · rw [if_pos (h2.mpr q1)]
          simp only [q1, decide_true, bp2, if_true]
          cases sqB n <;> cases sqf n <;> rfl
        · rw [if_neg (fun w => q1 (h2.mp w))]
          simp only [q1, decide_false, bp2]
          cases sqB n <;> cases sqf n <;> rfl
      by_cases q : uu = 0
      · rw [if_pos (L_le uu 0 (by omega) (by decide))]
        exact key 0 (by rw [hom, q]; rfl)
      · rw [if_neg (L_nle uu 0 (by omega) (by omega)), shl9 uu (by omega)]
        exact key _ (by rw [hom]; simp [bp2, q])
    · obtain ⟨_, _, o3⟩ := hF.oms k hk
      obtain ⟨o4, o5, _⟩ := o3 (by omega)
      have hE := hF.exp (by omega) k (by omega)
      rw [if_neg (L_nle uu k (by omega) (by omega)), timesAt_f N hu (by omega) (hv k (by omega)).2, ob]
      have hμ : 20 - (nI (k + 1)).toNatClampNeg < 20 - (nI k).toNatClampNeg := by rw [nI_clamp (by omega), nI_clamp (by omega)]; omega
      have g46 : ∀ s0 : Int32, s0 = (if sqB (prodf (fun i => PP i ^ EE i) (k + 1)) = true then 1 else 0) → j_X8_primeTraits_46 N K (if sqf (prodf (fun i => PP i ^ EE i) k) = true then 1 else 0) (nI k) (nI (EE k)) s0 = some (nI (pT n)) := by
        intro s0 hs0
        unfold j_X8_primeTraits_46
        simp only [xl, nI_1, ite01]
        by_cases q : sqf (prodf (fun i => PP i ^ EE i) k) = true
        · rw [if_neg (fun w => w q)]
          by_cases q1 : EE k = 1
          · rw [if_pos (by rw [q1]; rfl)]
            refine hK _ ⟨k + 1, by omega, rfl, hs0, ?_⟩ hμ
            show (1 : Int32) = _
            rw [o4, q]; simp [q1]
          · rw [if_neg (L_ne (EE k) 1 q1 (by omega) (by decide))]
            refine hK _ ⟨k + 1, by omega, rfl, hs0, ?_⟩ hμ
            show (0 : Int32) = _
            rw [o4, q]; simp [q1]
        · rw [if_pos q]
          refine hK _ ⟨k + 1, by omega, rfl, hs0, ?_⟩ hμ
          show (0 : Int32) = _
          have q' : sqf (prodf (fun i => PP i ^ EE i) k) = false := by simpa using q
          rw [o4, q']; simp
      unfold j_X8_primeTraits_45
      simp only [ite01]
      have h2 : (nI (EE k) - nI (EE k) / (2 : Int32) * (2 : Int32) = 0) ↔ EE k % 2 = 0 := L_rem (a := EE k) (b := 2) (by omega) (by decide) (by decide)
      by_cases q : sqB (prodf (fun i => PP i ^ EE i) k) = true
      · rw [if_neg (fun w => w q)]
        by_cases q1 : EE k % 2 = 0
        · rw [if_pos (h2.mpr q1)]
          exact g46 1 (by rw [o5, q]; simp [q1])
        · rw [if_neg (fun w => q1 (h2.mp w))]
          exact g46 0 (by rw [o5, q]; simp [q1])
      · rw [if_pos q]
        have q' : sqB (prodf (fun i => PP i ^ EE i) k) = false := by simpa using q
        exact g46 0 (by rw [o5, q']; simp)
  · refine ⟨0, Nat.zero_le _, rfl, ?_, ?_⟩
    · show (1 : Int32) = _
      rw [show prodf (fun i => PP i ^ EE i) 0 = 1 from rfl, sqB_1]; rfl
    · show (1 : Int32) = _
      rw [show prodf (fun i => PP i ^ EE i) 0 = 1 from rfl, sqf_1]; rfl
  · show 20 - _ < N
    omega
theorem sortTraits_f (N : Nat) (hN : 2 ^ 40 ≤ N) {A B : Nat → Int32} (hT : TT A B) {al : Nat → Int32} (hL : PT 9592 al) {n uu : Nat} (h0 : 0 < n) (hn : n ≤ 5000) (hu : uu ≤ 12) {P : Nat → Int64} {T : Nat → Int32} (hA : SpA uu n P T) {pk : Int32} {pn : Int64} {parts : Nat → Int64} (hP : PaOK pk pn parts) {tr : Nat → Int32} (htr : ∀ m, 1 ≤ m → m < n → tr m = nI (tW m)) (MC MS : Nat) (a_row : Nat → Int32) : ∃ (w : Nat) (pk' : Int32) (pn' : Int64) (a' : Nat → Int32) (P' : Nat → Int64) (T' : Nat → Int32) (parts' : Nat → Int64), f_X8_sortTraits N MC MS (nI n) (nI uu) (lN n) pk pn 50001 a_row 9592 al P T parts 50001 A 50001 B 5001 tr = some (nI (sT n), nI w, lN n, pk', pn', 50001, a', P', T', parts') ∧ w ≤ 12 ∧ SpA w n P' T' ∧ PaOK pk' pn' parts' := by
  have h40 : (2 : Nat) ^ 40 = 1099511627776 := by decide
  have s1 : f_X7_summed N (1 : Int32) (nI n) 50001 A 50001 B = some (nI (tbv 1 n)) := summed7 N hT (k := 1) (by decide) (by omega)
  have g := tbv_lt (k := 1) (x := n) (by decide)
  have hge := sg_n h0
  rw [tbz1 h0 (by omega)] at s1 g
  unfold f_X8_sortTraits
  rw [if_pos (z2 MC MS), s1, ob]
  by_cases c : n < sg n - n
  · rw [if_pos (L_lt n (sg n - n) c (by omega))]
    have hw2 : wgh n = 2 := by unfold wgh; rw [if_neg (by omega), if_neg (by omega)]
    have hr := (wgh_2 n).mp hw2
    obtain ⟨PP, EE, hF, hv⟩ := id hA
    unfold l_X8_sortTraits_33
    refine lp_post (I := fun (z : Int32 × Int32) => ∃ k W : Nat, k ≤ uu ∧ z.2 = nI k ∧ z.1 = nI W ∧ W < 2 ^ 21 ∧ (W.testBit 0 = true ↔ ∃ i, i < k ∧ rch (n / PP i) = true) ∧ (W.testBit 20 = true ↔ ∃ i, i < k ∧ mb (n / PP i) (n / PP i) (n / PP i) = true)) (μ := fun z => 20 - z.2.toNatClampNeg) (post := fun r => ∃ (w : Nat) (pk' : Int32) (pn' : Int64) (a' : Nat → Int32) (P' : Nat → Int64) (T' : Nat → Int32) (parts' : Nat → Int64), r = some (nI (sT n), nI w, lN n, pk', pn', 50001, a', P', T', parts') ∧ w ≤ 12 ∧ SpA w n P' T' ∧ PaOK pk' pn' parts') ?_ N _ ?_ ?_
    · intro z K hI hK
      obtain ⟨y1, y2⟩ := z
      obtain ⟨k, W, hk, e1, e2, hW, b0, b20⟩ := hI
      simp only at e1 e2
      subst e1
      subst e2
      have hz : (0 : Nat) ≤ MC ∧ 0 ≤ MS := z2 MC MS
      show ∃ (w : Nat) (pk' : Int32) (pn' : Int64) (a' : Nat → Int32) (P' : Nat → Int64) (T' : Nat → Int32) (parts' : Nat → Int64), s_X8_sortTraits_33 N MC MS (nI n) (nI uu) (lN n) pk pn 50001 a_row 9592 al P T parts 5001 tr 0 0 K (nI W) (nI k) = some (nI (sT n), nI w, lN n, pk', pn', 50001, a', P', T', parts') ∧ w ≤ 12 ∧ SpA w n P' T' ∧ PaOK pk' pn' parts'
      unfold s_X8_sortTraits_33
      by_cases ce : uu ≤ k
      · rw [if_pos (L_le uu k ce (by omega))]
        have hke : k = uu := by omega
        subst hke
        have allP : ∀ p, pr p → p ∣ n → ∃ i, i < k ∧ PP i = p := by
          intro p hp hd
          rcases Classical.em (∃ i, i < k ∧ PP i = p) with w | w
          · exact w
          · exact absurd hd (hF.free hp (fun i hi e => w ⟨i, hi, e⟩))
        have hb0 : W.testBit 0 = hR n := by
          have : (W.testBit 0 = true) ↔ hR n = true := by
            rw [b0, hR_pr h0]
            constructor
            · rintro ⟨i, hi, h⟩
              exact ⟨PP i, (hF.1 i hi).1, hF.dvd i hi, h⟩
            · rintro ⟨p, hp, hd, h⟩
              obtain ⟨i, hi, e⟩ := allP p hp hd
              exact ⟨i, hi, by rw [e]; exact h⟩
          cases h1 : W.testBit 0 <;> cases h2 : hR n <;> simp_all
        have bt20 : (nI W &&& (1048576 : Int32) = 0) ↔ W.testBit 20 = false := bitI (w := W) (j := 20) (by decide)
        have bt0 : (nI W &&& (1 : Int32) = 0) ↔ W.testBit 0 = false := bitI (w := W) (j := 0) (by decide)
        -- the value
        have val : ∀ (x : Int32), x = nI (if hR n = true then 0 else 2) → ∀ m : Bool, m = mb n n n → ((1 : Int32) ||| x) ||| (if m = true then (1048576 : Int32) else 16) = nI (sT n) := by
          intro x hx m hm
          subst hx
          subst hm
          have hsT : sT n = (1 ||| (if hR n = true then 0 else 2)) ||| (if mb n n n = true then 1048576 else 16) := by
            unfold sT
            rw [hw2, hr]
            cases hR n <;> cases mb n n n <;> decide
          rw [hsT, ← orI, ← orI]
          cases mb n n n <;> rfl
        have j100 : ∀ (x : Int32), x = nI (if hR n = true then 0 else 2) → ∃ (w : Nat) (pk' : Int32) (pn' : Int64) (a' : Nat → Int32) (P' : Nat → Int64) (T' : Nat → Int32) (parts' : Nat → Int64), j_X8_sortTraits_100 N MC MS (nI n) (nI W) x (nI k) (lN n) pk pn 50001 a_row 9592 al P T parts 0 0 = some (nI (sT n), nI w, lN n, pk', pn', 50001, a', P', T', parts') ∧ w ≤ 12 ∧ SpA w n P' T' ∧ PaOK pk' pn' parts' := by
          intro x hx
          unfold j_X8_sortTraits_100
          have e0 : ¬ nI 50001 = 0 := by decide
          simp only [if_neg e0]
          have hz0 : 0 + 0 ≤ MC ∧ 0 + 0 ≤ MS := ⟨Nat.zero_le _, Nat.zero_le _⟩
          by_cases q : W.testBit 20 = true
          · rw [if_neg (fun w => by
              have := bt20.mp w
              rw [q] at this
              exact absurd this (by decide))]
            unfold j_X8_sortTraits_122 j_X8_sortTraits_127
            rw [if_neg one0, if_pos hz]
            obtain ⟨i, hi, hm⟩ := b20.mp q
            have hmb : mb n n n = true := mb_part (hF.1 i hi).1 (hF.dvd i hi) hm
            refine ⟨k, pk, pn, a_row, P, T, parts, ?_, hu, hA, hP⟩
            have := val x hx true hmb.symm
            simp only [if_true] at this
            rw [this]
          · rw [if_pos (bt20.mpr (by simpa using q)), if_pos hz0]
            obtain ⟨w, a', P', T', parts', f1, f2, f3, f4⟩ := fewest_f N hN h0 hn hL (⟨k, n, rfl, rfl, hu, h0, by omega, hA⟩ : SpOK (nI k) (lN n) P T) hP 0 0 a_row
            rw [f1, ob]
            simp only
            have hmk := mkA_mb hn
            by_cases q2 : mkA n = -4
            · rw [if_pos q2]
              unfold j_X8_sortTraits_127
              rw [if_pos rfl, if_pos hz0]
              have hmb : mb n n n = false := by simpa using hmk.mp q2
              refine ⟨w, nI (tau n), lN n, a', P', T', parts', ?_, f2, f3, Or.inr ⟨n, h0, by omega, rfl, rfl, f4⟩⟩
              have := val x hx false hmb.symm
              simp only [Bool.false_eq_true, if_false] at this
              rw [this]
            · rw [if_neg q2]
              unfold j_X8_sortTraits_122 j_X8_sortTraits_127
              rw [if_neg one0, if_pos hz0]
              have hmb : mb n n n = true := by
                rcases Classical.em (mb n n n = true) with w | w
                · exact w
                · exact absurd (hmk.mpr w) q2
              refine ⟨w, nI (tau n), lN n, a', P', T', parts', ?_, f2, f3, Or.inr ⟨n, h0, by omega, rfl, rfl, f4⟩⟩
              have := val x hx true hmb.symm
              simp only [if_true] at this
              rw [this]
        unfold j_X8_sortTraits_89
        by_cases q : hR n = true
        · rw [if_neg (fun w => by
            have := bt0.mp w
            rw [hb0, q] at this
            exact absurd this (by decide))]
          exact j100 0 (by rw [if_pos q]; rfl)
        · rw [if_pos (bt0.mpr (by rw [hb0]; simpa using q))]
          exact j100 2 (by rw [if_neg q]; rfl)
      · have hpx := hF.1 k (by omega)
        have hdx : PP k ∣ n := hF.dvd k (by omega)
        have hpn : PP k ≤ n := Nat.le_of_dvd h0 hdx
        have h2 := hpx.1.1
        have hq1 : 1 ≤ n / PP k := Nat.div_pos hpn (by omega)
        have hq2 : n / PP k < n := Nat.div_lt_self h0 h2
        rw [if_neg (L_nle uu k (by omega) (by omega)), if_pos hz, without_f N hu (by omega) (by omega) (hv k (by omega)).1 h2 (by omega), ob]
        simp only [xl, lN_i, nI_1]
        rw [if_neg (L_nlt (n / PP k) 1 hq1 (by omega)), if_neg (L_nle 5001 (n / PP k) (by omega) (by decide)), if_neg (L_in (n / PP k) 5001 (by omega) (by omega)), nI_clamp (by omega), htr _ hq1 hq2, orI]
        refine hK _ ⟨k + 1, W ||| tW (n / PP k), by omega, rfl, rfl, Nat.or_lt_two_pow hW (tW_lt hq1 (by omega)), ?_, ?_⟩ ?_
        · rw [Nat.testBit_or, Bool.or_eq_true, b0, tW_0 hq1]
          constructor
          · rintro (⟨i, hi, h⟩ | h)
            · exact ⟨i, by omega, h⟩
            · exact ⟨k, by omega, h⟩
          · rintro ⟨i, hi, h⟩
            rcases Nat.lt_or_ge i k with w | w
            · exact Or.inl ⟨i, w, h⟩
            · have : i = k := by omega
              subst this
              exact Or.inr h
        · rw [Nat.testBit_or, Bool.or_eq_true, b20, tW_20 hq1 (by omega)]
          constructor
          · rintro (⟨i, hi, h⟩ | h)
            · exact ⟨i, by omega, h⟩
            · exact ⟨k, by omega, h⟩
          · rintro ⟨i, hi, h⟩
            rcases Nat.lt_or_ge i k with w | w
            · exact Or.inl ⟨i, w, h⟩
            · have : i = k := by omega
              subst this
              exact Or.inr h
        · show 20 - (nI (k + 1)).toNatClampNeg < 20 - (nI k).toNatClampNeg
          rw [nI_clamp (by omega), nI_clamp (by omega)]; omega
    · exact ⟨0, 0, Nat.zero_le _, rfl, rfl, by decide, by simp, by simp⟩
    · show 20 - _ < N
      omega
  · rw [if_neg (L_nlt n (sg n - n) (by omega) (by omega))]
    by_cases c2 : n ≤ sg n - n
    · rw [if_pos (L_le n (sg n - n) c2 (by omega)), if_pos (z2 MC MS)]
      have hw1 : wgh n = 1 := by unfold wgh; rw [if_neg (by omega), if_pos (by omega)]
      have hr : rch n = false := by simp only [rch, decide_eq_false_iff_not]; omega
      have : sT n = 1048580 := by
        unfold sT
        rw [hw1, hr, mb_exact h0 hw1]
        cases hR n <;> decide
      exact ⟨uu, pk, pn, a_row, P, T, parts, by rw [this]; rfl, hu, hA, hP⟩
    · rw [if_neg (L_nle n (sg n - n) (by omega) (by omega)), if_pos (z2 MC MS)]
      have hw0 : wgh n = 0 := by unfold wgh; rw [if_pos (by omega)]
      have hr : rch n = false := by simp only [rch, decide_eq_false_iff_not]; omega
      have : sT n = 8 := by
        unfold sT
        rw [hw0, hr, mb_poor h0 hn hw0]
        cases hR n <;> decide
      exact ⟨uu, pk, pn, a_row, P, T, parts, by rw [this]; rfl, hu, hA, hP⟩
def TrR (a : Nat → Int32) : Prop := ∀ n, 1 ≤ n → n ≤ 5000 → ∃ w, w < 2 ^ 21 ∧ a n = nI w ∧ ∀ j, j < 19 → w.testBit j = se n j
theorem mark_f (N : Nat) (hN : 2 ^ 40 ≤ N) {A B : Nat → Int32} (hT : TT A B) {tr : Nat → Int32} (htr : ∀ m, 1 ≤ m → m ≤ 5000 → tr m = nI (tW m)) : ∃ a', f_X8_markRecords N 50001 A 50001 B 5001 tr = some a' ∧ TrR a' := by
  have h40 : (2 : Nat) ^ 40 = 1099511627776 := by decide
  unfold f_X8_markRecords l_X8_markRecords_10
  refine lp_post (I := fun (z : Int64 × Int64 × Int64 × Int32 × (Nat → Int32)) => ∃ n : Nat, 1 ≤ n ∧ n ≤ 5001 ∧ z.1 = lN (tbv 0 (bst 0 n)) ∧ z.2.1 = lN (tbv 0 (bst 1 n)) ∧ z.2.2.1 = lN (bM 1 (bst 1 n)) ∧ z.2.2.2.1 = nI n ∧ (∀ m, n ≤ m → m ≤ 5000 → z.2.2.2.2 m = nI (tW m)) ∧ (∀ m, 1 ≤ m → m < n → ∃ w, w < 2 ^ 21 ∧ z.2.2.2.2 m = nI w ∧ ∀ j, j < 19 → w.testBit j = se m j)) (μ := fun z => 5002 - z.2.2.2.1.toNatClampNeg) (post := fun r => ∃ a' : Nat → Int32, r = some a' ∧ TrR a') ?_ N _ ?_ ?_
  · intro z K hI hK
    obtain ⟨y1, y2, y3, y4, y5⟩ := z
    obtain ⟨n, hn1, hn2, e1, e2, e3, e4, hhi, hlo⟩ := hI
    simp only at e1 e2 e3 e4 hhi hlo
    subst e1
    subst e2
    subst e3
    subst e4
    show ∃ a', s_X8_markRecords_10 N 50001 A 50001 B 5001 K _ _ _ (nI n) y5 = some a' ∧ TrR a'
    unfold s_X8_markRecords_10
    by_cases c : 5001 ≤ n
    · rw [if_pos (L_le 5001 n c (by omega))]
      exact ⟨y5, rfl, fun m h1 h2 => hlo m h1 (by omega)⟩
    · have s0 : f_X7_summed N (0 : Int32) (nI n) 50001 A 50001 B = some (nI (tbv 0 n)) := summed7 N hT (k := 0) (by decide) (by omega)
      have g1 := tbv_lt (k := 0) (x := n) (by decide)
      have g2 := tbv_lt (k := 0) (x := bst 0 n) (by decide)
      have g3 := tbv_lt (k := 0) (x := bst 1 n) (by decide)
      have hx0 := bst_lt 0 n hn1
      have hx1 := bst_lt 1 n hn1
      have hbm : bM 1 (bst 1 n) ≤ 50000 := by unfold bM; split <;> (try split) <;> omega
      rw [if_neg (L_nle 5001 n (by omega) (by decide)), s0, ob]
      simp only [xl]
      rw [nI_i64 (by omega)]
      have i0 := rc_iff (so := 0) (x := bst 0 n) hn1 (show n ≤ 50000 by omega)
      have i1 := rc_iff (so := 1) (x := bst 1 n) hn1 (show n ≤ 50000 by omega)
      have bM0 : bM 0 (bst 0 n) = 1 := rfl
      rw [bM0, if_pos rfl, Nat.mul_one, Nat.mul_one] at i0
      rw [if_neg (by decide)] at i1
      have b0 : tbv 0 (bst 0 (n + 1)) = if rc 0 (bst 0 n) n = true then tbv 0 n else tbv 0 (bst 0 n) := by
        rw [bst_s 0 hn1]; split <;> rfl
      have b1 : tbv 0 (bst 1 (n + 1)) = if rc 1 (bst 1 n) n = true then tbv 0 n else tbv 0 (bst 1 n) := by
        rw [bst_s 1 hn1]; split <;> rfl
      have b1m : bM 1 (bst 1 (n + 1)) = if rc 1 (bst 1 n) n = true then n else bM 1 (bst 1 n) := by
        rw [bst_s 1 hn1]
        split
        · unfold bM; rw [if_neg (by decide), if_neg (by omega)]
        · rfl
      -- the second half
      have j56 : ∀ (a : Nat → Int32) (w : Nat), w < 2 ^ 21 → a n = nI w → (∀ m, m ≠ n → a m = y5 m) → (∀ j, j < 19 → j ≠ 9 → w.testBit j = se n j) → w.testBit 9 = false → ∃ a', j_X8_markRecords_56 N K (lN (tbv 0 (bst 0 (n + 1)))) (lN (tbv 0 (bst 1 n))) (lN (bM 1 (bst 1 n))) (nI n) (lN (tbv 0 n)) 5001 a = some a' ∧ TrR a' := by
        intro a w hw ha hother hbits h9
        have hμ : 5002 - (nI (n + 1)).toNatClampNeg < 5002 - (nI n).toNatClampNeg := by rw [nI_clamp (by omega), nI_clamp (by omega)]; omega
        unfold j_X8_markRecords_56
        simp only [xl, nI_1]
        rw [nI_i64 (by omega), lN_mul, lN_mul]
        have se9 : se n 9 = rc 1 (bst 1 n) n := rfl
        by_cases q : tbv 0 n * bM 1 (bst 1 n) ≤ tbv 0 (bst 1 n) * n
        · rw [if_pos ((M_leI (sm63 g1 hbm) (sm63 g3 (by omega))).mpr q)]
          have hr := i1.mp q
          refine hK _ ⟨n + 1, by omega, by omega, rfl, ?_, ?_, rfl, fun m h1 h2 => ?_, fun m h1 h2 => ?_⟩ hμ
          · show lN _ = lN _
            rw [b1, if_neg (by rw [hr]; decide)]
          · show lN _ = lN _
            rw [b1m, if_neg (by rw [hr]; decide)]
          · show a m = _
            rw [hother m (by omega)]; exact hhi m (by omega) h2
          · show ∃ w, w < 2 ^ 21 ∧ a m = nI w ∧ _
            by_cases e : m = n
            · subst e
              refine ⟨w, hw, ha, fun j hj => ?_⟩
              by_cases j9 : j = 9
              · subst j9; rw [h9, se9, hr]
              · exact hbits j hj j9
            · rw [hother m e]; exact hlo m h1 (by omega)
        · rw [if_neg (fun v => q ((M_leI (sm63 g1 hbm) (sm63 g3 (by omega))).mp v)), if_neg (L_in n 5001 (by omega) (by omega)), nI_clamp (by omega), ha, show (512 : Int32) = nI 512 from rfl, orI]
          have hr : rc 1 (bst 1 n) n = true := by
            cases h : rc 1 (bst 1 n) n
            · exact absurd (i1.mpr h) q
            · rfl
          refine hK _ ⟨n + 1, by omega, by omega, rfl, ?_, ?_, rfl, fun m h1 h2 => ?_, fun m h1 h2 => ?_⟩ hμ
          · show lN _ = lN _
            rw [b1, if_pos hr]
          · show lN _ = lN _
            rw [b1m, if_pos hr]
          · show upd a n _ m = _
            rw [pk_un (by omega), hother m (by omega)]; exact hhi m (by omega) h2
          · show ∃ w, w < 2 ^ 21 ∧ upd a n _ m = nI w ∧ _
            by_cases e : m = n
            · subst e
              refine ⟨w ||| 512, Nat.or_lt_two_pow hw (by decide), pk_us, fun j hj => ?_⟩
              rw [Nat.testBit_or, show (512 : Nat) = 2 ^ 9 from rfl, Nat.testBit_two_pow]
              by_cases j9 : j = 9
              · subst j9; rw [h9, se9, hr]; rfl
              · have : decide (9 = j) = false := by simp <;> omega
                rw [this, Bool.or_false]; exact hbits j hj j9
            · rw [pk_un e, hother m e]; exact hlo m h1 (by omega)
      have t89 := tW_89 (n := n) hn1
      have hwn := hhi n (Nat.le_refl n) (by omega)
      have se8 : se n 8 = rc 0 (bst 0 n) n := rfl
      by_cases q : tbv 0 n ≤ tbv 0 (bst 0 n)
      · rw [if_pos (M_le _ _ q (by omega))]
        have hr := i0.mp q
        have := j56 y5 (tW n) (tW_lt hn1 (by omega)) hwn (fun m _ => rfl) (fun j hj j9 => by
          by_cases j8 : j = 8
          · subst j8; rw [t89.1, se8, hr]
          · exact tW_se hn1 (by omega) hj j8 j9) t89.2
        rw [b0, if_neg (by rw [hr]; decide)] at this
        exact this
      · rw [if_neg (M_nle (tbv 0 n) (tbv 0 (bst 0 n)) (by omega) (by omega)), if_neg (L_in n 5001 (by omega) (by omega)), nI_clamp (by omega), hwn, show (256 : Int32) = nI 256 from rfl, orI]
        have hr : rc 0 (bst 0 n) n = true := by
          cases h : rc 0 (bst 0 n) n
          · exact absurd (i0.mpr h) q
          · rfl
        have := j56 (upd y5 n (nI (tW n ||| 256))) (tW n ||| 256) (Nat.or_lt_two_pow (tW_lt hn1 (by omega)) (by decide)) pk_us (fun m hm => pk_un hm) (fun j hj j9 => by
          rw [Nat.testBit_or, show (256 : Nat) = 2 ^ 8 from rfl, Nat.testBit_two_pow]
          by_cases j8 : j = 8
          · subst j8; rw [t89.1, se8, hr]; rfl
          · have : decide (8 = j) = false := by simp <;> omega
            rw [this, Bool.or_false]; exact tW_se hn1 (by omega) hj j8 j9) (by
          rw [Nat.testBit_or, show (256 : Nat) = 2 ^ 8 from rfl, Nat.testBit_two_pow, t89.2]; rfl)
        rw [b0, if_pos hr] at this
        exact this
  · refine ⟨1, by decide, by decide, ?_, ?_, ?_, rfl, fun m h1 h2 => htr m h1 h2, fun m h1 h2 => by omega⟩
    · show (0 : Int64) = lN _
      rw [show bst 0 1 = 0 from rfl]; rfl
    · show (0 : Int64) = lN _
      rw [show bst 1 1 = 0 from rfl]; rfl
    · show (1 : Int64) = lN _
      rw [show bst 1 1 = 0 from rfl]; rfl
  · show 5002 - _ < N
    omega
def TrOK (n_traits : Nat) (a : Nat → Int32) : Prop := n_traits = 0 ∨ (n_traits = 5001 ∧ TrR a)
theorem prep8 (N : Nat) (hN : 2 ^ 40 ≤ N) {A B : Nat → Int32} (hT : TT A B) {al : Nat → Int32} (hL : PT 9592 al) {u : Int32} {num : Int64} {P : Nat → Int64} {T : Nat → Int32} (hS : SpOK u num P T) {pk : Int32} {pn : Int64} {parts : Nat → Int64} (hP : PaOK pk pn parts) {n_traits : Nat} {tr : Nat → Int32} (hTr : TrOK n_traits tr) {MC MS : Nat} (hC : (if n_traits = 0 then 1 else 0) ≤ MC) (hM : (if n_traits = 0 then 5001 else 0) ≤ MS) (a_row : Nat → Int32) : ∃ (u' : Int32) (num' : Int64) (pk' : Int32) (pn' : Int64) (a' : Nat → Int32) (P' : Nat → Int64) (T' : Nat → Int32) (parts' : Nat → Int64) (tr' : Nat → Int32), f_X8_prepare N MC MS u num pk pn 50001 a_row 9592 al P T parts 50001 A 50001 B n_traits tr = some (u', num', pk', pn', 50001, a', P', T', parts', 5001, tr') ∧ SpOK u' num' P' T' ∧ PaOK pk' pn' parts' ∧ TrR tr' := by
  have h40 : (2 : Nat) ^ 40 = 1099511627776 := by decide
  have h30 : (2 : Nat) ^ 30 = 1073741824 := by decide
  unfold f_X8_prepare
  rcases hTr with h | ⟨h, hR⟩
  · subst h
    simp only [if_true] at hC hM
    rw [if_pos (show nI 0 ≤ 0 by decide), if_pos (show 0 + 1 ≤ MC ∧ 0 + 5001 ≤ MS from ⟨by omega, by omega⟩)]
    have hbu : 0 + 1 ≤ MC ∧ 0 + 5001 ≤ MS := ⟨by omega, by omega⟩
    unfold l_X8_prepare_20
    refine lp_post (I := fun (z : Int32 × Int32 × Int64 × Int32 × Int64 × Nat × (Nat → Int32) × (Nat → Int64) × (Nat → Int32) × (Nat → Int64) × (Nat → Int32) × Nat × Nat) => ∃ n : Nat, 1 ≤ n ∧ n ≤ 5001 ∧ z.1 = nI n ∧ SpOK z.2.1 z.2.2.1 z.2.2.2.2.2.2.2.1 z.2.2.2.2.2.2.2.2.1 ∧ PaOK z.2.2.2.1 z.2.2.2.2.1 z.2.2.2.2.2.2.2.2.2.1 ∧ z.2.2.2.2.2.1 = 50001 ∧ (∀ m, 1 ≤ m → m < n → z.2.2.2.2.2.2.2.2.2.2.1 m = nI (tW m)) ∧ z.2.2.2.2.2.2.2.2.2.2.2.1 = 0 + 1 ∧ z.2.2.2.2.2.2.2.2.2.2.2.2 = 0 + 5001) (μ := fun z => 5002 - z.1.toNatClampNeg) (post := fun r => ∃ (u' : Int32) (num' : Int64) (pk' : Int32) (pn' : Int64) (a' : Nat → Int32) (P' : Nat → Int64) (T' : Nat → Int32) (parts' : Nat → Int64) (tr' : Nat → Int32), r = some (u', num', pk', pn', 50001, a', P', T', parts', 5001, tr') ∧ SpOK u' num' P' T' ∧ PaOK pk' pn' parts' ∧ TrR tr') ?_ N _ ?_ ?_
    · intro z K hI hK
      obtain ⟨y1, y2, y3, y4, y5, y6, y7, y8, y9, y10, y11, y12, y13⟩ := z
      obtain ⟨n, hn1, hn2, e1, hS1, hP1, e2, htr, e3, e4⟩ := hI
      simp only at e1 hS1 hP1 e2 htr e3 e4
      subst e1
      subst e2
      subst e3
      subst e4
      show ∃ (u' : Int32) (num' : Int64) (pk' : Int32) (pn' : Int64) (a' : Nat → Int32) (P' : Nat → Int64) (T' : Nat → Int32) (parts' : Nat → Int64) (tr' : Nat → Int32), s_X8_prepare_20 N MC MS 9592 al 50001 A 50001 B 5001 K (nI n) y2 y3 y4 y5 50001 y7 y8 y9 y10 y11 (0 + 1) (0 + 5001) = some (u', num', pk', pn', 50001, a', P', T', parts', 5001, tr') ∧ SpOK u' num' P' T' ∧ PaOK pk' pn' parts' ∧ TrR tr'
      unfold s_X8_prepare_20
      by_cases c : 5001 ≤ n
      · rw [if_pos (L_le 5001 n c (by omega))]
        unfold j_X8_prepare_61
        obtain ⟨a', m1, m2⟩ := mark_f N hN hT (tr := y11) (fun m h1 h2 => htr m h1 (by omega))
        rw [if_pos hbu, m1, ob, if_pos hbu]
        exact ⟨y2, y3, y4, y5, y7, y8, y9, y10, a', rfl, hS1, hP1, m2⟩
      · have e0 : ¬ nI 50001 = 0 := by decide
        simp only [if_neg e0]
        have hbu2 : 0 + 1 + 0 ≤ MC ∧ 0 + 5001 + 0 ≤ MS := ⟨by omega, by omega⟩
        obtain ⟨w, P2, T2, s1, hw, hA⟩ := splitUp_f N (by omega) hL hS1 (show 0 < n by omega) (show n ≤ 10000000000 by omega)
        rw [if_neg (L_nle 5001 n (by omega) (by decide)), if_pos hbu, nI_i64 (by omega), s1, ob]
        simp only
        obtain ⟨w3, pk3, pn3, a3, P3, T3, parts3, s2, hw3, hA3, hP3⟩ := sortTraits_f N hN hT hL (show 0 < n by omega) (show n ≤ 5000 by omega) hw hA hP1 (tr := y11) htr 0 0 y7
        rw [if_pos hbu2, s2, ob]
        simp only
        rw [if_pos hbu2, primeTraits_f N hN (show 0 < n by omega) (show n ≤ 5000 by omega) hw3 hA3, ob, orI]
        simp only [xl]
        rw [if_neg (L_in n 5001 (by omega) (by omega)), nI_clamp (by omega), nI_1]
        refine hK _ ⟨n + 1, by omega, by omega, rfl, ⟨w3, n, rfl, rfl, hw3, by omega, by omega, hA3⟩, hP3, rfl, fun m h1 h2 => ?_, rfl, rfl⟩ ?_
        · show upd y11 n _ m = _
          by_cases q : m = n
          · rw [q, pk_us]; rfl
          · rw [pk_un q]; exact htr m h1 (by omega)
        · show 5002 - (nI (n + 1)).toNatClampNeg < 5002 - (nI n).toNatClampNeg
          rw [nI_clamp (by omega), nI_clamp (by omega)]; omega
    · exact ⟨1, by decide, by decide, rfl, hS, hP, rfl, fun m h1 h2 => by omega, rfl, rfl⟩
    · show 5002 - _ < N
      omega
  · subst h
    rw [if_neg (by decide), if_pos (z2 MC MS)]
    exact ⟨u, num, pk, pn, a_row, P, T, parts, tr, rfl, hS, hP, hR⟩
