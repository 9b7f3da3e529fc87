set_option maxRecDepth 100000 in
set_option maxHeartbeats 4000000 in
theorem law_step (hW : WholeSpec) {N : Nat} (hN : 2 ^ 40 ≤ N) {L i : Nat} (hL : L ≤ 2560) (hiL : i ≤ L) (xs : Nat → Int32) (K : LwT → Option Unit) (hK : i + 5 ≤ L → KOK i K) (sp_unlike : Int32) (sp_number : Int64) (sp_partsKept : Int32) (sp_partsNumber : Int64) (ch_many : Int32) (ch_kind : Int32) (ch_ending : Int32) (ch_tail : Int32) (ch_round : Int32) (ch_greatest : Int64) (pk1_wanted : Int32) (pk1_seen : Int32) (wh_powers : Int32) (wh_many : Int32) (wh_told : Int64) (wi_length : Int32) (pk2_wanted : Int32) (pk2_seen : Int32) (m_length : Int32) (m_primeMany : Int32) (m_toldMany : Int32) (m_fate : Int32) (m_tail : Int32) (m_round : Int32) (m_tableKind : Int32) (m_areLaid : Int32) (m_unlike : Int32) (m_isFree : Int32) (n_row : Nat) (a_row : Nat → Int32) (n_list : Nat) (a_list : Nat → Int32) (a_prime : Nat → Int64) (a_times : Nat → Int32) (a_parts : Nat → Int64) (a_told : Nat → Int64) (n_all : Nat) (a_all : Nat → Int32) (n_apart : Nat) (a_apart : Nat → Int32) (a_base : Nat → Int64) (a_power : Nat → Int64) (a_powerSum : Nat → Int64) (a_found : Nat → Int64) (n_traits : Nat) (a_traits : Nat → Int32) (a_text : Nat → Int32) (a_mtext : Nat → Int32) (a_mprimes : Nat → Int64) (a_mtold : Nat → Int64) (a_mtable : Nat → Int32) (a_mstretch : Nat → Int64) (a_mfewest : Nat → Int32) (a_misOdd : Nat → Int32) (a_misHigh : Nat → Int32) (a_misTop : Nat → Int32) (a_mbits : Nat → Int64) (a_mpile : Nat → Int32) (gc : Nat) (gs : Nat) (hI : Inv sp_unlike sp_number sp_partsKept sp_partsNumber ch_many ch_kind ch_ending ch_tail ch_round ch_greatest wh_powers wh_many wh_told wi_length m_length m_tableKind m_areLaid n_row n_list a_list a_prime a_times a_parts a_told n_all a_all n_apart a_apart a_found n_traits a_traits a_text a_mtext a_mtable a_misOdd a_misHigh a_misTop gc gs) : s_L_law_18 N L xs K (nI i) sp_unlike sp_number sp_partsKept sp_partsNumber ch_many ch_kind ch_ending ch_tail ch_round ch_greatest pk1_wanted pk1_seen wh_powers wh_many wh_told wi_length pk2_wanted pk2_seen m_length m_primeMany m_toldMany m_fate m_tail m_round m_tableKind m_areLaid m_unlike m_isFree n_row a_row n_list a_list a_prime a_times a_parts a_told n_all a_all n_apart a_apart a_base a_power a_powerSum a_found n_traits a_traits a_text a_mtext a_mprimes a_mtold a_mtable a_mstretch a_mfewest a_misOdd a_misHigh a_misTop a_mbits a_mpile gc gs = some () := by
  have hL31 : L < 2 ^ 31 := by omega
  have hend : ((Int32.ofNat L) - (5 : Int32) < nI i) ↔ L < i + 5 := by
    show (nI L - nI 5 < nI i) ↔ _
    rcases Nat.lt_or_ge L 5 with q | q
    · constructor
      · intro _; omega
      · intro _
        have h1 := pk_sneg (a := L) (b := 5) (by decide) q
        have h2 : (0 : Int32) ≤ nI i := nI_ge0 (by omega)
        rw [Int32.lt_iff_toInt_lt] at *
        rw [Int32.le_iff_toInt_le] at h2
        omega
    · rw [pk_sub q]
      constructor
      · intro w
        rcases Nat.lt_or_ge (L - 5) i with r | r
        · omega
        · exact absurd w (L_nlt (L - 5) i r (by omega))
      · intro w
        exact L_lt (L - 5) i (by omega) (by omega)
  have hbud : gc ≤ 600000 ∧ gs ≤ 7302250 := by
    have h1 := hI.2.2.2.2.2.2.2.2.2.2.1
    have h2 := hI.2.2.2.2.2.2.2.2.2.2.2
    exact ⟨by omega, by omega⟩
  unfold s_L_law_18
  by_cases he : L < i + 5
  · rw [if_pos (hend.mpr he), if_pos hbud]
  rw [if_neg (fun w => he (hend.mp w)), if_neg (L_in i L (by omega) (by omega)), xl]
  have hi : i + 5 ≤ L := by omega
  have hk := hK hi
  generalize xs (nI i).toNatClampNeg &&& 31 = y
  by_cases c0 : y = (0 : Int32)
  · rw [if_pos c0]
    exact lw_sum hN hL31 hi xs K hk sp_unlike sp_number sp_partsKept sp_partsNumber ch_many ch_kind ch_ending ch_tail ch_round ch_greatest pk1_wanted pk1_seen wh_powers wh_many wh_told wi_length pk2_wanted pk2_seen m_length m_primeMany m_toldMany m_fate m_tail m_round m_tableKind m_areLaid m_unlike m_isFree n_row a_row n_list a_list a_prime a_times a_parts a_told n_all a_all n_apart a_apart a_base a_power a_powerSum a_found n_traits a_traits a_text a_mtext a_mprimes a_mtold a_mtable a_mstretch a_mfewest a_misOdd a_misHigh a_misTop a_mbits a_mpile gc gs hI
  rw [if_neg c0]
  by_cases c1 : y = (1 : Int32)
  · rw [if_pos c1]
    exact lw_part hN hL31 hi xs K hk sp_unlike sp_number sp_partsKept sp_partsNumber ch_many ch_kind ch_ending ch_tail ch_round ch_greatest pk1_wanted pk1_seen wh_powers wh_many wh_told wi_length pk2_wanted pk2_seen m_length m_primeMany m_toldMany m_fate m_tail m_round m_tableKind m_areLaid m_unlike m_isFree n_row a_row n_list a_list a_prime a_times a_parts a_told n_all a_all n_apart a_apart a_base a_power a_powerSum a_found n_traits a_traits a_text a_mtext a_mprimes a_mtold a_mtable a_mstretch a_mfewest a_misOdd a_misHigh a_misTop a_mbits a_mpile gc gs hI
  rw [if_neg c1]
  by_cases c2 : y = (2 : Int32)
  · rw [if_pos c2]
    exact lw_prime hN hL31 hi xs K hk sp_unlike sp_number sp_partsKept sp_partsNumber ch_many ch_kind ch_ending ch_tail ch_round ch_greatest pk1_wanted pk1_seen wh_powers wh_many wh_told wi_length pk2_wanted pk2_seen m_length m_primeMany m_toldMany m_fate m_tail m_round m_tableKind m_areLaid m_unlike m_isFree n_row a_row n_list a_list a_prime a_times a_parts a_told n_all a_all n_apart a_apart a_base a_power a_powerSum a_found n_traits a_traits a_text a_mtext a_mprimes a_mtold a_mtable a_mstretch a_mfewest a_misOdd a_misHigh a_misTop a_mbits a_mpile gc gs hI
  rw [if_neg c2]
  by_cases c3 : y = (3 : Int32)
  · rw [if_pos c3]
    exact lw_chain hN hL31 hi xs K hk sp_unlike sp_number sp_partsKept sp_partsNumber ch_many ch_kind ch_ending ch_tail ch_round ch_greatest pk1_wanted pk1_seen wh_powers wh_many wh_told wi_length pk2_wanted pk2_seen m_length m_primeMany m_toldMany m_fate m_tail m_round m_tableKind m_areLaid m_unlike m_isFree n_row a_row n_list a_list a_prime a_times a_parts a_told n_all a_all n_apart a_apart a_base a_power a_powerSum a_found n_traits a_traits a_text a_mtext a_mprimes a_mtold a_mtable a_mstretch a_mfewest a_misOdd a_misHigh a_misTop a_mbits a_mpile gc gs hI
  rw [if_neg c3]
  by_cases c4 : y = (4 : Int32)
  · rw [if_pos c4]
    exact lw_step hN hL31 hi xs K hk sp_unlike sp_number sp_partsKept sp_partsNumber ch_many ch_kind ch_ending ch_tail ch_round ch_greatest pk1_wanted pk1_seen wh_powers wh_many wh_told wi_length pk2_wanted pk2_seen m_length m_primeMany m_toldMany m_fate m_tail m_round m_tableKind m_areLaid m_unlike m_isFree n_row a_row n_list a_list a_prime a_times a_parts a_told n_all a_all n_apart a_apart a_base a_power a_powerSum a_found n_traits a_traits a_text a_mtext a_mprimes a_mtold a_mtable a_mstretch a_mfewest a_misOdd a_misHigh a_misTop a_mbits a_mpile gc gs hI
  rw [if_neg c4]
  by_cases c5 : y = (5 : Int32)
  · rw [if_pos c5]
    exact lw_rings hN hL31 hi xs K hk sp_unlike sp_number sp_partsKept sp_partsNumber ch_many ch_kind ch_ending ch_tail ch_round ch_greatest pk1_wanted pk1_seen wh_powers wh_many wh_told wi_length pk2_wanted pk2_seen m_length m_primeMany m_toldMany m_fate m_tail m_round m_tableKind m_areLaid m_unlike m_isFree n_row a_row n_list a_list a_prime a_times a_parts a_told n_all a_all n_apart a_apart a_base a_power a_powerSum a_found n_traits a_traits a_text a_mtext a_mprimes a_mtold a_mtable a_mstretch a_mfewest a_misOdd a_misHigh a_misTop a_mbits a_mpile gc gs hI
  rw [if_neg c5]
  by_cases c6 : y = (6 : Int32)
  · rw [if_pos c6]
    exact lw_having hN hL31 hi xs K hk sp_unlike sp_number sp_partsKept sp_partsNumber ch_many ch_kind ch_ending ch_tail ch_round ch_greatest pk1_wanted pk1_seen wh_powers wh_many wh_told wi_length pk2_wanted pk2_seen m_length m_primeMany m_toldMany m_fate m_tail m_round m_tableKind m_areLaid m_unlike m_isFree n_row a_row n_list a_list a_prime a_times a_parts a_told n_all a_all n_apart a_apart a_base a_power a_powerSum a_found n_traits a_traits a_text a_mtext a_mprimes a_mtold a_mtable a_mstretch a_mfewest a_misOdd a_misHigh a_misTop a_mbits a_mpile gc gs hI
  rw [if_neg c6]
  by_cases c7 : y = (7 : Int32)
  · rw [if_pos c7]
    exact lw_wholly hW hN hL31 hi xs K hk sp_unlike sp_number sp_partsKept sp_partsNumber ch_many ch_kind ch_ending ch_tail ch_round ch_greatest pk1_wanted pk1_seen wh_powers wh_many wh_told wi_length pk2_wanted pk2_seen m_length m_primeMany m_toldMany m_fate m_tail m_round m_tableKind m_areLaid m_unlike m_isFree n_row a_row n_list a_list a_prime a_times a_parts a_told n_all a_all n_apart a_apart a_base a_power a_powerSum a_found n_traits a_traits a_text a_mtext a_mprimes a_mtold a_mtable a_mstretch a_mfewest a_misOdd a_misHigh a_misTop a_mbits a_mpile gc gs hI
  rw [if_neg c7]
  by_cases c8 : y = (8 : Int32)
  · rw [if_pos c8]
    exact lw_bare hN hL31 hi xs K hk sp_unlike sp_number sp_partsKept sp_partsNumber ch_many ch_kind ch_ending ch_tail ch_round ch_greatest pk1_wanted pk1_seen wh_powers wh_many wh_told wi_length pk2_wanted pk2_seen m_length m_primeMany m_toldMany m_fate m_tail m_round m_tableKind m_areLaid m_unlike m_isFree n_row a_row n_list a_list a_prime a_times a_parts a_told n_all a_all n_apart a_apart a_base a_power a_powerSum a_found n_traits a_traits a_text a_mtext a_mprimes a_mtold a_mtable a_mstretch a_mfewest a_misOdd a_misHigh a_misTop a_mbits a_mpile gc gs hI
  rw [if_neg c8]
  by_cases c9 : y = (9 : Int32)
  · rw [if_pos c9]
    exact lw_share hN hL31 hi xs K hk sp_unlike sp_number sp_partsKept sp_partsNumber ch_many ch_kind ch_ending ch_tail ch_round ch_greatest pk1_wanted pk1_seen wh_powers wh_many wh_told wi_length pk2_wanted pk2_seen m_length m_primeMany m_toldMany m_fate m_tail m_round m_tableKind m_areLaid m_unlike m_isFree n_row a_row n_list a_list a_prime a_times a_parts a_told n_all a_all n_apart a_apart a_base a_power a_powerSum a_found n_traits a_traits a_text a_mtext a_mprimes a_mtold a_mtable a_mstretch a_mfewest a_misOdd a_misHigh a_misTop a_mbits a_mpile gc gs hI
  rw [if_neg c9]
  by_cases c10 : y = (10 : Int32)
  · rw [if_pos c10]
    exact lw_friends hN hL31 hi xs K hk sp_unlike sp_number sp_partsKept sp_partsNumber ch_many ch_kind ch_ending ch_tail ch_round ch_greatest pk1_wanted pk1_seen wh_powers wh_many wh_told wi_length pk2_wanted pk2_seen m_length m_primeMany m_toldMany m_fate m_tail m_round m_tableKind m_areLaid m_unlike m_isFree n_row a_row n_list a_list a_prime a_times a_parts a_told n_all a_all n_apart a_apart a_base a_power a_powerSum a_found n_traits a_traits a_text a_mtext a_mprimes a_mtold a_mtable a_mstretch a_mfewest a_misOdd a_misHigh a_misTop a_mbits a_mpile gc gs hI
  rw [if_neg c10]
  by_cases c11 : y = (11 : Int32)
  · rw [if_pos c11]
    exact lw_reached hN hL31 hi xs K hk sp_unlike sp_number sp_partsKept sp_partsNumber ch_many ch_kind ch_ending ch_tail ch_round ch_greatest pk1_wanted pk1_seen wh_powers wh_many wh_told wi_length pk2_wanted pk2_seen m_length m_primeMany m_toldMany m_fate m_tail m_round m_tableKind m_areLaid m_unlike m_isFree n_row a_row n_list a_list a_prime a_times a_parts a_told n_all a_all n_apart a_apart a_base a_power a_powerSum a_found n_traits a_traits a_text a_mtext a_mprimes a_mtold a_mtable a_mstretch a_mfewest a_misOdd a_misHigh a_misTop a_mbits a_mpile gc gs hI
  rw [if_neg c11]
  by_cases c12 : y = (12 : Int32)
  · rw [if_pos c12]
    exact lw_records hN hL31 hi xs K hk sp_unlike sp_number sp_partsKept sp_partsNumber ch_many ch_kind ch_ending ch_tail ch_round ch_greatest pk1_wanted pk1_seen wh_powers wh_many wh_told wi_length pk2_wanted pk2_seen m_length m_primeMany m_toldMany m_fate m_tail m_round m_tableKind m_areLaid m_unlike m_isFree n_row a_row n_list a_list a_prime a_times a_parts a_told n_all a_all n_apart a_apart a_base a_power a_powerSum a_found n_traits a_traits a_text a_mtext a_mprimes a_mtold a_mtable a_mstretch a_mfewest a_misOdd a_misHigh a_misTop a_mbits a_mpile gc gs hI
  rw [if_neg c12]
  by_cases c13 : y = (13 : Int32)
  · rw [if_pos c13]
    exact lw_sort hN hL31 hi xs K hk sp_unlike sp_number sp_partsKept sp_partsNumber ch_many ch_kind ch_ending ch_tail ch_round ch_greatest pk1_wanted pk1_seen wh_powers wh_many wh_told wi_length pk2_wanted pk2_seen m_length m_primeMany m_toldMany m_fate m_tail m_round m_tableKind m_areLaid m_unlike m_isFree n_row a_row n_list a_list a_prime a_times a_parts a_told n_all a_all n_apart a_apart a_base a_power a_powerSum a_found n_traits a_traits a_text a_mtext a_mprimes a_mtold a_mtable a_mstretch a_mfewest a_misOdd a_misHigh a_misTop a_mbits a_mpile gc gs hI
  rw [if_neg c13]
  by_cases c14 : y = (14 : Int32)
  · rw [if_pos c14]
    exact lw_made hN hL31 hi xs K hk sp_unlike sp_number sp_partsKept sp_partsNumber ch_many ch_kind ch_ending ch_tail ch_round ch_greatest pk1_wanted pk1_seen wh_powers wh_many wh_told wi_length pk2_wanted pk2_seen m_length m_primeMany m_toldMany m_fate m_tail m_round m_tableKind m_areLaid m_unlike m_isFree n_row a_row n_list a_list a_prime a_times a_parts a_told n_all a_all n_apart a_apart a_base a_power a_powerSum a_found n_traits a_traits a_text a_mtext a_mprimes a_mtold a_mtable a_mstretch a_mfewest a_misOdd a_misHigh a_misTop a_mbits a_mpile gc gs hI
  rw [if_neg c14]
  by_cases c15 : y = (15 : Int32)
  · rw [if_pos c15]
    exact lw_falling hN hL31 hi xs K hk sp_unlike sp_number sp_partsKept sp_partsNumber ch_many ch_kind ch_ending ch_tail ch_round ch_greatest pk1_wanted pk1_seen wh_powers wh_many wh_told wi_length pk2_wanted pk2_seen m_length m_primeMany m_toldMany m_fate m_tail m_round m_tableKind m_areLaid m_unlike m_isFree n_row a_row n_list a_list a_prime a_times a_parts a_told n_all a_all n_apart a_apart a_base a_power a_powerSum a_found n_traits a_traits a_text a_mtext a_mprimes a_mtold a_mtable a_mstretch a_mfewest a_misOdd a_misHigh a_misTop a_mbits a_mpile gc gs hI
  rw [if_neg c15]
  by_cases c16 : y = (16 : Int32)
  · rw [if_pos c16]
    exact lw_write hN hL31 hi xs K hk sp_unlike sp_number sp_partsKept sp_partsNumber ch_many ch_kind ch_ending ch_tail ch_round ch_greatest pk1_wanted pk1_seen wh_powers wh_many wh_told wi_length pk2_wanted pk2_seen m_length m_primeMany m_toldMany m_fate m_tail m_round m_tableKind m_areLaid m_unlike m_isFree n_row a_row n_list a_list a_prime a_times a_parts a_told n_all a_all n_apart a_apart a_base a_power a_powerSum a_found n_traits a_traits a_text a_mtext a_mprimes a_mtold a_mtable a_mstretch a_mfewest a_misOdd a_misHigh a_misTop a_mbits a_mpile gc gs hI
  rw [if_neg c16]
  by_cases c17 : y = (17 : Int32)
  · rw [if_pos c17]
    exact lw_wipe hN hL31 hi xs K hk sp_unlike sp_number sp_partsKept sp_partsNumber ch_many ch_kind ch_ending ch_tail ch_round ch_greatest pk1_wanted pk1_seen wh_powers wh_many wh_told wi_length pk2_wanted pk2_seen m_length m_primeMany m_toldMany m_fate m_tail m_round m_tableKind m_areLaid m_unlike m_isFree n_row a_row n_list a_list a_prime a_times a_parts a_told n_all a_all n_apart a_apart a_base a_power a_powerSum a_found n_traits a_traits a_text a_mtext a_mprimes a_mtold a_mtable a_mstretch a_mfewest a_misOdd a_misHigh a_misTop a_mbits a_mpile gc gs hI
  rw [if_neg c17]
  by_cases c18 : y = (18 : Int32)
  · rw [if_pos c18]
    exact lw_fault hN hL31 hi xs K hk sp_unlike sp_number sp_partsKept sp_partsNumber ch_many ch_kind ch_ending ch_tail ch_round ch_greatest pk1_wanted pk1_seen wh_powers wh_many wh_told wi_length pk2_wanted pk2_seen m_length m_primeMany m_toldMany m_fate m_tail m_round m_tableKind m_areLaid m_unlike m_isFree n_row a_row n_list a_list a_prime a_times a_parts a_told n_all a_all n_apart a_apart a_base a_power a_powerSum a_found n_traits a_traits a_text a_mtext a_mprimes a_mtold a_mtable a_mstretch a_mfewest a_misOdd a_misHigh a_misTop a_mbits a_mpile gc gs hI
  rw [if_neg c18]
  by_cases c19 : y = (19 : Int32)
  · rw [if_pos c19]
    exact lw_wished hN hL31 hi xs K hk sp_unlike sp_number sp_partsKept sp_partsNumber ch_many ch_kind ch_ending ch_tail ch_round ch_greatest pk1_wanted pk1_seen wh_powers wh_many wh_told wi_length pk2_wanted pk2_seen m_length m_primeMany m_toldMany m_fate m_tail m_round m_tableKind m_areLaid m_unlike m_isFree n_row a_row n_list a_list a_prime a_times a_parts a_told n_all a_all n_apart a_apart a_base a_power a_powerSum a_found n_traits a_traits a_text a_mtext a_mprimes a_mtold a_mtable a_mstretch a_mfewest a_misOdd a_misHigh a_misTop a_mbits a_mpile gc gs hI
  rw [if_neg c19]
  by_cases c20 : y = (20 : Int32)
  · rw [if_pos c20]
    exact lw_holds hN hL31 hi xs K hk sp_unlike sp_number sp_partsKept sp_partsNumber ch_many ch_kind ch_ending ch_tail ch_round ch_greatest pk1_wanted pk1_seen wh_powers wh_many wh_told wi_length pk2_wanted pk2_seen m_length m_primeMany m_toldMany m_fate m_tail m_round m_tableKind m_areLaid m_unlike m_isFree n_row a_row n_list a_list a_prime a_times a_parts a_told n_all a_all n_apart a_apart a_base a_power a_powerSum a_found n_traits a_traits a_text a_mtext a_mprimes a_mtold a_mtable a_mstretch a_mfewest a_misOdd a_misHigh a_misTop a_mbits a_mpile gc gs hI
  rw [if_neg c20]
  by_cases c21 : y = (21 : Int32)
  · rw [if_pos c21]
    exact lw_count hN hL31 hi xs K hk sp_unlike sp_number sp_partsKept sp_partsNumber ch_many ch_kind ch_ending ch_tail ch_round ch_greatest pk1_wanted pk1_seen wh_powers wh_many wh_told wi_length pk2_wanted pk2_seen m_length m_primeMany m_toldMany m_fate m_tail m_round m_tableKind m_areLaid m_unlike m_isFree n_row a_row n_list a_list a_prime a_times a_parts a_told n_all a_all n_apart a_apart a_base a_power a_powerSum a_found n_traits a_traits a_text a_mtext a_mprimes a_mtold a_mtable a_mstretch a_mfewest a_misOdd a_misHigh a_misTop a_mbits a_mpile gc gs hI
  rw [if_neg c21]
  rw [xl]
  unfold KOK at hk
  exact hk _ _ _ _ _ _ _ _ _ _ _ _ _ _ _ _ _ _ _ _ _ _ _ _ _ _ _ _ _ _ _ _ _ _ _ _ _ _ _ _ _ _ _ _ _ _ _ _ _ _ _ _ _ _ _ _ _ _ _ _ _ (nI_add i 5) hI
set_option maxRecDepth 100000 in
set_option maxHeartbeats 4000000 in
theorem law_ok (hW : WholeSpec) {L : Nat} (hL : L ≤ 2560) (xs : Nat → Int32) : law_f (2 ^ 40) L xs = some () := by
  have hN : 2 ^ 40 ≤ 2 ^ 40 := Nat.le_refl _
  unfold law_f l_L_law_18
  generalize hNN : (2 : Nat) ^ 40 = N at *
  have hN2 : 2 ^ 40 ≤ N := by omega
  refine lp_eq (some ()) (I := fun (z : LwT) => ∃ i : Nat, z.1 = nI i ∧ i ≤ L ∧ Inv (z.2.1) (z.2.2.1) (z.2.2.2.1) (z.2.2.2.2.1) (z.2.2.2.2.2.1) (z.2.2.2.2.2.2.1) (z.2.2.2.2.2.2.2.1) (z.2.2.2.2.2.2.2.2.1) (z.2.2.2.2.2.2.2.2.2.1) (z.2.2.2.2.2.2.2.2.2.2.1) (z.2.2.2.2.2.2.2.2.2.2.2.2.2.1) (z.2.2.2.2.2.2.2.2.2.2.2.2.2.2.1) (z.2.2.2.2.2.2.2.2.2.2.2.2.2.2.2.1) (z.2.2.2.2.2.2.2.2.2.2.2.2.2.2.2.2.1) (z.2.2.2.2.2.2.2.2.2.2.2.2.2.2.2.2.2.2.2.1) (z.2.2.2.2.2.2.2.2.2.2.2.2.2.2.2.2.2.2.2.2.2.2.2.2.2.1) (z.2.2.2.2.2.2.2.2.2.2.2.2.2.2.2.2.2.2.2.2.2.2.2.2.2.2.1) (z.2.2.2.2.2.2.2.2.2.2.2.2.2.2.2.2.2.2.2.2.2.2.2.2.2.2.2.2.2.1) (z.2.2.2.2.2.2.2.2.2.2.2.2.2.2.2.2.2.2.2.2.2.2.2.2.2.2.2.2.2.2.2.1) (z.2.2.2.2.2.2.2.2.2.2.2.2.2.2.2.2.2.2.2.2.2.2.2.2.2.2.2.2.2.2.2.2.1) (z.2.2.2.2.2.2.2.2.2.2.2.2.2.2.2.2.2.2.2.2.2.2.2.2.2.2.2.2.2.2.2.2.2.1) (z.2.2.2.2.2.2.2.2.2.2.2.2.2.2.2.2.2.2.2.2.2.2.2.2.2.2.2.2.2.2.2.2.2.2.1) (z.2.2.2.2.2.2.2.2.2.2.2.2.2.2.2.2.2.2.2.2.2.2.2.2.2.2.2.2.2.2.2.2.2.2.2.1) (z.2.2.2.2.2.2.2.2.2.2.2.2.2.2.2.2.2.2.2.2.2.2.2.2.2.2.2.2.2.2.2.2.2.2.2.2.1) (z.2.2.2.2.2.2.2.2.2.2.2.2.2.2.2.2.2.2.2.2.2.2.2.2.2.2.2.2.2.2.2.2.2.2.2.2.2.1) (z.2.2.2.2.2.2.2.2.2.2.2.2.2.2.2.2.2.2.2.2.2.2.2.2.2.2.2.2.2.2.2.2.2.2.2.2.2.2.1) (z.2.2.2.2.2.2.2.2.2.2.2.2.2.2.2.2.2.2.2.2.2.2.2.2.2.2.2.2.2.2.2.2.2.2.2.2.2.2.2.1) (z.2.2.2.2.2.2.2.2.2.2.2.2.2.2.2.2.2.2.2.2.2.2.2.2.2.2.2.2.2.2.2.2.2.2.2.2.2.2.2.2.1) (z.2.2.2.2.2.2.2.2.2.2.2.2.2.2.2.2.2.2.2.2.2.2.2.2.2.2.2.2.2.2.2.2.2.2.2.2.2.2.2.2.2.2.2.2.1) (z.2.2.2.2.2.2.2.2.2.2.2.2.2.2.2.2.2.2.2.2.2.2.2.2.2.2.2.2.2.2.2.2.2.2.2.2.2.2.2.2.2.2.2.2.2.1) (z.2.2.2.2.2.2.2.2.2.2.2.2.2.2.2.2.2.2.2.2.2.2.2.2.2.2.2.2.2.2.2.2.2.2.2.2.2.2.2.2.2.2.2.2.2.2.1) (z.2.2.2.2.2.2.2.2.2.2.2.2.2.2.2.2.2.2.2.2.2.2.2.2.2.2.2.2.2.2.2.2.2.2.2.2.2.2.2.2.2.2.2.2.2.2.2.1) (z.2.2.2.2.2.2.2.2.2.2.2.2.2.2.2.2.2.2.2.2.2.2.2.2.2.2.2.2.2.2.2.2.2.2.2.2.2.2.2.2.2.2.2.2.2.2.2.2.1) (z.2.2.2.2.2.2.2.2.2.2.2.2.2.2.2.2.2.2.2.2.2.2.2.2.2.2.2.2.2.2.2.2.2.2.2.2.2.2.2.2.2.2.2.2.2.2.2.2.2.2.2.1) (z.2.2.2.2.2.2.2.2.2.2.2.2.2.2.2.2.2.2.2.2.2.2.2.2.2.2.2.2.2.2.2.2.2.2.2.2.2.2.2.2.2.2.2.2.2.2.2.2.2.2.2.2.2.2.1) (z.2.2.2.2.2.2.2.2.2.2.2.2.2.2.2.2.2.2.2.2.2.2.2.2.2.2.2.2.2.2.2.2.2.2.2.2.2.2.2.2.2.2.2.2.2.2.2.2.2.2.2.2.2.2.2.1) (z.2.2.2.2.2.2.2.2.2.2.2.2.2.2.2.2.2.2.2.2.2.2.2.2.2.2.2.2.2.2.2.2.2.2.2.2.2.2.2.2.2.2.2.2.2.2.2.2.2.2.2.2.2.2.2.2.1) (z.2.2.2.2.2.2.2.2.2.2.2.2.2.2.2.2.2.2.2.2.2.2.2.2.2.2.2.2.2.2.2.2.2.2.2.2.2.2.2.2.2.2.2.2.2.2.2.2.2.2.2.2.2.2.2.2.2.2.2.1) (z.2.2.2.2.2.2.2.2.2.2.2.2.2.2.2.2.2.2.2.2.2.2.2.2.2.2.2.2.2.2.2.2.2.2.2.2.2.2.2.2.2.2.2.2.2.2.2.2.2.2.2.2.2.2.2.2.2.2.2.2)) (μ := fun z => 2561 - z.1.toNatClampNeg) ?_ N _ ?_ ?_
  · intro z K hI hK
    obtain ⟨v3, sp_unlike, sp_number, sp_partsKept, sp_partsNumber, ch_many, ch_kind, ch_ending, ch_tail, ch_round, ch_greatest, pk1_wanted, pk1_seen, wh_powers, wh_many, wh_told, wi_length, pk2_wanted, pk2_seen, m_length, m_primeMany, m_toldMany, m_fate, m_tail, m_round, m_tableKind, m_areLaid, m_unlike, m_isFree, n_row, a_row, n_list, a_list, a_prime, a_times, a_parts, a_told, n_all, a_all, n_apart, a_apart, a_base, a_power, a_powerSum, a_found, n_traits, a_traits, a_text, a_mtext, a_mprimes, a_mtold, a_mtable, a_mstretch, a_mfewest, a_misOdd, a_misHigh, a_misTop, a_mbits, a_mpile, gc, gs⟩ := z
    obtain ⟨i, e, hi, hInv⟩ := hI
    have e : v3 = nI i := e
    subst e
    refine law_step hW hN2 hL hi xs K (fun h5 => ?_) sp_unlike sp_number sp_partsKept sp_partsNumber ch_many ch_kind ch_ending ch_tail ch_round ch_greatest pk1_wanted pk1_seen wh_powers wh_many wh_told wi_length pk2_wanted pk2_seen m_length m_primeMany m_toldMany m_fate m_tail m_round m_tableKind m_areLaid m_unlike m_isFree n_row a_row n_list a_list a_prime a_times a_parts a_told n_all a_all n_apart a_apart a_base a_power a_powerSum a_found n_traits a_traits a_text a_mtext a_mprimes a_mtold a_mtable a_mstretch a_mfewest a_misOdd a_misHigh a_misTop a_mbits a_mpile gc gs hInv
    unfold KOK
    intro v3_ sp_unlike_ sp_number_ sp_partsKept_ sp_partsNumber_ ch_many_ ch_kind_ ch_ending_ ch_tail_ ch_round_ ch_greatest_ pk1_wanted_ pk1_seen_ wh_powers_ wh_many_ wh_told_ wi_length_ pk2_wanted_ pk2_seen_ m_length_ m_primeMany_ m_toldMany_ m_fate_ m_tail_ m_round_ m_tableKind_ m_areLaid_ m_unlike_ m_isFree_ n_row_ a_row_ n_list_ a_list_ a_prime_ a_times_ a_parts_ a_told_ n_all_ a_all_ n_apart_ a_apart_ a_base_ a_power_ a_powerSum_ a_found_ n_traits_ a_traits_ a_text_ a_mtext_ a_mprimes_ a_mtold_ a_mtable_ a_mstretch_ a_mfewest_ a_misOdd_ a_misHigh_ a_misTop_ a_mbits_ a_mpile_ gc_ gs_ ev hInv2
    refine hK _ ⟨i + 5, ev, h5, hInv2⟩ ?_
    show 2561 - v3_.toNatClampNeg < 2561 - (nI i).toNatClampNeg
    rw [ev, nI_clamp (by omega), nI_clamp (by omega)]; omega
  · refine ⟨0, rfl, Nat.zero_le _, ?_⟩
    refine ⟨⟨0, 1, rfl, rfl, by decide, by decide, by decide, ⟨fun _ => 0, fun _ => 0, ⟨fun i hi => absurd hi (Nat.not_lt_zero i), fun i j _ hj => absurd hj (Nat.not_lt_zero j), rfl⟩, fun i hi => absurd hi (Nat.not_lt_zero i)⟩⟩, Or.inl rfl, Or.inl rfl, Or.inl rfl, ⟨0, by decide, rfl, rfl, fun _ => 0, fun i hi => absurd hi (Nat.not_lt_zero i)⟩, Or.inl rfl, Or.inl rfl, ⟨Or.inl rfl, Or.inl rfl⟩, ⟨Or.inl rfl, Or.inl ⟨rfl, rfl⟩⟩, Or.inl rfl, ?_, ?_⟩
    · show 39 + zz 0 + zz 0 + zz 0 + zz 0 + zz 0 ≤ 44
      decide
    · show 75902 + (50001 - 0) + (9592 - 0) + (50001 - 0) + (50001 - 0) + (5001 - 0) ≤ 240498
      decide
  · show 2561 - _ < N
    omega
