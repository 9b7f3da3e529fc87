/-- share: both sides give one answer -/
theorem share_eq (N : Nat) (hN : 2 ^ 40 ≤ N) (v1 : Int64) (v3 : Int32) {u : Int32} {num : Int64} {P : Nat → Int64} {T : Nat → Int32} {n_row n_list : Nat} {a_row a_list : Nat → Int32} (hS : SpOK u num P T) (hL : LsOK n_row n_list a_list) : ∃ (ans : Int64) (dC dS : Nat), dC ≤ 8 ∧ dS ≤ 400000 ∧ (∀ MC MS, dC ≤ MC → dS ≤ MS → ∃ (u' : Int32) (num' : Int64) (n_row' : Nat) (a_row' : Nat → Int32) (n_list' : Nat) (a_list' : Nat → Int32) (P' : Nat → Int64) (T' : Nat → Int32), f_X11_share N MC MS v1 v3 u num n_row a_row n_list a_list P T = some (ans, u', num', n_row', a_row', n_list', a_list', P', T') ∧ SpOK u' num' P' T' ∧ (LsOK n_row' n_list' a_list' ∧ n_row ≤ n_row' ∧ n_list ≤ n_list') ∧ (if n_row' = n_row then 0 else 1) + (if n_list' = n_list then 0 else 1) = dC ∧ (n_row' - n_row) + (n_list' - n_list) = dS) ∧ ∀ pm arr, ∃ pm' arr', f_X12_share N v1 v3 pm arr = some (ans, pm', arr') := by
  have h40 : (2 : Nat) ^ 40 = 1099511627776 := by decide
  have z2 : ∀ a b : Nat, (0 : Nat) ≤ a ∧ 0 ≤ b := fun a b => ⟨Nat.zero_le _, Nat.zero_le _⟩
  have one : ¬ (1 : Int32) = 0 := by decide
  rcases isNum_f N v1 with ⟨n, n0, nb, rfl, i1, i2⟩ | ⟨i1, i2⟩
  · rcases with_f N v3 0 1 (by decide) (by decide) with ⟨k, -, hk, rfl, w1, w2⟩ | ⟨w1, w2⟩
    · have w1 : f_X11_within N (nI k) (0 : Int32) (1 : Int32) = some 1 := w1
      have w2 : f_X12_in N (nI k).toInt64 (0 : Int64) (1 : Int64) = some 1 := w2
      obtain ⟨eC, eS⟩ := c3_eq hL
      have hle := cC3_le n_row n_list
      obtain ⟨fC, fS⟩ := c3_diff hL
      have hsb := sg_le n0 nb
      have hsg : sg n < 2 ^ 63 := by omega
      have hsm : smK 0 n = lN (sg n) := by simp [smK]
      have hg0 : 0 < Nat.gcd (sg n) n := Nat.gcd_pos_of_pos_right _ n0
      have hgb : Nat.gcd (sg n) n ≤ n := Nat.gcd_le_right _ n0
      refine ⟨if k = 0 then lN (sg n) / lN (Nat.gcd (sg n) n) else lN n / lN (Nat.gcd (sg n) n), cC3 n_row n_list, cS3 n_row n_list, by omega, by omega, fun MC MS h1 h2 => ?_, fun pm arr => ?_⟩
      · obtain ⟨ar, al, p1, p2⟩ := prep3 N (by omega) hL (Nat.le_refl _) (Nat.le_refl _) a_row
        obtain ⟨u', num', P', T', s1, s2⟩ := summed_f N (by omega) p2 hS n0 nb (show 0 ≤ 3 by decide)
        rw [hsm] at s1
        have s1 : f_X6_summed N (0 : Int32) (lN n) u num 9592 al P T = some (lN (sg n), u', num', P', T') := s1
        refine ⟨u', num', 50001, ar, 9592, al, P', T', ?_, s2, ⟨LsOK.done (n_row := 0) (n_list := 0) p2, hL.le⟩, fC, fS⟩
        have hb : 0 + cC3 n_row n_list ≤ MC ∧ 0 + cS3 n_row n_list ≤ MS := ⟨by omega, by omega⟩
        unfold f_X11_share
        rw [eC, eS, i1, if_pos (z2 MC MS), ob, if_neg one, if_pos (z2 MC MS), w1, ob, if_neg one, if_pos hb, p1, ob, if_pos hb, s1, ob, if_pos hb, commonPart_f N (by omega) hsg nb, ob, if_pos (M_le 1 (Nat.gcd (sg n) n) hg0 (by omega))]
        by_cases hk0 : k = 0
        · subst hk0
          rw [if_pos (show nI 0 = (0 : Int32) from rfl), if_neg (M_ne (Nat.gcd (sg n) n) 0 (by omega) (by omega) (by decide)), if_pos hb, if_pos rfl]
        · rw [if_neg (L_ne k 0 hk0 (by omega) (by decide)), if_neg (M_ne (Nat.gcd (sg n) n) 0 (by omega) (by omega) (by decide)), if_pos hb, if_neg hk0]
      · obtain ⟨pm', arr', e⟩ := sumOf_f N hN (show 0 ≤ 3 by decide) n0 nb pm arr
        rw [hsm] at e
        have e : f_X12_sumOf N (0 : Int32) (lN n) pm arr = some (lN (sg n), pm', arr') := e
        refine ⟨pm', arr', ?_⟩
        unfold f_X12_share
        rw [i2, ob, if_neg one, w2, ob, if_neg one, e, ob, common_f N hN hsg nb, ob]
        by_cases hk0 : k = 0
        · subst hk0
          rw [if_pos (show nI 0 = (0 : Int32) from rfl), if_neg (M_ne (Nat.gcd (sg n) n) 0 (by omega) (by omega) (by decide)), if_pos rfl]
        · rw [if_neg (L_ne k 0 hk0 (by omega) (by decide)), if_neg (M_ne (Nat.gcd (sg n) n) 0 (by omega) (by omega) (by decide)), if_neg hk0]
    · have w1 : f_X11_within N v3 (0 : Int32) (1 : Int32) = some 0 := w1
      have w2 : f_X12_in N v3.toInt64 (0 : Int64) (1 : Int64) = some 0 := w2
      refine ⟨-1, 0, 0, by decide, by decide, fun MC MS _ _ => ⟨u, num, n_row, a_row, n_list, a_list, P, T, ?_, hS, ⟨hL, Nat.le_refl _, Nat.le_refl _⟩, by simp, by simp⟩, fun pm arr => ⟨pm, arr, ?_⟩⟩
      · unfold f_X11_share
        rw [i1, if_pos (z2 MC MS), ob, if_neg one, if_pos (z2 MC MS), w1, ob, if_pos rfl, if_pos (z2 MC MS)]
      · unfold f_X12_share
        rw [i2, ob, if_neg one, w2, ob, if_pos rfl]
  · refine ⟨-1, 0, 0, by decide, by decide, fun MC MS _ _ => ⟨u, num, n_row, a_row, n_list, a_list, P, T, ?_, hS, ⟨hL, Nat.le_refl _, Nat.le_refl _⟩, by simp, by simp⟩, fun pm arr => ⟨pm, arr, ?_⟩⟩
    · unfold f_X11_share
      rw [i1, if_pos (z2 MC MS), ob, if_pos rfl, if_pos (z2 MC MS)]
    · unfold f_X12_share
      rw [i2, ob, if_pos rfl]
