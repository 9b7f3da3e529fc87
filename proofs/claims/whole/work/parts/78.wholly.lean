/-! wholly, both sides -/
theorem pkA_cnt (p : Nat → Bool) : ∀ d n c, c + d < 2 ^ 31 → pkA p (-1) d n c = nI (c + (fb_ct p (n + d) - fb_ct p n))
  | 0, n, c, _ => by
    unfold pkA
    rw [if_pos rfl, Nat.add_zero, Nat.sub_self, Nat.add_zero]
  | d + 1, n, c, h => by
    unfold pkA
    have h1 := fb_ct_succ p n
    have h2 := fb_ct_mono p (show n + 1 ≤ n + 1 + d by omega)
    by_cases q : p n = true
    · rw [if_pos q, if_neg (nI_nem (by omega)), pkA_cnt p d (n + 1) (c + 1) (by omega)]
      rw [if_pos q] at h1
      rw [show n + (d + 1) = n + 1 + d by omega]
      congr 1
      omega
    · rw [if_neg q, pkA_cnt p d (n + 1) c (by omega)]
      rw [if_neg q] at h1
      rw [show n + (d + 1) = n + 1 + d by omega]
      congr 1
      omega
theorem pkA_idx (p : Nat → Bool) {j : Nat} (hj : j < 2 ^ 31) : ∀ d n c, c ≤ j → c + d < 2 ^ 31 → (∀ x, n ≤ x → x < n + d → p x = true → fb_ct p x = fb_ct p n + (j - c) → pkA p (nI j) d n c = nI x) ∧ (fb_ct p (n + d) ≤ fb_ct p n + (j - c) → pkA p (nI j) d n c = -4)
  | 0, n, c, _, _ => by
    refine ⟨fun x h1 h2 => by omega, fun _ => ?_⟩
    unfold pkA
    rw [if_neg (nI_nem hj)]
  | d + 1, n, c, hc, h => by
    have h1 := fb_ct_succ p n
    have h2 := fb_ct_mono p (show n + 1 ≤ n + 1 + d by omega)
    unfold pkA
    by_cases q : p n = true
    · rw [if_pos q] at h1 ⊢
      by_cases e : c = j
      · rw [if_pos (by rw [e])]
        refine ⟨fun x x1 x2 x3 x4 => ?_, fun w => ?_⟩
        · rw [fb_ct_kth_one x3 q (by omega)]
        · exfalso
          rw [show n + (d + 1) = n + 1 + d by omega] at w
          omega
      · rw [if_neg (L_ne c j e (by omega) hj)]
        obtain ⟨r1, r2⟩ := pkA_idx p hj d (n + 1) (c + 1) (by omega) (by omega)
        refine ⟨fun x x1 x2 x3 x4 => ?_, fun w => ?_⟩
        · refine r1 x ?_ (by omega) x3 (by omega)
          rcases Nat.eq_or_lt_of_le x1 with v | v
          · subst v; omega
          · exact v
        · refine r2 ?_
          rw [show n + (d + 1) = n + 1 + d by omega] at w
          omega
    · rw [if_neg q] at h1 ⊢
      obtain ⟨r1, r2⟩ := pkA_idx p hj d (n + 1) c hc (by omega)
      refine ⟨fun x x1 x2 x3 x4 => ?_, fun w => ?_⟩
      · refine r1 x ?_ (by omega) x3 (by omega)
        rcases Nat.eq_or_lt_of_le x1 with v | v
        · subst v; exact absurd x3 q
        · exact v
      · refine r2 ?_
        rw [show n + (d + 1) = n + 1 + d by omega] at w
        omega
theorem sgp_in {m x : Nat} (h : sgp m x = true) : 1 ≤ x ∧ x ≤ m ∧ sg x = m := by
  unfold sgp at h
  rw [Bool.and_eq_true, decide_eq_true_eq, decide_eq_true_eq] at h
  have := sg_n h.1
  exact ⟨h.1, by omega, h.2⟩
theorem sgp_far {m M : Nat} (h : m + 1 ≤ M) : fb_ct (sgp m) M = fb_ct (sgp m) (m + 1) := by
  obtain ⟨e, rfl⟩ := Nat.exists_eq_add_of_le h
  rw [fb_ct_split]
  have : fb_ct (fun k => sgp m (m + 1 + k)) e = 0 := fb_ct_zero.mpr (fun k _ => by
    have : ¬ sgp m (m + 1 + k) = true := fun w => by have := sgp_in w; omega
    simpa using this)
  omega
theorem sgp_0 (m : Nat) : fb_ct (sgp m) 1 = 0 := by
  rw [fb_ct_succ]
  rfl
/-- what wholly answers when the list is kept -/
theorem whAns (N : Nat) {m : Nat} (hm : m ≤ 1000000) {found : Nat → Int64} (h640 : fb_ct (sgp m) (m + 1) ≤ 640) {Y : Nat → Nat} (hY : ∀ k, k < fb_ct (sgp m) (m + 1) → found k = lN (Y k) ∧ sgp m (Y k) = true ∧ fb_ct (sgp m) (Y k) = k) {v : Int32} (hv : (-1 : Int32) ≤ v) : (v = -1 → f_X9_howMany N (nI (fb_ct (sgp m) (m + 1))) = some (pkA (sgp m) v ((m + 999) / 1000 * 1000) 1 0)) ∧ (¬ v = -1 → f_X9_numberAt N v (nI (fb_ct (sgp m) (m + 1))) found = some (pkA (sgp m) v ((m + 999) / 1000 * 1000) 1 0)) := by
  have hb : m ≤ (m + 999) / 1000 * 1000 ∧ (m + 999) / 1000 * 1000 ≤ 1001000 := by omega
  generalize (m + 999) / 1000 * 1000 = b at *
  have hfar : fb_ct (sgp m) (1 + b) = fb_ct (sgp m) (m + 1) := by rw [Nat.add_comm]; exact sgp_far (by omega)
  refine ⟨fun e => ?_, fun e => ?_⟩
  · subst e
    unfold f_X9_howMany
    rw [pkA_cnt _ b 1 0 (by omega), hfar, sgp_0, Nat.zero_add, Nat.sub_zero]
  · rcases idx_of hv with w | ⟨j, hj, rfl⟩
    · exact absurd w e
    · obtain ⟨r1, r2⟩ := pkA_idx (sgp m) hj b 1 0 (Nat.zero_le _) (by omega)
      unfold f_X9_numberAt
      rw [if_neg (nI_pos hj)]
      by_cases c : fb_ct (sgp m) (m + 1) ≤ j
      · rw [if_pos (L_le _ j c hj), r2 (by rw [hfar, sgp_0]; omega)]
      · rw [if_neg (L_nle (fb_ct (sgp m) (m + 1)) j (by omega) (by omega)), if_neg (L_nle 640 j (by omega) (by decide)), if_neg (L_in j 640 (by omega) hj), nI_clamp hj]
        obtain ⟨y1, y2, y3⟩ := hY j (by omega)
        obtain ⟨z1, z2, _⟩ := sgp_in y2
        rw [y1, lN_i, r1 (Y j) z1 (by omega) y2 (by rw [y3, sgp_0]; omega)]
theorem seek_f (N : Nat) (hN : 2 ^ 40 ≤ N) (hcnt : ∀ m, 1 ≤ m → m ≤ 1000000 → fb_ct (sgp m) (m + 1) ≤ 640) {al : Nat → Int32} (hT : PT 9592 al) {m : Nat} (hm0 : 1 ≤ m) (hm : m ≤ 1000000) {u : Int32} {num : Int64} {P : Nat → Int64} {T : Nat → Int32} (hS : SpOK u num P T) {pk : Int32} {pn : Int64} {parts : Nat → Int64} (hP : PaOK pk pn parts) {pw mn : Int32} {td : Int64} {found : Nat → Int64} (hW : WhOK pw mn td found) (ba po ps : Nat → Int64) : ∃ (u' : Int32) (num' : Int64) (pk' : Int32) (pn' : Int64) (pw' : Int32) (P' : Nat → Int64) (T' : Nat → Int32) (parts' ba' po' ps' found' : Nat → Int64) (Y : Nat → Nat), f_X9_seek N (lN m) u num pk pn pw mn td 9592 al P T parts ba po ps found = some (u', num', pk', pn', pw', nI (fb_ct (sgp m) (m + 1)), lN m, P', T', parts', ba', po', ps', found') ∧ SpOK u' num' P' T' ∧ PaOK pk' pn' parts' ∧ ∀ k, k < fb_ct (sgp m) (m + 1) → found' k = lN (Y k) ∧ sgp m (Y k) = true ∧ fb_ct (sgp m) (Y k) = k := by
  have h40 : (2 : Nat) ^ 40 = 1099511627776 := by decide
  have h20 : (2 : Nat) ^ 20 = 1048576 := by decide
  have h640 := hcnt m hm0 hm
  unfold f_X9_seek
  by_cases c : lN m = td
  · rw [if_pos c]
    rcases hW with h | ⟨m2, a1, a2, a3, a4, a5, Y, a6⟩
    · rw [h] at c
      exact absurd c (M_ne m 0 (by omega) (by omega) (by decide))
    · have : m = m2 := (pk_lEQ (by omega) (by omega)).mp (c.trans a3)
      subst this
      rw [a4, a3]
      exact ⟨u, num, pk, pn, pw, P, T, parts, ba, po, ps, found, Y, rfl, hS, hP, a6⟩
  · rw [if_neg c]
    obtain ⟨u', num', pk', pn', c1, P', T', parts', ba1, po1, ps1, B, E, k1, k2, k3, k4, k5, k6⟩ := keepPrimes_f N hN hT hm0 hm hS hP ba po ps
    rw [k1, ob]
    simp only
    obtain ⟨c2, B2, E2, ba2, po2, ps2, l1, l2, l3, l4⟩ := keepPowers_f N hN hT hm0 hm k4 k5 k6
    rw [l1, ob]
    simp only
    -- the last stretch: join, then order
    have fin : ∀ (n0 : Nat) (X0 : Nat → Nat) (fo0 : Nat → Int64), FoR n0 X0 fo0 → (∀ x, cnE X0 n0 x + Tj B2 E2 x c2 0 m 1 = if sgp m x = true then 1 else 0) → ∃ (found' : Nat → Int64) (Y : Nat → Nat), j_X9_seek_46 N (lN m) u' num' pk' pn' (nI c2) (nI n0) (lN m) P' T' parts' ba2 po2 ps2 fo0 = some (u', num', pk', pn', nI c2, nI (fb_ct (sgp m) (m + 1)), lN m, P', T', parts', ba2, po2, ps2, found') ∧ ∀ k, k < fb_ct (sgp m) (m + 1) → found' k = lN (Y k) ∧ sgp m (Y k) = true ∧ fb_ct (sgp m) (Y k) = k := by
      intro n0 X0 fo0 hF hx
      obtain ⟨n1, X1, fo1, j1, j2, j3⟩ := join_f N hN hm0 hm l2 l3 h640 14 0 m 1 0 n0 X0 fo0 (by omega) (Nat.zero_le _) hm0 (Nat.le_refl 1) (by omega) (by omega) (fun _ => rfl) hF (fun x => by rw [Nat.sub_zero]; rw [hx x]; exact Nat.le_refl _)
      have hx1 : ∀ x, cnE X1 n1 x = if sgp m x = true then 1 else 0 := fun x => by
        have := j3 x
        rw [Nat.sub_zero, hx x] at this
        exact this
      have hn1 : n1 ≤ 640 := Nat.le_trans (few_le hm0 (fun x => by rw [hx1 x]; exact Nat.le_refl _)) h640
      obtain ⟨A', Y, o1, o2, o3⟩ := order_f N (by omega) hn1 (show 640 < 2 ^ 20 by decide) j2
      have hY1 : ∀ x, cnE Y n1 x = if sgp m x = true then 1 else 0 := fun x => by rw [o2.2 x, hx1 x]
      obtain ⟨s1, s2⟩ := sorted_rk hY1 o3
      have hn : fb_ct (sgp m) (m + 1) = n1 := s2 (m + 1) (fun x hxx => by have := sgp_in hxx; omega)
      unfold j_X9_seek_46
      have j1 : f_X9_join N 14 (lN m) (1 : Int64) (0 : Int32) (0 : Int32) (nI c2) (nI n0) ba2 po2 ps2 fo0 = some (nI n1, fo1) := j1
      rw [j1, ob]
      simp only
      rw [o1, ob, hn]
      refine ⟨A', Y, rfl, fun k hk => ?_⟩
      exact ⟨(o2.1 k hk).1, (s1 k hk).1, (s1 k hk).2⟩
    by_cases c3 : m = 1
    · subst c3
      rw [if_pos (show lN 1 = (1 : Int64) from rfl)]
      have hc20 : c2 = 0 := by
        rcases Nat.eq_zero_or_pos c2 with w | w
        · exact w
        · exfalso
          obtain ⟨_, _, _, v1, v2, v3⟩ := l3.1 0 w
          have := Nat.le_of_dvd (by decide) v3
          have := (gs_3 v1.1 v2).1
          omega
      unfold f_X9_keepFound
      rw [if_neg (by decide), if_neg (by decide), xl, ob]
      simp only
      have hone : ∀ x, (if sgp 1 x = true then 1 else 0) = (if x = 1 then 1 else 0 : Nat) := by
        intro x
        by_cases w : x = 1
        · subst w
          rw [if_pos rfl, if_pos]
          unfold sgp
          rw [sg_1]; rfl
        · rw [if_neg w, if_neg]
          intro v
          obtain ⟨v1, v2, _⟩ := sgp_in v
          omega
      obtain ⟨f2, Y, g1, g5⟩ := fin 1 (fun _ => 1) (vp_updL found (0 : Int32).toNatClampNeg 1) (fun k hk => by
        have : k = 0 := by omega
        subst this
        exact ⟨pk_uLs, by decide⟩) (fun x => by
        subst hc20
        rw [hone x]
        show cnE (fun _ => 1) 1 x + 0 = _
        unfold cnE
        rw [fb_ct_succ]
        by_cases w : x = 1
        · subst w; rfl
        · rw [if_neg w, if_neg (by simp; exact fun v => w v.symm)]; rfl)
      exact ⟨u', num', pk', pn', nI c2, P', T', parts', ba2, po2, ps2, f2, Y, g1, k2, k3, g5⟩
    · rw [if_neg (M_ne m 1 c3 (by omega) (by decide))]
      obtain ⟨f2, Y, g1, g5⟩ := fin 0 (fun _ => 0) found (fun k hk => by omega) (fun x => by
        rw [Tj_top (by omega) l3 l4 x]
        show 0 + _ = _
        rw [Nat.zero_add])
      exact ⟨u', num', pk', pn', nI c2, P', T', parts', ba2, po2, ps2, f2, Y, g1, k2, k3, g5⟩
theorem whole_spec (hcnt : ∀ m, 1 ≤ m → m ≤ 1000000 → fb_ct (sgp m) (m + 1) ≤ 640) : WholeSpec := by
  unfold WholeSpec
  intro N hN v1 v2 u num pk pn pw mn td n_row a_row n_list a_list P T parts base power psum found hS hP hL hW
  have h40 : (2 : Nat) ^ 40 = 1099511627776 := by decide
  have h20 : (2 : Nat) ^ 20 = 1048576 := by decide
  have bad : (∀ MC MS, f_X11_wholly N MC MS v1 v2 u num pk pn pw mn td n_row a_row n_list a_list P T parts base power psum found = some (-1, u, num, pk, pn, pw, mn, td, n_row, a_row, n_list, a_list, P, T, parts, base, power, psum, found)) → (∀ ms, f_X12_wholly N v1 v2 ms = some (-1, ms)) → ∃ (ans : Int32) (dC dS : Nat), dC ≤ 8 ∧ dS ≤ 400000 ∧ (∀ MC MS, dC ≤ MC → dS ≤ MS → ∃ (u' : Int32) (num' : Int64) (pk' : Int32) (pn' : Int64) (pw' mn' : Int32) (td' : Int64) (n_row' : Nat) (a_row' : Nat → Int32) (n_list' : Nat) (a_list' : Nat → Int32) (P' : Nat → Int64) (T' : Nat → Int32) (parts' base' power' psum' found' : Nat → Int64), f_X11_wholly N MC MS v1 v2 u num pk pn pw mn td n_row a_row n_list a_list P T parts base power psum found = some (ans, u', num', pk', pn', pw', mn', td', n_row', a_row', n_list', a_list', P', T', parts', base', power', psum', found') ∧ SpOK u' num' P' T' ∧ PaOK pk' pn' parts' ∧ (LsOK n_row' n_list' a_list' ∧ n_row ≤ n_row' ∧ n_list ≤ n_list') ∧ WhOK pw' mn' td' found' ∧ (if n_row' = n_row then 0 else 1) + (if n_list' = n_list then 0 else 1) = dC ∧ (n_row' - n_row) + (n_list' - n_list) = dS) ∧ ∀ ms : Nat → Int64, ∃ ms', f_X12_wholly N v1 v2 ms = some (ans, ms') :=
    fun f1 f2 => ⟨-1, 0, 0, by decide, by decide, fun MC MS _ _ => ⟨u, num, pk, pn, pw, mn, td, n_row, a_row, n_list, a_list, P, T, parts, base, power, psum, found, f1 MC MS, hS, hP, ⟨hL, Nat.le_refl _, Nat.le_refl _⟩, hW, by simp, by simp⟩, fun ms => ⟨ms, f2 ms⟩⟩
  rcases with_f N v1 1 1000000 (by decide) (by decide) with ⟨m, m1, mb, rfl, w1, w2⟩ | ⟨w1, w2⟩
  · have w1 : f_X11_within N (nI m) (1 : Int32) (1000000 : Int32) = some 1 := w1
    have w2 : f_X12_in N (nI m).toInt64 (1 : Int64) (1000000 : Int64) = some 1 := w2
    by_cases hv : (-1 : Int32) ≤ v2
    · obtain ⟨eC, eS⟩ := c3_eq hL
      have hle := cC3_le n_row n_list
      obtain ⟨fC, fS⟩ := c3_diff hL
      refine ⟨pkA (sgp m) v2 ((m + 999) / 1000 * 1000) 1 0, cC3 n_row n_list, cS3 n_row n_list, by omega, by omega, fun MC MS h1 h2 => ?_, fun ms => ?_⟩
      · obtain ⟨ar, al, p1, p2⟩ := prep3 N (by omega) hL (Nat.le_refl _) (Nat.le_refl _) a_row
        obtain ⟨u', num', pk', pn', pw', P', T', parts', ba', po', ps', found', Y, s1, s2, s3, s4⟩ := seek_f N hN hcnt p2 m1 mb hS hP hW base power psum
        have hbu : 0 + cC3 n_row n_list ≤ MC ∧ 0 + cS3 n_row n_list ≤ MS := ⟨by omega, by omega⟩
        obtain ⟨a1, a2⟩ := whAns N mb (hcnt m m1 mb) s4 hv
        refine ⟨u', num', pk', pn', pw', nI (fb_ct (sgp m) (m + 1)), lN m, 50001, ar, 9592, al, P', T', parts', ba', po', ps', found', ?_, s2, s3, ⟨LsOK.done (n_row := 0) (n_list := 0) p2, hL.le⟩, Or.inr ⟨m, m1, mb, rfl, rfl, hcnt m m1 mb, Y, s4⟩, fC, fS⟩
        unfold f_X11_wholly
        rw [eC, eS, if_pos (z2 MC MS), w1, ob, if_neg one0, if_pos hv, if_pos hbu, p1, ob]
        simp only
        rw [if_pos hbu, nI_i64 (by omega), s1, ob]
        simp only
        by_cases q : v2 = -1
        · rw [if_pos q, if_pos hbu, a1 q, ob, if_pos hbu]
        · rw [if_neg q, if_pos hbu, a2 q, ob, if_pos hbu]
      · obtain ⟨s, e⟩ := mwhole_f N hN m1 mb hv ms
        refine ⟨s, ?_⟩
        unfold f_X12_wholly
        rw [w2, ob, if_neg one0, if_pos hv, e]
    · refine bad (fun MC MS => ?_) (fun ms => ?_)
      · unfold f_X11_wholly
        rw [if_pos (z2 MC MS), w1, ob, if_neg one0, if_neg hv, if_pos (z2 MC MS)]
      · unfold f_X12_wholly
        rw [w2, ob, if_neg one0, if_neg hv]
  · have w1 : f_X11_within N v1 (1 : Int32) (1000000 : Int32) = some 0 := w1
    have w2 : f_X12_in N v1.toInt64 (1 : Int64) (1000000 : Int64) = some 0 := w2
    refine bad (fun MC MS => ?_) (fun ms => ?_)
    · unfold f_X11_wholly
      rw [if_pos (z2 MC MS), w1, ob, if_pos rfl, if_pos (z2 MC MS)]
    · unfold f_X12_wholly
      rw [w2, ob, if_pos rfl]
