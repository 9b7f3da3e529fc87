/-! wished and holds -/
def cC8 (n_traits : Nat) : Nat := if n_traits = 0 then 1 else 0
def cS8 (n_traits : Nat) : Nat := if n_traits = 0 then 5001 else 0
theorem c8_eq {n_traits : Nat} {tr : Nat → Int32} (h : TrOK n_traits tr) : (if 0 < nI n_traits then 0 else 1 + (if nI 50001 = 0 then 1 else 0)) = cC8 n_traits ∧ (if 0 < nI n_traits then 0 else 5001 + (if nI 50001 = 0 then 50001 else 0)) = cS8 n_traits := by
  rcases h with h | ⟨h, _⟩ <;> subst h <;> decide
theorem c8_diff {n_traits : Nat} {tr : Nat → Int32} (h : TrOK n_traits tr) : (if 5001 = n_traits then 0 else 1) = cC8 n_traits ∧ 5001 - n_traits = cS8 n_traits := by
  rcases h with h | ⟨h, _⟩ <;> subst h <;> decide
theorem TrOK.le {n_traits : Nat} {tr : Nat → Int32} (h : TrOK n_traits tr) : n_traits ≤ 5001 := by rcases h with e | ⟨e, _⟩ <;> omega
theorem c8_le (n_traits : Nat) : cC8 n_traits ≤ 1 ∧ cS8 n_traits ≤ 5001 := by unfold cC8 cS8; split <;> omega
theorem prepT (N : Nat) (hN : 2 ^ 40 ≤ N) {u : Int32} {num : Int64} {P : Nat → Int64} {T : Nat → Int32} {pk : Int32} {pn : Int64} {parts : Nat → Int64} {n_row n_list n_all n_apart n_traits : Nat} {a_row a_list a_all a_apart tr : Nat → Int32} (hS : SpOK u num P T) (hP : PaOK pk pn parts) (hL : LsOK n_row n_list a_list) (hT : TbOK n_row n_all a_all n_apart a_apart) (hTr : TrOK n_traits tr) {MC MS : Nat} (h1 : cC3 n_row n_list + cC7 50001 n_all + cC8 n_traits ≤ MC) (h2 : cS3 n_row n_list + cS7 50001 n_all + cS8 n_traits ≤ MS) : ∃ (u' : Int32) (num' : Int64) (pk' : Int32) (pn' : Int64) (ar al : Nat → Int32) (P' : Nat → Int64) (T' : Nat → Int32) (parts' : Nat → Int64) (A B tr' : Nat → Int32), f_X11_prepareTraits N MC MS u num pk pn n_row a_row n_list a_list P T parts n_all a_all n_apart a_apart n_traits tr = some (u', num', pk', pn', 50001, ar, 9592, al, P', T', parts', 50001, A, 50001, B, 5001, tr') ∧ SpOK u' num' P' T' ∧ PaOK pk' pn' parts' ∧ PT 9592 al ∧ TT A B ∧ TrR tr' := by
  have h40 : (2 : Nat) ^ 40 = 1099511627776 := by decide
  have h20 : (2 : Nat) ^ 20 = 1048576 := by decide
  obtain ⟨eC, eS⟩ := c3_eq hL
  obtain ⟨gC, gS⟩ := c7_eq hT.row
  obtain ⟨tC, tS⟩ := c8_eq hTr
  obtain ⟨ar, al, p1, p2⟩ := prep3 N (by omega) hL (Nat.le_refl _) (Nat.le_refl _) a_row
  obtain ⟨ar2, A, B, q1, q2⟩ := prep7 N (by omega) hT.row (Nat.le_refl _) (Nat.le_refl _) ar
  obtain ⟨u', num', pk', pn', a', P', T', parts', tr', r1, r2, r3, r4⟩ := prep8 N hN q2 p2 hS hP hTr (MC := cC8 n_traits) (MS := cS8 n_traits) (Nat.le_refl _) (Nat.le_refl _) ar2
  have hb1 : 0 + cC3 n_row n_list ≤ MC ∧ 0 + cS3 n_row n_list ≤ MS := ⟨by omega, by omega⟩
  have hb2 : 0 + cC3 n_row n_list + cC7 50001 n_all ≤ MC ∧ 0 + cS3 n_row n_list + cS7 50001 n_all ≤ MS := ⟨by omega, by omega⟩
  have hb3 : 0 + cC3 n_row n_list + cC7 50001 n_all + cC8 n_traits ≤ MC ∧ 0 + cS3 n_row n_list + cS7 50001 n_all + cS8 n_traits ≤ MS := ⟨by omega, by omega⟩
  refine ⟨u', num', pk', pn', a', al, P', T', parts', A, B, tr', ?_, r2, r3, p2, q2, r4⟩
  unfold f_X11_prepareTraits
  simp only [eC, eS, ob, if_pos hb1, p1, gC, gS, if_pos hb2, q1, tC, tS, if_pos hb3, r1]
theorem c378_diff {n_row n_list n_all n_apart n_traits : Nat} {a_list a_all a_apart tr : Nat → Int32} (hL : LsOK n_row n_list a_list) (hT : TbOK n_row n_all a_all n_apart a_apart) (hTr : TrOK n_traits tr) : (if 50001 = n_row then 0 else 1) + (if 9592 = n_list then 0 else 1) + (if 50001 = n_all then 0 else 1) + (if 50001 = n_apart then 0 else 1) + (if 5001 = n_traits then 0 else 1) = cC3 n_row n_list + cC7 50001 n_all + cC8 n_traits ∧ (50001 - n_row) + (9592 - n_list) + (50001 - n_all) + (50001 - n_apart) + (5001 - n_traits) = cS3 n_row n_list + cS7 50001 n_all + cS8 n_traits := by
  obtain ⟨a, b⟩ := c37_diff hL hT
  obtain ⟨c, d⟩ := c8_diff hTr
  omega
def wsh (bt : Nat → Nat) (len : Nat) (n : Nat) : Bool := ev (fun i => tix (bt i)) (se n) len 0 0 (fun _ => false)
theorem numAt_f (N : Nat) (hN : 2 ^ 40 ≤ N) {len b : Nat} (hl : len ≤ 60) (hb5 : b ≤ 5000) {tr : Nat → Int32} (hR : TrR tr) {ct : Nat → Int32} {bt : Nat → Nat} (hb : ∀ i, i < len → bt i < 256 ∧ ct i = tokI (bt i)) (hv : ft (fun i => tix (bt i)) len len 0 0 = -4) (i pw ps : Int32) : ∃ w s, f_X10_numberAt N (nI b) i (nI len) pw ps 5001 tr ct = some (pkA (fun n => wsh bt len n) i b 1 0, w, s) := by
  have h40 : (2 : Nat) ^ 40 = 1099511627776 := by decide
  unfold f_X10_numberAt f_X2_begin
  rw [ob]
  unfold l_X10_numberAt_10
  refine pick_g (fun n c z => z = (nI n, nI c)) (fun n => wsh bt len n) i b (fun r a => ∃ w s, r = some (a, w, s)) ?_ ?_ b 1 0 _ N (by omega) (by omega) (by omega) (by omega) rfl
  · rintro c z K hc rfl
    show ∃ w s, s_X10_numberAt_10 N (nI b) (nI len) i 5001 tr ct K (nI (b + 1)) (nI c) = _
    unfold s_X10_numberAt_10 j_X10_numberAt_41
    rw [if_pos (L_lt b (b + 1) (by omega) (by omega)), notFound_f, ob]
    exact ⟨_, _, rfl⟩
  · rintro n c z K h1 h2 h3 rfl
    have ea : f_X10_agrees N (nI n) (nI len) 5001 tr ct = some (bI (wsh bt len n)) := agrees_f N hl h1 (by omega) hR hb len 0 0 (fun _ => false) N (by omega) (by omega) (by omega) hv
    have e : s_X10_numberAt_10 N (nI b) (nI len) i 5001 tr ct K (nI n) (nI c) = (if wsh bt len n = true then (if nI c = i then some (nI n, i, nI (c + 1)) else K (nI (n + 1), nI (c + 1))) else K (nI (n + 1), nI c)) := by
      unfold s_X10_numberAt_10
      rw [if_neg (L_nlt b n h2 (by omega)), ea, ob, isNext_f, ob]
      simp only [xl, nI_1, ite01, bI_0]
      by_cases hr : wsh bt len n = true
      · simp [hr]
      · simp [hr]
    show (_ → (_ → ∃ w s, s_X10_numberAt_10 N (nI b) (nI len) i 5001 tr ct K (nI n) (nI c) = _) ∧ (_ → ∃ z', _ ∧ s_X10_numberAt_10 N (nI b) (nI len) i 5001 tr ct K (nI n) (nI c) = _)) ∧ (_ → ∃ z', _ ∧ s_X10_numberAt_10 N (nI b) (nI len) i 5001 tr ct K (nI n) (nI c) = _)
    rw [e]
    refine ⟨fun hp => ⟨fun hi => ?_, fun hi => ⟨_, rfl, ?_⟩⟩, fun hp => ⟨_, rfl, ?_⟩⟩
    · rw [if_pos hp, if_pos hi]; exact ⟨_, _, rfl⟩
    · rw [if_pos hp, if_neg hi]
    · rw [if_neg (by rw [hp]; decide)]
theorem mwish_f (N : Nat) (hN : 2 ^ 40 ≤ N) {len b : Nat} (hl : len ≤ 60) (hb5 : b ≤ 5000) {mt o hh t : Nat → Int32} (hM : MT 0 mt) (hF : FgR o hh t 5001) {mtx : Nat → Int32} {bt : Nat → Nat} (hb : ∀ i, i < len → bt i < 256 ∧ mtx i = nI (bt i)) (hv : ft (fun i => tix (bt i)) len len 0 0 = -4) {i : Int32} (hi1 : (-1 : Int32) ≤ i) (tk al : Int32) (bits : Nat → Int64) (pm un fr : Int32) (mp : Nat → Int64) (pile : Nat → Int32) : ∃ (pm' un' fr' : Int32) (mp' : Nat → Int64) (pile' : Nat → Int32), l_X12_wished_40 N (nI b) i (nI len) tk al mtx mt o hh t bits N ((0 : Int32), (1 : Int32), pm, un, fr, mp, pile) = some (pkA (fun n => wsh bt len n) i b 1 0, pm', tk, al, un', fr', mp', mt, o, hh, t, bits, pile') := by
  have h40 : (2 : Nat) ^ 40 = 1099511627776 := by decide
  unfold l_X12_wished_40
  refine pick_g (fun n c z => z.1 = nI c ∧ z.2.1 = nI n) (fun n => wsh bt len n) i b (fun r a => ∃ (pm' un' fr' : Int32) (mp' : Nat → Int64) (pile' : Nat → Int32), r = some (a, pm', tk, al, un', fr', mp', mt, o, hh, t, bits, pile')) ?_ ?_ b 1 0 _ N (by omega) (by omega) (by omega) (by omega) ⟨rfl, rfl⟩
  · rintro c ⟨y1, y2, y3, y4, y5, y6, y7⟩ K hc ⟨e1, e2⟩
    simp only at e1 e2
    subst e1
    subst e2
    show ∃ (pm' un' fr' : Int32) (mp' : Nat → Int64) (pile' : Nat → Int32), s_X12_wished_40 N (nI b) i (nI len) tk al mtx mt o hh t bits K (nI c) (nI (b + 1)) y3 y4 y5 y6 y7 = _
    unfold s_X12_wished_40 j_X12_wished_72
    rw [if_pos (L_lt b (b + 1) (by omega) (by omega))]
    by_cases hi : i = -1
    · rw [if_neg (fun q => (mend hi1).mp q hi), if_pos hi]; exact ⟨_, _, _, _, _, rfl⟩
    · rw [if_pos ((mend hi1).mpr hi), if_neg hi]; exact ⟨_, _, _, _, _, rfl⟩
  · rintro n c ⟨y1, y2, y3, y4, y5, y6, y7⟩ K h1 h2 h3 ⟨e1, e2⟩
    simp only at e1 e2
    subst e1
    subst e2
    obtain ⟨pm2, un2, fr2, mp2, pile2, ew⟩ := isW_f N hN hl h1 (show n ≤ 5000 by omega) hM hF hb len 0 0 (fun _ => false) N y3 y4 y5 y6 y7 (by omega) (by omega) (by omega) (fun i hi => by omega) hv
    have ew : f_X12_isWished N (nI n) (nI len) y3 y4 y5 mtx y6 mt o hh t y7 = some (bI (wsh bt len n), pm2, un2, fr2, mp2, pile2) := ew
    have e : s_X12_wished_40 N (nI b) i (nI len) tk al mtx mt o hh t bits K (nI c) (nI n) y3 y4 y5 y6 y7 = (if wsh bt len n = true then (if nI c = i then some (nI n, pm2, tk, al, un2, fr2, mp2, mt, o, hh, t, bits, pile2) else K (nI (c + 1), nI (n + 1), pm2, un2, fr2, mp2, pile2)) else K (nI c, nI (n + 1), pm2, un2, fr2, mp2, pile2)) := by
      unfold s_X12_wished_40
      rw [if_neg (L_nlt b n h2 (by omega)), ew, ob]
      simp only [xl, nI_1, bI_0]
      by_cases hr : wsh bt len n = true
      · simp [hr]
      · simp [hr]
    show (_ → (_ → ∃ (pm' un' fr' : Int32) (mp' : Nat → Int64) (pile' : Nat → Int32), s_X12_wished_40 N (nI b) i (nI len) tk al mtx mt o hh t bits K (nI c) (nI n) y3 y4 y5 y6 y7 = _) ∧ (_ → ∃ z', _ ∧ s_X12_wished_40 N (nI b) i (nI len) tk al mtx mt o hh t bits K (nI c) (nI n) y3 y4 y5 y6 y7 = _)) ∧ (_ → ∃ z', _ ∧ s_X12_wished_40 N (nI b) i (nI len) tk al mtx mt o hh t bits K (nI c) (nI n) y3 y4 y5 y6 y7 = _)
    rw [e]
    refine ⟨fun hp => ⟨fun hi => ?_, fun hi => ⟨(nI (c + 1), nI (n + 1), pm2, un2, fr2, mp2, pile2), ⟨rfl, rfl⟩, ?_⟩⟩, fun hp => ⟨(nI c, nI (n + 1), pm2, un2, fr2, mp2, pile2), ⟨rfl, rfl⟩, ?_⟩⟩
    · rw [if_pos hp, if_pos hi]; exact ⟨_, _, _, _, _, rfl⟩
    · rw [if_pos hp, if_neg hi]
    · rw [if_neg (by rw [hp]; decide)]
theorem wished_eq (N : Nat) (hN : 2 ^ 40 ≤ N) (v1 v2 pw ps : Int32) {wl ml : Int32} {ct mtx : Nat → Int32} (hX : TxOK wl ct ml mtx) {u : Int32} {num : Int64} {P : Nat → Int64} {T : Nat → Int32} {pk : Int32} {pn : Int64} {parts : Nat → Int64} {n_row n_list n_all n_apart n_traits : Nat} {a_row a_list a_all a_apart tr : Nat → Int32} (hS : SpOK u num P T) (hP : PaOK pk pn parts) (hL : LsOK n_row n_list a_list) (hT : TbOK n_row n_all a_all n_apart a_apart) (hTr : TrOK n_traits tr) : ∃ (ans : Int32) (dC dS : Nat), dC ≤ 8 ∧ dS ≤ 400000 ∧ (∀ MC MS, dC ≤ MC → dS ≤ MS → ∃ (u' : Int32) (num' : Int64) (pk' : Int32) (pn' : Int64) (w s : Int32) (n_row' : Nat) (a_row' : Nat → Int32) (n_list' : Nat) (a_list' : Nat → Int32) (P' : Nat → Int64) (T' : Nat → Int32) (parts' : Nat → Int64) (n_all' : Nat) (a_all' : Nat → Int32) (n_apart' : Nat) (a_apart' : Nat → Int32) (n_traits' : Nat) (tr' : Nat → Int32), f_X11_wished N MC MS v1 v2 u num pk pn wl pw ps n_row a_row n_list a_list P T parts n_all a_all n_apart a_apart n_traits tr ct = some (ans, u', num', pk', pn', w, s, n_row', a_row', n_list', a_list', P', T', parts', n_all', a_all', n_apart', a_apart', n_traits', tr') ∧ SpOK u' num' P' T' ∧ PaOK pk' pn' parts' ∧ LsOK n_row' n_list' a_list' ∧ TbOK n_row' n_all' a_all' n_apart' a_apart' ∧ TrOK n_traits' tr' ∧ (n_row ≤ n_row' ∧ n_list ≤ n_list' ∧ n_all ≤ n_all' ∧ n_apart ≤ n_apart' ∧ n_traits ≤ n_traits') ∧ (if n_row' = n_row then 0 else 1) + (if n_list' = n_list then 0 else 1) + (if n_all' = n_all then 0 else 1) + (if n_apart' = n_apart then 0 else 1) + (if n_traits' = n_traits then 0 else 1) = dC ∧ (n_row' - n_row) + (n_list' - n_list) + (n_all' - n_all) + (n_apart' - n_apart) + (n_traits' - n_traits) = dS) ∧ ∀ (pm tk al un fr : Int32) (mp : Nat → Int64) (mt o hh t : Nat → Int32) (bits : Nat → Int64) (pile : Nat → Int32), MtOK tk mt → FgOK al o hh t → ∃ (pm' tk' al' un' fr' : Int32) (mp' : Nat → Int64) (mt' o' hh' t' : Nat → Int32) (bits' : Nat → Int64) (pile' : Nat → Int32), f_X12_wished N v1 v2 ml pm tk al un fr mtx mp mt o hh t bits pile = some (ans, pm', tk', al', un', fr', mp', mt', o', hh', t', bits', pile') ∧ MtOK tk' mt' ∧ FgOK al' o' hh' t' := by
  have h40 : (2 : Nat) ^ 40 = 1099511627776 := by decide
  have keep : ∀ a : Int32, (∀ MC MS, f_X11_wished N MC MS v1 v2 u num pk pn wl pw ps n_row a_row n_list a_list P T parts n_all a_all n_apart a_apart n_traits tr ct = some (a, u, num, pk, pn, pw, ps, n_row, a_row, n_list, a_list, P, T, parts, n_all, a_all, n_apart, a_apart, n_traits, tr)) → (∀ (pm tk al un fr : Int32) (mp : Nat → Int64) (mt o hh t : Nat → Int32) (bits : Nat → Int64) (pile : Nat → Int32), f_X12_wished N v1 v2 ml pm tk al un fr mtx mp mt o hh t bits pile = some (a, pm, tk, al, un, fr, mp, mt, o, hh, t, bits, pile)) → (∃ (ans : Int32) (dC dS : Nat), dC ≤ 8 ∧ dS ≤ 400000 ∧ (∀ MC MS, dC ≤ MC → dS ≤ MS → ∃ (u' : Int32) (num' : Int64) (pk' : Int32) (pn' : Int64) (w s : Int32) (n_row' : Nat) (a_row' : Nat → Int32) (n_list' : Nat) (a_list' : Nat → Int32) (P' : Nat → Int64) (T' : Nat → Int32) (parts' : Nat → Int64) (n_all' : Nat) (a_all' : Nat → Int32) (n_apart' : Nat) (a_apart' : Nat → Int32) (n_traits' : Nat) (tr' : Nat → Int32), f_X11_wished N MC MS v1 v2 u num pk pn wl pw ps n_row a_row n_list a_list P T parts n_all a_all n_apart a_apart n_traits tr ct = some (ans, u', num', pk', pn', w, s, n_row', a_row', n_list', a_list', P', T', parts', n_all', a_all', n_apart', a_apart', n_traits', tr') ∧ SpOK u' num' P' T' ∧ PaOK pk' pn' parts' ∧ LsOK n_row' n_list' a_list' ∧ TbOK n_row' n_all' a_all' n_apart' a_apart' ∧ TrOK n_traits' tr' ∧ (n_row ≤ n_row' ∧ n_list ≤ n_list' ∧ n_all ≤ n_all' ∧ n_apart ≤ n_apart' ∧ n_traits ≤ n_traits') ∧ (if n_row' = n_row then 0 else 1) + (if n_list' = n_list then 0 else 1) + (if n_all' = n_all then 0 else 1) + (if n_apart' = n_apart then 0 else 1) + (if n_traits' = n_traits then 0 else 1) = dC ∧ (n_row' - n_row) + (n_list' - n_list) + (n_all' - n_all) + (n_apart' - n_apart) + (n_traits' - n_traits) = dS) ∧ ∀ (pm tk al un fr : Int32) (mp : Nat → Int64) (mt o hh t : Nat → Int32) (bits : Nat → Int64) (pile : Nat → Int32), MtOK tk mt → FgOK al o hh t → ∃ (pm' tk' al' un' fr' : Int32) (mp' : Nat → Int64) (mt' o' hh' t' : Nat → Int32) (bits' : Nat → Int64) (pile' : Nat → Int32), f_X12_wished N v1 v2 ml pm tk al un fr mtx mp mt o hh t bits pile = some (ans, pm', tk', al', un', fr', mp', mt', o', hh', t', bits', pile') ∧ MtOK tk' mt' ∧ FgOK al' o' hh' t') := fun a f1 f2 => ⟨a, 0, 0, by decide, by decide, fun MC MS _ _ => ⟨u, num, pk, pn, pw, ps, n_row, a_row, n_list, a_list, P, T, parts, n_all, a_all, n_apart, a_apart, n_traits, tr, f1 MC MS, hS, hP, hL, hT, hTr, ⟨Nat.le_refl _, Nat.le_refl _, Nat.le_refl _, Nat.le_refl _, Nat.le_refl _⟩, by simp, by simp⟩, fun pm tk al un fr mp mt o hh t bits pile hM hF => ⟨pm, tk, al, un, fr, mp, mt, o, hh, t, bits, pile, f2 pm tk al un fr mp mt o hh t bits pile, hM, hF⟩⟩
  rcases with_f N v1 1 5000 (by decide) (by decide) with ⟨b, b1, b5, rfl, w1, w2⟩ | ⟨w1, w2⟩
  · have w1 : f_X11_within N (nI b) (1 : Int32) (5000 : Int32) = some 1 := w1
    have w2 : f_X12_in N (nI b).toInt64 (1 : Int64) (5000 : Int64) = some 1 := w2
    by_cases hv : (-1 : Int32) ≤ v2
    · obtain ⟨fa, g1, g2⟩ := fault_eq N hN hX
      by_cases hf : fa = -4
      · subst hf
        obtain ⟨len, hl, rfl, rfl, bt, hb⟩ := hX
        have hft : ft (fun i => tix (bt i)) len len 0 0 = -4 := by
          have := fault_c N hl (fun i hi => ⟨(hb i hi).1, (hb i hi).2.1⟩) len 0 0 N (by omega) (by omega) (by omega)
          have this : f_X10_firstFault N (nI len) ct = some (ft (fun i => tix (bt i)) len len 0 0) := this
          rw [g1] at this
          exact (Option.some.inj this).symm
        have l3 := cC3_le n_row n_list
        have l7 := cC7_le 50001 n_all
        have l8 := c8_le n_traits
        obtain ⟨fC, fS⟩ := c378_diff hL hT hTr
        refine ⟨pkA (fun n => wsh bt len n) v2 b 1 0, cC3 n_row n_list + cC7 50001 n_all + cC8 n_traits, cS3 n_row n_list + cS7 50001 n_all + cS8 n_traits, by omega, by omega, fun MC MS h1 h2 => ?_, fun pm tk al un fr mp mt o hh t bits pile hM hF => ?_⟩
        · obtain ⟨u', num', pk', pn', ar, al, P', T', parts', A, B, tr', p1, p2, p3, p4, p5, p6⟩ := prepT N hN hS hP hL hT hTr (a_row := a_row) h1 h2
          obtain ⟨w, s, e⟩ := numAt_f N hN hl b5 p6 (fun i hi => ⟨(hb i hi).1, (hb i hi).2.1⟩) hft v2 pw ps
          have hb0 : 0 + MC ≤ MC ∧ 0 + MS ≤ MS := ⟨by omega, by omega⟩
          refine ⟨u', num', pk', pn', w, s, 50001, ar, 9592, al, P', T', parts', 50001, A, 50001, B, 5001, tr', ?_, p2, p3, LsOK.done (n_row := 0) (n_list := 0) p4, TbOK.done p5, Or.inr ⟨rfl, p6⟩, ⟨hL.le.1, hL.le.2, hT.le.2.1, hT.le.2.2, hTr.le⟩, fC, fS⟩
          unfold f_X11_wished
          simp only [w1, ob, if_neg one0, if_pos (z2 MC MS), if_pos hv, g1, if_true, if_pos hb0, p1, e]
        · obtain ⟨pm', mp', mt', o', h', t', bits', q1, q2, q3⟩ := layFlags_f N hN (pm := pm) (mp := mp) (bits := bits) hM hF
          obtain ⟨pm2, un2, fr2, mp2, pile2, e⟩ := mwish_f N hN hl b5 q2 q3 (fun i hi => ⟨(hb i hi).1, (hb i hi).2.2⟩) hft hv (nI 0) 1 bits' pm' un fr mp' pile
          refine ⟨pm2, nI 0, 1, un2, fr2, mp2, mt', o', h', t', bits', pile2, ?_, MtOK.done (by decide) q2, Or.inr ⟨rfl, q3⟩⟩
          unfold f_X12_wished
          simp only [w2, ob, if_neg one0, if_pos hv, g2, if_true, q1, e]
      · refine keep (-2) (fun MC MS => ?_) (fun pm tk al un fr mp mt o hh t bits pile => ?_)
        · unfold f_X11_wished
          simp only [w1, ob, if_neg one0, if_pos (z2 MC MS), if_pos hv, g1, if_neg hf]
        · unfold f_X12_wished
          simp only [w2, ob, if_neg one0, if_pos hv, g2, if_neg hf]
    · refine keep (-1) (fun MC MS => ?_) (fun pm tk al un fr mp mt o hh t bits pile => ?_)
      · unfold f_X11_wished
        simp only [w1, ob, if_neg one0, if_pos (z2 MC MS), if_neg hv]
      · unfold f_X12_wished
        simp only [w2, ob, if_neg one0, if_neg hv]
  · have w1 : f_X11_within N v1 (1 : Int32) (5000 : Int32) = some 0 := w1
    have w2 : f_X12_in N v1.toInt64 (1 : Int64) (5000 : Int64) = some 0 := w2
    refine keep (-1) (fun MC MS => ?_) (fun pm tk al un fr mp mt o hh t bits pile => ?_)
    · unfold f_X11_wished
      simp only [w1, ob, if_pos (z2 MC MS), if_true]
    · unfold f_X12_wished
      simp only [w2, ob, if_true]
theorem holds_eq (N : Nat) (hN : 2 ^ 40 ≤ N) (v1 : Int32) {wl ml : Int32} {ct mtx : Nat → Int32} (hX : TxOK wl ct ml mtx) {u : Int32} {num : Int64} {P : Nat → Int64} {T : Nat → Int32} {pk : Int32} {pn : Int64} {parts : Nat → Int64} {n_row n_list n_all n_apart n_traits : Nat} {a_row a_list a_all a_apart tr : Nat → Int32} (hS : SpOK u num P T) (hP : PaOK pk pn parts) (hL : LsOK n_row n_list a_list) (hT : TbOK n_row n_all a_all n_apart a_apart) (hTr : TrOK n_traits tr) : ∃ (ans : Int32) (dC dS : Nat), dC ≤ 8 ∧ dS ≤ 400000 ∧ (∀ MC MS, dC ≤ MC → dS ≤ MS → ∃ (u' : Int32) (num' : Int64) (pk' : Int32) (pn' : Int64) (n_row' : Nat) (a_row' : Nat → Int32) (n_list' : Nat) (a_list' : Nat → Int32) (P' : Nat → Int64) (T' : Nat → Int32) (parts' : Nat → Int64) (n_all' : Nat) (a_all' : Nat → Int32) (n_apart' : Nat) (a_apart' : Nat → Int32) (n_traits' : Nat) (tr' : Nat → Int32), f_X11_holds N MC MS v1 u num pk pn wl n_row a_row n_list a_list P T parts n_all a_all n_apart a_apart n_traits tr ct = some (ans, u', num', pk', pn', n_row', a_row', n_list', a_list', P', T', parts', n_all', a_all', n_apart', a_apart', n_traits', tr') ∧ SpOK u' num' P' T' ∧ PaOK pk' pn' parts' ∧ LsOK n_row' n_list' a_list' ∧ TbOK n_row' n_all' a_all' n_apart' a_apart' ∧ TrOK n_traits' tr' ∧ (n_row ≤ n_row' ∧ n_list ≤ n_list' ∧ n_all ≤ n_all' ∧ n_apart ≤ n_apart' ∧ n_traits ≤ n_traits') ∧ (if n_row' = n_row then 0 else 1) + (if n_list' = n_list then 0 else 1) + (if n_all' = n_all then 0 else 1) + (if n_apart' = n_apart then 0 else 1) + (if n_traits' = n_traits then 0 else 1) = dC ∧ (n_row' - n_row) + (n_list' - n_list) + (n_all' - n_all) + (n_apart' - n_apart) + (n_traits' - n_traits) = dS) ∧ ∀ (pm tk al un fr : Int32) (mp : Nat → Int64) (mt o hh t : Nat → Int32) (bits : Nat → Int64) (pile : Nat → Int32), MtOK tk mt → FgOK al o hh t → ∃ (pm' tk' al' un' fr' : Int32) (mp' : Nat → Int64) (mt' o' hh' t' : Nat → Int32) (bits' : Nat → Int64) (pile' : Nat → Int32), f_X12_holds N v1 ml pm tk al un fr mtx mp mt o hh t bits pile = some (ans, pm', tk', al', un', fr', mp', mt', o', hh', t', bits', pile') ∧ MtOK tk' mt' ∧ FgOK al' o' hh' t' := by
  have h40 : (2 : Nat) ^ 40 = 1099511627776 := by decide
  have keep : ∀ a : Int32, (∀ MC MS, f_X11_holds N MC MS v1 u num pk pn wl n_row a_row n_list a_list P T parts n_all a_all n_apart a_apart n_traits tr ct = some (a, u, num, pk, pn, n_row, a_row, n_list, a_list, P, T, parts, n_all, a_all, n_apart, a_apart, n_traits, tr)) → (∀ (pm tk al un fr : Int32) (mp : Nat → Int64) (mt o hh t : Nat → Int32) (bits : Nat → Int64) (pile : Nat → Int32), f_X12_holds N v1 ml pm tk al un fr mtx mp mt o hh t bits pile = some (a, pm, tk, al, un, fr, mp, mt, o, hh, t, bits, pile)) → (∃ (ans : Int32) (dC dS : Nat), dC ≤ 8 ∧ dS ≤ 400000 ∧ (∀ MC MS, dC ≤ MC → dS ≤ MS → ∃ (u' : Int32) (num' : Int64) (pk' : Int32) (pn' : Int64) (n_row' : Nat) (a_row' : Nat → Int32) (n_list' : Nat) (a_list' : Nat → Int32) (P' : Nat → Int64) (T' : Nat → Int32) (parts' : Nat → Int64) (n_all' : Nat) (a_all' : Nat → Int32) (n_apart' : Nat) (a_apart' : Nat → Int32) (n_traits' : Nat) (tr' : Nat → Int32), f_X11_holds N MC MS v1 u num pk pn wl n_row a_row n_list a_list P T parts n_all a_all n_apart a_apart n_traits tr ct = some (ans, u', num', pk', pn', n_row', a_row', n_list', a_list', P', T', parts', n_all', a_all', n_apart', a_apart', n_traits', tr') ∧ SpOK u' num' P' T' ∧ PaOK pk' pn' parts' ∧ LsOK n_row' n_list' a_list' ∧ TbOK n_row' n_all' a_all' n_apart' a_apart' ∧ TrOK n_traits' tr' ∧ (n_row ≤ n_row' ∧ n_list ≤ n_list' ∧ n_all ≤ n_all' ∧ n_apart ≤ n_apart' ∧ n_traits ≤ n_traits') ∧ (if n_row' = n_row then 0 else 1) + (if n_list' = n_list then 0 else 1) + (if n_all' = n_all then 0 else 1) + (if n_apart' = n_apart then 0 else 1) + (if n_traits' = n_traits then 0 else 1) = dC ∧ (n_row' - n_row) + (n_list' - n_list) + (n_all' - n_all) + (n_apart' - n_apart) + (n_traits' - n_traits) = dS) ∧ ∀ (pm tk al un fr : Int32) (mp : Nat → Int64) (mt o hh t : Nat → Int32) (bits : Nat → Int64) (pile : Nat → Int32), MtOK tk mt → FgOK al o hh t → ∃ (pm' tk' al' un' fr' : Int32) (mp' : Nat → Int64) (mt' o' hh' t' : Nat → Int32) (bits' : Nat → Int64) (pile' : Nat → Int32), f_X12_holds N v1 ml pm tk al un fr mtx mp mt o hh t bits pile = some (ans, pm', tk', al', un', fr', mp', mt', o', hh', t', bits', pile') ∧ MtOK tk' mt' ∧ FgOK al' o' hh' t') := fun a f1 f2 => ⟨a, 0, 0, by decide, by decide, fun MC MS _ _ => ⟨u, num, pk, pn, n_row, a_row, n_list, a_list, P, T, parts, n_all, a_all, n_apart, a_apart, n_traits, tr, f1 MC MS, hS, hP, hL, hT, hTr, ⟨Nat.le_refl _, Nat.le_refl _, Nat.le_refl _, Nat.le_refl _, Nat.le_refl _⟩, by simp, by simp⟩, fun pm tk al un fr mp mt o hh t bits pile hM hF => ⟨pm, tk, al, un, fr, mp, mt, o, hh, t, bits, pile, f2 pm tk al un fr mp mt o hh t bits pile, hM, hF⟩⟩
  rcases with_f N v1 1 5000 (by decide) (by decide) with ⟨b, b1, b5, rfl, w1, w2⟩ | ⟨w1, w2⟩
  · have w1 : f_X11_within N (nI b) (1 : Int32) (5000 : Int32) = some 1 := w1
    have w2 : f_X12_in N (nI b).toInt64 (1 : Int64) (5000 : Int64) = some 1 := w2
    obtain ⟨fa, g1, g2⟩ := fault_eq N hN hX
    by_cases hf : fa = -4
    · subst hf
      obtain ⟨len, hl, rfl, rfl, bt, hb⟩ := hX
      have hft : ft (fun i => tix (bt i)) len len 0 0 = -4 := by
        have := fault_c N hl (fun i hi => ⟨(hb i hi).1, (hb i hi).2.1⟩) len 0 0 N (by omega) (by omega) (by omega)
        have this : f_X10_firstFault N (nI len) ct = some (ft (fun i => tix (bt i)) len len 0 0) := this
        rw [g1] at this
        exact (Option.some.inj this).symm
      have l3 := cC3_le n_row n_list
      have l7 := cC7_le 50001 n_all
      have l8 := c8_le n_traits
      obtain ⟨fC, fS⟩ := c378_diff hL hT hTr
      refine ⟨bI (wsh bt len b), cC3 n_row n_list + cC7 50001 n_all + cC8 n_traits, cS3 n_row n_list + cS7 50001 n_all + cS8 n_traits, by omega, by omega, fun MC MS h1 h2 => ?_, fun pm tk al un fr mp mt o hh t bits pile hM hF => ?_⟩
      · obtain ⟨u', num', pk', pn', ar, al, P', T', parts', A, B, tr', p1, p2, p3, p4, p5, p6⟩ := prepT N hN hS hP hL hT hTr (a_row := a_row) h1 h2
        have e : f_X10_agrees N (nI b) (nI len) 5001 tr' ct = some (bI (wsh bt len b)) := agrees_f N hl b1 b5 p6 (fun i hi => ⟨(hb i hi).1, (hb i hi).2.1⟩) len 0 0 (fun _ => false) N (by omega) (by omega) (by omega) hft
        have hb0 : 0 + MC ≤ MC ∧ 0 + MS ≤ MS := ⟨by omega, by omega⟩
        refine ⟨u', num', pk', pn', 50001, ar, 9592, al, P', T', parts', 50001, A, 50001, B, 5001, tr', ?_, p2, p3, LsOK.done (n_row := 0) (n_list := 0) p4, TbOK.done p5, Or.inr ⟨rfl, p6⟩, ⟨hL.le.1, hL.le.2, hT.le.2.1, hT.le.2.2, hTr.le⟩, fC, fS⟩
        unfold f_X11_holds
        simp only [w1, ob, if_neg one0, if_pos (z2 MC MS), g1, if_true, if_pos hb0, p1, e]
        cases wsh bt len b
        · rw [if_pos (show bI false = 0 from rfl)]; rfl
        · rw [if_neg (by decide)]; rfl
      · obtain ⟨pm', mp', mt', o', h', t', bits', q1, q2, q3⟩ := layFlags_f N hN (pm := pm) (mp := mp) (bits := bits) hM hF
        obtain ⟨pm2, un2, fr2, mp2, pile2, e⟩ := isW_f N hN hl b1 b5 q2 q3 (fun i hi => ⟨(hb i hi).1, (hb i hi).2.2⟩) len 0 0 (fun _ => false) N pm' un fr mp' pile (by omega) (by omega) (by omega) (fun i hi => by omega) hft
        have e : f_X12_isWished N (nI b) (nI len) pm' un fr mtx mp' mt' o' h' t' pile = some (bI (wsh bt len b), pm2, un2, fr2, mp2, pile2) := e
        refine ⟨pm2, nI 0, 1, un2, fr2, mp2, mt', o', h', t', bits', pile2, ?_, MtOK.done (by decide) q2, Or.inr ⟨rfl, q3⟩⟩
        unfold f_X12_holds
        simp only [w2, ob, if_neg one0, g2, if_true, q1, e]
        cases wsh bt len b
        · rw [if_pos (show bI false = 0 from rfl)]; rfl
        · rw [if_neg (by decide)]; rfl
    · refine keep (-2) (fun MC MS => ?_) (fun pm tk al un fr mp mt o hh t bits pile => ?_)
      · unfold f_X11_holds
        simp only [w1, ob, if_neg one0, if_pos (z2 MC MS), g1, if_neg hf]
      · unfold f_X12_holds
        simp only [w2, ob, if_neg one0, g2, if_neg hf]
  · have w1 : f_X11_within N v1 (1 : Int32) (5000 : Int32) = some 0 := w1
    have w2 : f_X12_in N v1.toInt64 (1 : Int64) (5000 : Int64) = some 0 := w2
    refine keep (-1) (fun MC MS => ?_) (fun pm tk al un fr mp mt o hh t bits pile => ?_)
    · unfold f_X11_holds
      simp only [w1, ob, if_pos (z2 MC MS), if_true]
    · unfold f_X12_holds
      simp only [w2, ob, if_true]
