/-! chain and step: both sides give one answer -/
theorem ce_ok (k : Nat) : ∀ (f c : Nat) (T : Nat → Nat), c ≤ (ce k f c T).1 ∧ (ce k f c T).1 ≤ c + f ∧ (∀ i, i < c → (ce k f c T).2.1 i = T i) ∧ (((ce k f c T).2.2.1 = 0 ∧ (ce k f c T).2.2.2.1 = (ce k f c T).1) ∨ ((ce k f c T).2.2.1 = 2 ∧ (ce k f c T).2.2.2.1 = (ce k f c T).1) ∨ ((ce k f c T).2.2.1 = 1 ∧ (ce k f c T).2.2.2.1 < (ce k f c T).1 ∧ (ce k f c T).2.2.2.2 = (ce k f c T).1 - (ce k f c T).2.2.2.1))
  | 0, c, T => ⟨Nat.le_refl c, Nat.le_refl c, fun _ _ => rfl, Or.inr (Or.inl ⟨rfl, rfl⟩)⟩
  | f + 1, c, T => by
    rw [ce]
    generalize sv k (T (c - 1)) = x
    by_cases h0 : x = 0
    · rw [if_pos h0]; exact ⟨Nat.le_refl c, Nat.le_add_right c _, fun _ _ => rfl, Or.inl ⟨rfl, rfl⟩⟩
    · rw [if_neg h0]
      by_cases h1 : 10000000000 < x
      · rw [if_pos h1]; exact ⟨Nat.le_refl c, Nat.le_add_right c _, fun _ _ => rfl, Or.inr (Or.inl ⟨rfl, rfl⟩)⟩
      · rw [if_neg h1]
        by_cases h2 : ffst T x c < c
        · rw [if_pos h2]; exact ⟨Nat.le_refl c, Nat.le_add_right c _, fun _ _ => rfl, Or.inr (Or.inr ⟨rfl, h2, rfl⟩)⟩
        · rw [if_neg h2]
          obtain ⟨a1, a2, a3, a4⟩ := ce_ok k f (c + 1) (fun i => if i = c then x else T i)
          refine ⟨by omega, by omega, fun i hi => ?_, a4⟩
          rw [a3 i (by omega)]
          simp only [if_neg (Nat.ne_of_lt hi)]
theorem ce_b (k : Nat) : ∀ (f c : Nat) (T : Nat → Nat), (∀ i, i < c → T i ≤ 10000000000) → ∀ i, i < (ce k f c T).1 → (ce k f c T).2.1 i ≤ 10000000000
  | 0, c, T, h => h
  | f + 1, c, T, h => by
    rw [ce]
    generalize sv k (T (c - 1)) = x
    by_cases h0 : x = 0
    · rw [if_pos h0]; exact h
    · rw [if_neg h0]
      by_cases h1 : 10000000000 < x
      · rw [if_pos h1]; exact h
      · rw [if_neg h1]
        by_cases h2 : ffst T x c < c
        · rw [if_pos h2]; exact h
        · rw [if_neg h2]
          refine ce_b k f (c + 1) _ (fun i hi => ?_)
          by_cases e : i = c
          · simp only [if_pos e]; omega
          · simp only [if_neg e]; exact h i (by omega)
def cr (k n : Nat) : Nat × (Nat → Nat) × Nat × Nat × Nat := ce k 200 1 (fun _ => n)
def ChOK (many kind en tl rd : Int32) (gr : Int64) (a : Nat → Int64) : Prop := many = 0 ∨ ∃ k n, 1 ≤ k ∧ k ≤ 3 ∧ 0 < n ∧ n ≤ 10000000000 ∧ kind = nI k ∧ many = nI (cr k n).1 ∧ en = nI (cr k n).2.2.1 ∧ tl = nI (cr k n).2.2.2.1 ∧ rd = nI (cr k n).2.2.2.2 ∧ gr = lN (gm (cr k n).2.1 (cr k n).1) ∧ ∀ i, i < (cr k n).1 → a i = lN ((cr k n).2.1 i)
theorem follow_f (N : Nat) (hN : 2 ^ 40 ≤ N) {a_list : Nat → Int32} {n_list : Nat} (hPT : PT n_list a_list) {k n : Nat} (hk1 : 1 ≤ k) (hk3 : k ≤ 3) (h0 : 0 < n) (hn : n ≤ 10000000000) {u : Int32} {num : Int64} {P : Nat → Int64} {Q : Nat → Int32} (hS : SpOK u num P Q) {many kind en tl rd : Int32} {gr : Int64} {a : Nat → Int64} (hC : ChOK many kind en tl rd gr a) : ∃ (u' : Int32) (num' : Int64) (P' : Nat → Int64) (Q' : Nat → Int32) (a' : Nat → Int64), f_X0_follow N (nI k) (lN n) u num many kind en tl rd gr n_list a_list P Q a = some (u', num', nI (cr k n).1, nI k, nI (cr k n).2.2.1, nI (cr k n).2.2.2.1, nI (cr k n).2.2.2.2, lN (gm (cr k n).2.1 (cr k n).1), P', Q', a') ∧ SpOK u' num' P' Q' ∧ ∀ i, i < (cr k n).1 → a' i = lN ((cr k n).2.1 i) := by
  have h40 : (2 : Nat) ^ 40 = 1099511627776 := by decide
  have hg : gm (fun _ => n) 1 = n := by simp [gm]
  have go : ∀ en tl : Int32, ∃ (u' : Int32) (num' : Int64) (P' : Nat → Int64) (Q' : Nat → Int32) (a' : Nat → Int64), j_X0_follow_27 N (nI k) (lN n) u num en tl n_list a_list P Q a = some (u', num', nI (cr k n).1, nI k, nI (cr k n).2.2.1, nI (cr k n).2.2.2.1, nI (cr k n).2.2.2.2, lN (gm (cr k n).2.1 (cr k n).1), P', Q', a') ∧ SpOK u' num' P' Q' ∧ ∀ i, i < (cr k n).1 → a' i = lN ((cr k n).2.1 i) := by
    intro en tl
    unfold j_X0_follow_27
    rw [if_neg (L_in 0 201 (by decide) (by decide))]
    have h := follow_l N hN hPT hk1 hk3 200 N 1 (fun _ => n) (vp_updL a 0 (lN n)) u num P Q en tl rfl (Nat.le_refl 1) (fun i hi => ⟨by rw [show i = 0 by omega]; exact pk_uLs, h0, hn⟩) hS (by omega)
    rw [hg] at h
    exact h
  unfold f_X0_follow
  by_cases hk : nI k = kind
  · rw [if_pos hk]
    rcases hC with rfl | ⟨k2, n2, a1, a2, a3, a4, rfl, rfl, rfl, rfl, rfl, rfl, hv⟩
    · rw [if_pos (show (0 : Int32) ≤ 0 by decide)]; exact go en tl
    · have : k = k2 := (nI_eq (by omega) (by omega)).mp hk
      subst this
      obtain ⟨b1, b2, b3, -⟩ := ce_ok k 200 1 (fun _ => n2)
      have c1 : 1 ≤ (cr k n2).1 := b1
      have c2 : (cr k n2).1 ≤ 201 := b2
      rw [if_neg (L_nle (cr k n2).1 0 (by omega) (by omega)), if_neg (L_in 0 201 (by decide) (by decide))]
      by_cases he : a (0 : Int32).toNatClampNeg = lN n
      · rw [if_pos he]
        have e0 : a 0 = lN n2 := by rw [hv 0 c1]; exact congrArg lN (b3 0 (by decide))
        have : n2 = n := (pk_lEQ (by omega) (by omega)).mp (e0.symm.trans he)
        subst this
        exact ⟨u, num, P, Q, a, rfl, hS, hv⟩
      · rw [if_neg he]; exact go _ _
  · rw [if_neg hk]; exact go en tl
theorem layChain_f (N : Nat) (hN : 2 ^ 40 ≤ N) {k n : Nat} (hk1 : 1 ≤ k) (hk3 : k ≤ 3) (h0 : 0 < n) (hn : n ≤ 10000000000) (pm tm ft tl rd : Int32) (mp a : Nat → Int64) : ∃ (pm' : Int32) (mp' a' : Nat → Int64), f_X12_layChain N (nI k) (lN n) pm tm ft tl rd mp a = some (pm', nI (cr k n).1, nI (cr k n).2.2.1, nI (cr k n).2.2.2.1, nI (cr k n).2.2.2.2, mp', a') ∧ ∀ i, i < (cr k n).1 → a' i = lN ((cr k n).2.1 i) := by
  have h40 : (2 : Nat) ^ 40 = 1099511627776 := by decide
  unfold f_X12_layChain
  rw [if_neg (L_in 0 201 (by decide) (by decide))]
  exact layChain_l N hN hk1 hk3 200 N 1 (fun _ => n) (vp_updL a 0 (lN n)) mp pm tl rfl (Nat.le_refl 1) (fun i hi => ⟨by rw [show i = 0 by omega]; exact pk_uLs, h0, hn⟩) (fun i j h1 h2 => by omega) (by omega)
theorem mmax_l (N : Nat) (pm ft tl rd : Int32) (mp a : Nat → Int64) {c : Nat} {T : Nat → Nat} (hc : c ≤ 201) (hv : ∀ i, i < c → a i = lN (T i) ∧ T i ≤ 10000000000) : ∀ (d n j : Nat), j + d = c → d < n → l_X12_chain_87 N pm (nI c) ft tl rd mp a n (lN (gm T j), nI j) = some (lN (gm T c), pm, nI c, ft, tl, rd, mp, a) := by
  intro d
  induction d with
  | zero =>
    intro n j h1 h2
    obtain ⟨n, rfl⟩ : ∃ z, n = z + 1 := ⟨n - 1, by omega⟩
    show s_X12_chain_87 N pm (nI c) ft tl rd mp a (l_X12_chain_87 N pm (nI c) ft tl rd mp a n) (lN (gm T j)) (nI j) = _
    unfold s_X12_chain_87
    rw [if_pos (L_le c j (by omega) (by omega)), show j = c by omega]
  | succ d ih =>
    intro n j h1 h2
    obtain ⟨n, rfl⟩ : ∃ z, n = z + 1 := ⟨n - 1, by omega⟩
    show s_X12_chain_87 N pm (nI c) ft tl rd mp a (l_X12_chain_87 N pm (nI c) ft tl rd mp a n) (lN (gm T j)) (nI j) = _
    unfold s_X12_chain_87
    have hb := gm_b (T := T) j (fun i hi => (hv i (by omega)).2)
    have hj := hv j (by omega)
    have ih2 := ih n (j + 1) (by omega) (by omega)
    rw [if_neg (L_nle c j (by omega) (by omega)), if_neg (L_in j 201 (by omega) (by omega)), nI_clamp (by omega), hj.1]
    simp only [xl]
    rw [show nI j + (1 : Int32) = nI (j + 1) from nI_1 j]
    by_cases h : T j ≤ gm T j
    · rw [if_pos (M_le (T j) (gm T j) h (by omega))]
      have e : gm T (j + 1) = gm T j := by rw [gm]; split <;> omega
      rw [e] at ih2
      exact ih2
    · rw [if_neg (M_nle (T j) (gm T j) (by omega) (by omega))]
      have e : gm T (j + 1) = T j := by rw [gm, if_neg (by omega)]
      rw [e] at ih2
      exact ih2
def stA (c : Nat) (T : Nat → Nat) (fate tail rd j : Nat) : Int64 := if j < c then lN (T j) else if fate = 1 then lN (T (tail + (j - tail) % rd)) else if fate = 0 ∧ j = c then 0 else -4
theorem numAt59 (N : Nat) {c j : Nat} {T : Nat → Nat} {a : Nat → Int64} (hc2 : c ≤ 201) (hv : ∀ i, i < c → a i = lN (T i)) (hj : j < 2 ^ 31) : j_X0_numberAt_59 N (nI j) (nI c) a = some (if j < c then lN (T j) else -4) := by
  unfold j_X0_numberAt_59
  rw [if_neg (nI_pos hj)]
  by_cases h : j < c
  · rw [if_neg (L_nle c j h (by omega)), if_neg (L_nle 201 j (by omega) (by decide)), if_neg (L_in j 201 (by omega) hj), nI_clamp hj, hv j h, if_pos h]
  · rw [if_pos (L_le c j (by omega) hj), if_neg h]
theorem numberAt_f (N : Nat) {c fate tail rd j : Nat} {T : Nat → Nat} {a : Nat → Int64} (hc1 : 1 ≤ c) (hc2 : c ≤ 201) (hv : ∀ i, i < c → a i = lN (T i)) (hj : j < 2 ^ 31) (hR : (fate = 0 ∧ tail = c) ∨ (fate = 2 ∧ tail = c) ∨ (fate = 1 ∧ tail < c ∧ rd = c - tail)) : f_X0_numberAt N (nI j) (nI c) (nI fate) (nI tail) (nI rd) a = some (stA c T fate tail rd j) := by
  have h59 := fun j hj => numAt59 N (j := j) hc2 hv hj
  unfold f_X0_numberAt stA
  rcases hR with ⟨rfl, rfl⟩ | ⟨rfl, rfl⟩ | ⟨rfl, ht, rfl⟩
  · rw [if_neg (L_ne 0 1 (by decide) (by decide) (by decide))]
    unfold j_X0_numberAt_42
    rw [if_pos (show nI 0 = (0 : Int32) from rfl), h59 j hj]
    by_cases e : j = tail
    · subst e
      rw [if_pos rfl, if_neg (Nat.lt_irrefl j), if_neg (by decide), if_pos ⟨rfl, rfl⟩]
    · rw [if_neg (L_ne j tail e hj (by omega)), if_neg (show ¬ ((0 : Nat) = 1) by decide), if_neg (fun h : (0 : Nat) = 0 ∧ j = tail => e h.2)]
  · rw [if_neg (L_ne 2 1 (by decide) (by decide) (by decide))]
    unfold j_X0_numberAt_42
    rw [if_neg (L_ne 2 0 (by decide) (by decide) (by decide)), h59 j hj, if_neg (show ¬ ((2 : Nat) = 1) by decide), if_neg (fun h : (2 : Nat) = 0 ∧ j = tail => absurd h.1 (by decide))]
  · rw [if_pos (show nI 1 = (1 : Int32) from rfl)]
    have h42 : ∀ i, i < 2 ^ 31 → j_X0_numberAt_42 N (nI i) (nI c) (nI 1) (nI tail) a = some (if i < c then lN (T i) else -4) := by
      intro i hi
      unfold j_X0_numberAt_42
      rw [if_neg (L_ne 1 0 (by decide) (by decide) (by decide)), h59 i hi]
    by_cases h : j < tail
    · rw [if_pos (L_lt j tail h (by omega)), h42 j hj, if_pos (show j < c by omega), if_pos (show j < c by omega)]
    · have hm : (j - tail) % (c - tail) < c - tail := Nat.mod_lt _ (by omega)
      rw [if_neg (L_nlt j tail (by omega) hj), if_neg (L_nle (c - tail) 0 (by omega) (by omega)), if_neg (L_ne (c - tail) 0 (by omega) (by omega) (by decide))]
      simp only [xl]
      rw [pk_sub (show tail ≤ j by omega), pk_rem (show j - tail < 2 ^ 31 by omega) (by omega) (by omega), nI_add, h42 _ (by omega), if_pos (show tail + (j - tail) % (c - tail) < c by omega), if_pos trivial]
      by_cases e : j < c
      · rw [if_pos e, Nat.mod_eq_of_lt (show j - tail < c - tail by omega), show tail + (j - tail) = j by omega]
      · rw [if_neg e]
theorem chain_eq (N : Nat) (hN : 2 ^ 40 ≤ N) (v1 : Int32) (v2 : Int64) (v4 : Int32) {u : Int32} {num : Int64} {P : Nat → Int64} {T : Nat → Int32} {n_row n_list : Nat} {a_row a_list : Nat → Int32} {many kind en tl rd : Int32} {gr : Int64} {told : Nat → Int64} (hS : SpOK u num P T) (hL : LsOK n_row n_list a_list) (hC : ChOK many kind en tl rd gr told) : ∃ (ans : Int64) (dC dS : Nat), dC ≤ 8 ∧ dS ≤ 400000 ∧ (∀ MC MS, dC ≤ MC → dS ≤ MS → ∃ (u' : Int32) (num' : Int64) (many' kind' en' tl' rd' : Int32) (gr' : Int64) (n_row' : Nat) (a_row' : Nat → Int32) (n_list' : Nat) (a_list' : Nat → Int32) (P' : Nat → Int64) (T' : Nat → Int32) (told' : Nat → Int64), f_X11_chain N MC MS v1 v2 v4 u num many kind en tl rd gr n_row a_row n_list a_list P T told = some (ans, u', num', many', kind', en', tl', rd', gr', n_row', a_row', n_list', a_list', P', T', told') ∧ SpOK u' num' P' T' ∧ (LsOK n_row' n_list' a_list' ∧ n_row ≤ n_row' ∧ n_list ≤ n_list') ∧ ChOK many' kind' en' tl' rd' gr' told' ∧ (if n_row' = n_row then 0 else 1) + (if n_list' = n_list then 0 else 1) = dC ∧ (n_row' - n_row) + (n_list' - n_list) = dS) ∧ ∀ (pm tm ft tl2 rd2 : Int32) (mp mt : Nat → Int64), ∃ (pm' tm' ft' tl2' rd2' : Int32) (mp' mt' : Nat → Int64), f_X12_chain N v1 v2 v4 pm tm ft tl2 rd2 mp mt = some (ans, pm', tm', ft', tl2', rd2', mp', mt') := by
  have h40 : (2 : Nat) ^ 40 = 1099511627776 := by decide
  have z2 : ∀ a b : Nat, (0 : Nat) ≤ a ∧ 0 ≤ b := fun a b => ⟨Nat.zero_le _, Nat.zero_le _⟩
  have one : ¬ (1 : Int32) = 0 := by decide
  have bad : (∀ MC MS : Nat, f_X11_chain N MC MS v1 v2 v4 u num many kind en tl rd gr n_row a_row n_list a_list P T told = some (-1, u, num, many, kind, en, tl, rd, gr, n_row, a_row, n_list, a_list, P, T, told)) → (∀ (pm tm ft tl2 rd2 : Int32) (mp mt : Nat → Int64), f_X12_chain N v1 v2 v4 pm tm ft tl2 rd2 mp mt = some (-1, pm, tm, ft, tl2, rd2, mp, mt)) → ∃ (ans : Int64) (dC dS : Nat), dC ≤ 8 ∧ dS ≤ 400000 ∧ (∀ MC MS, dC ≤ MC → dS ≤ MS → ∃ (u' : Int32) (num' : Int64) (many' kind' en' tl' rd' : Int32) (gr' : Int64) (n_row' : Nat) (a_row' : Nat → Int32) (n_list' : Nat) (a_list' : Nat → Int32) (P' : Nat → Int64) (T' : Nat → Int32) (told' : Nat → Int64), f_X11_chain N MC MS v1 v2 v4 u num many kind en tl rd gr n_row a_row n_list a_list P T told = some (ans, u', num', many', kind', en', tl', rd', gr', n_row', a_row', n_list', a_list', P', T', told') ∧ SpOK u' num' P' T' ∧ (LsOK n_row' n_list' a_list' ∧ n_row ≤ n_row' ∧ n_list ≤ n_list') ∧ ChOK many' kind' en' tl' rd' gr' told' ∧ (if n_row' = n_row then 0 else 1) + (if n_list' = n_list then 0 else 1) = dC ∧ (n_row' - n_row) + (n_list' - n_list) = dS) ∧ ∀ (pm tm ft tl2 rd2 : Int32) (mp mt : Nat → Int64), ∃ (pm' tm' ft' tl2' rd2' : Int32) (mp' mt' : Nat → Int64), f_X12_chain N v1 v2 v4 pm tm ft tl2 rd2 mp mt = some (ans, pm', tm', ft', tl2', rd2', mp', mt') :=
    fun q1 q2 => ⟨-1, 0, 0, by decide, by decide, fun MC MS _ _ => ⟨u, num, many, kind, en, tl, rd, gr, n_row, a_row, n_list, a_list, P, T, told, q1 MC MS, hS, ⟨hL, Nat.le_refl _, Nat.le_refl _⟩, hC, by simp, by simp⟩, fun pm tm ft tl2 rd2 mp mt => ⟨pm, tm, ft, tl2, rd2, mp, mt, q2 pm tm ft tl2 rd2 mp mt⟩⟩
  rcases with_f N v1 1 3 (by decide) (by decide) with ⟨k, hk1, hk3, rfl, w1, w2⟩ | ⟨w1, w2⟩
  · have w1 : f_X11_within N (nI k) (1 : Int32) (3 : Int32) = some 1 := w1
    have w2 : f_X12_in N (nI k).toInt64 (1 : Int64) (3 : Int64) = some 1 := w2
    rcases isNum_f N v2 with ⟨n, n0, nb, rfl, i1, i2⟩ | ⟨i1, i2⟩
    · rcases with_f N v4 0 3 (by decide) (by decide) with ⟨w, -, hw, rfl, y1, y2⟩ | ⟨y1, y2⟩
      · have y1 : f_X11_within N (nI w) (0 : Int32) (3 : Int32) = some 1 := y1
        have y2 : f_X12_in N (nI w).toInt64 (0 : Int64) (3 : Int64) = some 1 := y2
        obtain ⟨eC, eS⟩ := c3_eq hL
        have hle := cC3_le n_row n_list
        obtain ⟨fC, fS⟩ := c3_diff hL
        obtain ⟨b1, b2, b3, b4⟩ := ce_ok k 200 1 (fun _ => n)
        have hb := ce_b k 200 1 (fun _ => n) (fun _ _ => nb)
        refine ⟨if w = 0 then (nI (cr k n).2.2.1).toInt64 else if w = 1 then (nI (cr k n).2.2.2.1).toInt64 else if w = 2 then (nI (cr k n).2.2.2.2).toInt64 else lN (gm (cr k n).2.1 (cr k n).1), cC3 n_row n_list, cS3 n_row n_list, by omega, by omega, fun MC MS h1 h2 => ?_, fun pm tm ft tl2 rd2 mp mt => ?_⟩
        · obtain ⟨ar, al, p1, p2⟩ := prep3 N (by omega) hL (Nat.le_refl _) (Nat.le_refl _) a_row
          obtain ⟨u', num', P', Q', a', s1, s2, s3⟩ := follow_f N hN p2 hk1 hk3 n0 nb hS hC
          refine ⟨u', num', _, _, _, _, _, _, 50001, ar, 9592, al, P', Q', a', ?_, s2, ⟨LsOK.done (n_row := 0) (n_list := 0) p2, hL.le⟩, Or.inr ⟨k, n, hk1, hk3, n0, nb, rfl, rfl, rfl, rfl, rfl, rfl, s3⟩, fC, fS⟩
          have hbu : 0 + cC3 n_row n_list ≤ MC ∧ 0 + cS3 n_row n_list ≤ MS := ⟨by omega, by omega⟩
          unfold f_X11_chain
          rw [eC, eS, w1, if_pos (z2 MC MS), ob, if_neg one, if_pos (z2 MC MS), i1, ob, if_neg one, if_pos (z2 MC MS), y1, ob, if_neg one, if_pos hbu, p1, ob, if_pos hbu, s1, ob]
          rcases (show w = 0 ∨ w = 1 ∨ w = 2 ∨ w = 3 by omega) with rfl | rfl | rfl | rfl
          · rw [if_pos (show nI 0 = (0 : Int32) from rfl), if_pos hbu, if_pos rfl]
          · rw [if_neg (L_ne 1 0 (by decide) (by decide) (by decide)), if_pos (show nI 1 = (1 : Int32) from rfl), if_pos hbu, if_neg (by decide), if_pos rfl]
          · rw [if_neg (L_ne 2 0 (by decide) (by decide) (by decide)), if_neg (L_ne 2 1 (by decide) (by decide) (by decide)), if_pos (show nI 2 = (2 : Int32) from rfl), if_pos hbu, if_neg (by decide), if_neg (by decide), if_pos rfl]
          · rw [if_neg (L_ne 3 0 (by decide) (by decide) (by decide)), if_neg (L_ne 3 1 (by decide) (by decide) (by decide)), if_neg (L_ne 3 2 (by decide) (by decide) (by decide)), if_pos hbu, if_neg (by decide), if_neg (by decide), if_neg (by decide)]
        · obtain ⟨pm', mp', a', s1, s2⟩ := layChain_f N hN hk1 hk3 n0 nb pm tm ft tl2 rd2 mp mt
          refine ⟨pm', nI (cr k n).1, nI (cr k n).2.2.1, nI (cr k n).2.2.2.1, nI (cr k n).2.2.2.2, mp', a', ?_⟩
          unfold f_X12_chain
          rw [w2, ob, if_neg one, i2, ob, if_neg one, y2, ob, if_neg one, s1, ob]
          rcases (show w = 0 ∨ w = 1 ∨ w = 2 ∨ w = 3 by omega) with rfl | rfl | rfl | rfl
          · rw [if_neg (L_nle 3 0 (by decide) (by decide)), if_pos (show nI 0 = (0 : Int32) from rfl), if_pos rfl]
          · rw [if_neg (L_nle 3 1 (by decide) (by decide)), if_neg (L_ne 1 0 (by decide) (by decide) (by decide)), if_pos (show nI 1 = (1 : Int32) from rfl), if_neg (by decide), if_pos rfl]
          · rw [if_neg (L_nle 3 2 (by decide) (by decide)), if_neg (L_ne 2 0 (by decide) (by decide) (by decide)), if_neg (L_ne 2 1 (by decide) (by decide) (by decide)), if_neg (by decide), if_neg (by decide), if_pos rfl]
          · rw [if_pos (L_le 3 3 (by decide) (by decide)), if_neg (by decide), if_neg (by decide), if_neg (by decide)]
            exact mmax_l N pm' _ _ _ mp' a' (c := (cr k n).1) (T := (cr k n).2.1) b2 (fun i hi => ⟨s2 i hi, hb i hi⟩) (cr k n).1 N 0 (by omega) (by have : (cr k n).1 ≤ 201 := b2; omega)
      · have y1 : f_X11_within N v4 (0 : Int32) (3 : Int32) = some 0 := y1
        have y2 : f_X12_in N v4.toInt64 (0 : Int64) (3 : Int64) = some 0 := y2
        refine bad (fun MC MS => ?_) (fun pm tm ft tl2 rd2 mp mt => ?_)
        · unfold f_X11_chain
          rw [w1, if_pos (z2 MC MS), ob, if_neg one, if_pos (z2 MC MS), i1, ob, if_neg one, if_pos (z2 MC MS), y1, ob, if_pos rfl, if_pos (z2 MC MS)]
        · unfold f_X12_chain
          rw [w2, ob, if_neg one, i2, ob, if_neg one, y2, ob, if_pos rfl]
    · refine bad (fun MC MS => ?_) (fun pm tm ft tl2 rd2 mp mt => ?_)
      · unfold f_X11_chain
        rw [w1, if_pos (z2 MC MS), ob, if_neg one, if_pos (z2 MC MS), i1, ob, if_pos rfl, if_pos (z2 MC MS)]
      · unfold f_X12_chain
        rw [w2, ob, if_neg one, i2, ob, if_pos rfl]
  · have w1 : f_X11_within N v1 (1 : Int32) (3 : Int32) = some 0 := w1
    have w2 : f_X12_in N v1.toInt64 (1 : Int64) (3 : Int64) = some 0 := w2
    refine bad (fun MC MS => ?_) (fun pm tm ft tl2 rd2 mp mt => ?_)
    · unfold f_X11_chain
      rw [w1, if_pos (z2 MC MS), ob, if_pos rfl, if_pos (z2 MC MS)]
    · unfold f_X12_chain
      rw [w2, ob, if_pos rfl]
theorem step_eq (N : Nat) (hN : 2 ^ 40 ≤ N) (v1 : Int32) (v2 : Int64) (v4 : Int32) {u : Int32} {num : Int64} {P : Nat → Int64} {T : Nat → Int32} {n_row n_list : Nat} {a_row a_list : Nat → Int32} {many kind en tl rd : Int32} {gr : Int64} {told : Nat → Int64} (hS : SpOK u num P T) (hL : LsOK n_row n_list a_list) (hC : ChOK many kind en tl rd gr told) : ∃ (ans : Int64) (dC dS : Nat), dC ≤ 8 ∧ dS ≤ 400000 ∧ (∀ MC MS, dC ≤ MC → dS ≤ MS → ∃ (u' : Int32) (num' : Int64) (many' kind' en' tl' rd' : Int32) (gr' : Int64) (n_row' : Nat) (a_row' : Nat → Int32) (n_list' : Nat) (a_list' : Nat → Int32) (P' : Nat → Int64) (T' : Nat → Int32) (told' : Nat → Int64), f_X11_step N MC MS v1 v2 v4 u num many kind en tl rd gr n_row a_row n_list a_list P T told = some (ans, u', num', many', kind', en', tl', rd', gr', n_row', a_row', n_list', a_list', P', T', told') ∧ SpOK u' num' P' T' ∧ (LsOK n_row' n_list' a_list' ∧ n_row ≤ n_row' ∧ n_list ≤ n_list') ∧ ChOK many' kind' en' tl' rd' gr' told' ∧ (if n_row' = n_row then 0 else 1) + (if n_list' = n_list then 0 else 1) = dC ∧ (n_row' - n_row) + (n_list' - n_list) = dS) ∧ ∀ (pm tm ft tl2 rd2 : Int32) (mp mt : Nat → Int64), ∃ (pm' tm' ft' tl2' rd2' : Int32) (mp' mt' : Nat → Int64), f_X12_step N v1 v2 v4 pm tm ft tl2 rd2 mp mt = some (ans, pm', tm', ft', tl2', rd2', mp', mt') := by
  have h40 : (2 : Nat) ^ 40 = 1099511627776 := by decide
  have z2 : ∀ a b : Nat, (0 : Nat) ≤ a ∧ 0 ≤ b := fun a b => ⟨Nat.zero_le _, Nat.zero_le _⟩
  have one : ¬ (1 : Int32) = 0 := by decide
  have bad : (∀ MC MS : Nat, f_X11_step N MC MS v1 v2 v4 u num many kind en tl rd gr n_row a_row n_list a_list P T told = some (-1, u, num, many, kind, en, tl, rd, gr, n_row, a_row, n_list, a_list, P, T, told)) → (∀ (pm tm ft tl2 rd2 : Int32) (mp mt : Nat → Int64), f_X12_step N v1 v2 v4 pm tm ft tl2 rd2 mp mt = some (-1, pm, tm, ft, tl2, rd2, mp, mt)) → ∃ (ans : Int64) (dC dS : Nat), dC ≤ 8 ∧ dS ≤ 400000 ∧ (∀ MC MS, dC ≤ MC → dS ≤ MS → ∃ (u' : Int32) (num' : Int64) (many' kind' en' tl' rd' : Int32) (gr' : Int64) (n_row' : Nat) (a_row' : Nat → Int32) (n_list' : Nat) (a_list' : Nat → Int32) (P' : Nat → Int64) (T' : Nat → Int32) (told' : Nat → Int64), f_X11_step N MC MS v1 v2 v4 u num many kind en tl rd gr n_row a_row n_list a_list P T told = some (ans, u', num', many', kind', en', tl', rd', gr', n_row', a_row', n_list', a_list', P', T', told') ∧ SpOK u' num' P' T' ∧ (LsOK n_row' n_list' a_list' ∧ n_row ≤ n_row' ∧ n_list ≤ n_list') ∧ ChOK many' kind' en' tl' rd' gr' told' ∧ (if n_row' = n_row then 0 else 1) + (if n_list' = n_list then 0 else 1) = dC ∧ (n_row' - n_row) + (n_list' - n_list) = dS) ∧ ∀ (pm tm ft tl2 rd2 : Int32) (mp mt : Nat → Int64), ∃ (pm' tm' ft' tl2' rd2' : Int32) (mp' mt' : Nat → Int64), f_X12_step N v1 v2 v4 pm tm ft tl2 rd2 mp mt = some (ans, pm', tm', ft', tl2', rd2', mp', mt') :=
    fun q1 q2 => ⟨-1, 0, 0, by decide, by decide, fun MC MS _ _ => ⟨u, num, many, kind, en, tl, rd, gr, n_row, a_row, n_list, a_list, P, T, told, q1 MC MS, hS, ⟨hL, Nat.le_refl _, Nat.le_refl _⟩, hC, by simp, by simp⟩, fun pm tm ft tl2 rd2 mp mt => ⟨pm, tm, ft, tl2, rd2, mp, mt, q2 pm tm ft tl2 rd2 mp mt⟩⟩
  rcases with_f N v1 1 3 (by decide) (by decide) with ⟨k, hk1, hk3, rfl, w1, w2⟩ | ⟨w1, w2⟩
  · have w1 : f_X11_within N (nI k) (1 : Int32) (3 : Int32) = some 1 := w1
    have w2 : f_X12_in N (nI k).toInt64 (1 : Int64) (3 : Int64) = some 1 := w2
    rcases isNum_f N v2 with ⟨n, n0, nb, rfl, i1, i2⟩ | ⟨i1, i2⟩
    · by_cases hv4 : (0 : Int32) ≤ v4
      · obtain ⟨j, hj, rfl⟩ : ∃ j, j < 2 ^ 31 ∧ v4 = nI j := nI_of (fun h => by
          rw [Int32.lt_iff_toInt_lt] at h
          rw [Int32.le_iff_toInt_le] at hv4
          omega)
        obtain ⟨eC, eS⟩ := c3_eq hL
        have hle := cC3_le n_row n_list
        obtain ⟨fC, fS⟩ := c3_diff hL
        obtain ⟨b1, b2, b3, b4⟩ := ce_ok k 200 1 (fun _ => n)
        have c1 : 1 ≤ (cr k n).1 := b1
        have c2 : (cr k n).1 ≤ 201 := b2
        have c4 : ((cr k n).2.2.1 = 0 ∧ (cr k n).2.2.2.1 = (cr k n).1) ∨ ((cr k n).2.2.1 = 2 ∧ (cr k n).2.2.2.1 = (cr k n).1) ∨ ((cr k n).2.2.1 = 1 ∧ (cr k n).2.2.2.1 < (cr k n).1 ∧ (cr k n).2.2.2.2 = (cr k n).1 - (cr k n).2.2.2.1) := b4
        refine ⟨stA (cr k n).1 (cr k n).2.1 (cr k n).2.2.1 (cr k n).2.2.2.1 (cr k n).2.2.2.2 j, cC3 n_row n_list, cS3 n_row n_list, by omega, by omega, fun MC MS h1 h2 => ?_, fun pm tm ft tl2 rd2 mp mt => ?_⟩
        · obtain ⟨ar, al, p1, p2⟩ := prep3 N (by omega) hL (Nat.le_refl _) (Nat.le_refl _) a_row
          obtain ⟨u', num', P', Q', a', s1, s2, s3⟩ := follow_f N hN p2 hk1 hk3 n0 nb hS hC
          refine ⟨u', num', _, _, _, _, _, _, 50001, ar, 9592, al, P', Q', a', ?_, s2, ⟨LsOK.done (n_row := 0) (n_list := 0) p2, hL.le⟩, Or.inr ⟨k, n, hk1, hk3, n0, nb, rfl, rfl, rfl, rfl, rfl, rfl, s3⟩, fC, fS⟩
          have hbu : 0 + cC3 n_row n_list ≤ MC ∧ 0 + cS3 n_row n_list ≤ MS := ⟨by omega, by omega⟩
          unfold f_X11_step
          rw [eC, eS, w1, if_pos (z2 MC MS), ob, if_neg one, if_pos (z2 MC MS), i1, ob, if_neg one, if_pos hv4, if_pos hbu, p1, ob, if_pos hbu, s1, ob, if_pos hbu]
          simp only
          rw [numberAt_f N c1 c2 s3 hj c4, ob, if_pos hbu]
        · obtain ⟨pm', mp', a', s1, s2⟩ := layChain_f N hN hk1 hk3 n0 nb pm tm ft tl2 rd2 mp mt
          refine ⟨pm', nI (cr k n).1, nI (cr k n).2.2.1, nI (cr k n).2.2.2.1, nI (cr k n).2.2.2.2, mp', a', ?_⟩
          unfold f_X12_step
          rw [w2, ob, if_neg one, i2, ob, if_neg one, if_pos hv4, s1, ob]
          simp only
          generalize (cr k n).1 = c at *
          generalize (cr k n).2.1 = TT at *
          generalize (cr k n).2.2.1 = ft at *
          generalize (cr k n).2.2.2.1 = tt at *
          generalize (cr k n).2.2.2.2 = rr at *
          unfold stA
          by_cases hjc : j < c
          · rw [if_neg (L_nle c j hjc (by omega)), if_neg (L_in j 201 (by omega) hj), nI_clamp hj, s2 j hjc, if_pos hjc]
          · rw [if_pos (L_le c j (by omega) hj), if_neg hjc]
            rcases c4 with ⟨rfl, rfl⟩ | ⟨rfl, rfl⟩ | ⟨rfl, ht, rfl⟩
            · rw [if_neg (L_ne 0 1 (by decide) (by decide) (by decide)), if_pos (show nI 0 = (0 : Int32) from rfl), if_neg (show ¬ (0 : Nat) = 1 by decide)]
              by_cases e : j = tt
              · subst e; rw [if_pos rfl, if_pos ⟨rfl, rfl⟩]
              · rw [if_neg (L_ne j tt e hj (by omega)), if_neg (fun h : (0 : Nat) = 0 ∧ j = tt => e h.2)]
            · rw [if_neg (L_ne 2 1 (by decide) (by decide) (by decide)), if_neg (L_ne 2 0 (by decide) (by decide) (by decide)), if_neg (show ¬ (2 : Nat) = 1 by decide), if_neg (fun h : (2 : Nat) = 0 ∧ j = tt => absurd h.1 (by decide))]
            · have hm : (j - tt) % (c - tt) < c - tt := Nat.mod_lt _ (by omega)
              rw [if_pos (show nI 1 = (1 : Int32) from rfl), if_neg (L_ne (c - tt) 0 (by omega) (by omega) (by decide)), if_pos (show (1 : Nat) = 1 from rfl)]
              simp only [xl]
              rw [pk_sub (show tt ≤ j by omega), pk_rem (show j - tt < 2 ^ 31 by omega) (by omega) (by omega), nI_add, if_neg (L_in (tt + (j - tt) % (c - tt)) 201 (by omega) (by omega)), nI_clamp (by omega), s2 _ (by omega)]
      · refine bad (fun MC MS => ?_) (fun pm tm ft tl2 rd2 mp mt => ?_)
        · unfold f_X11_step
          rw [w1, if_pos (z2 MC MS), ob, if_neg one, if_pos (z2 MC MS), i1, ob, if_neg one, if_neg hv4, if_pos (z2 MC MS)]
        · unfold f_X12_step
          rw [w2, ob, if_neg one, i2, ob, if_neg one, if_neg hv4]
    · refine bad (fun MC MS => ?_) (fun pm tm ft tl2 rd2 mp mt => ?_)
      · unfold f_X11_step
        rw [w1, if_pos (z2 MC MS), ob, if_neg one, if_pos (z2 MC MS), i1, ob, if_pos rfl, if_pos (z2 MC MS)]
      · unfold f_X12_step
        rw [w2, ob, if_neg one, i2, ob, if_pos rfl]
  · have w1 : f_X11_within N v1 (1 : Int32) (3 : Int32) = some 0 := w1
    have w2 : f_X12_in N v1.toInt64 (1 : Int64) (3 : Int64) = some 0 := w2
    refine bad (fun MC MS => ?_) (fun pm tm ft tl2 rd2 mp mt => ?_)
    · unfold f_X11_step
      rw [w1, if_pos (z2 MC MS), ob, if_pos rfl, if_pos (z2 MC MS)]
    · unfold f_X12_step
      rw [w2, ob, if_pos rfl]
