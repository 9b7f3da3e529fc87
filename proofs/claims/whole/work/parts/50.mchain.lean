/-! the reference's chain -/
def atP (T : Nat → Nat) (x j : Nat) : Int32 := if ffst T x j < j then nI (ffst T x j) else (-4 : Int32)
theorem ffst_step {T : Nat → Nat} {x j : Nat} (hne : T j ≠ x) : atP T x (j + 1) = atP T x j := by
  unfold atP
  rw [ffst, if_neg hne]
  by_cases h : ffst T x j < j
  · rw [if_pos h, if_pos (by omega), if_pos h]
  · rw [if_neg h, if_neg (by omega), if_neg h]
theorem ffst_hit {T : Nat → Nat} {x j : Nat} (he : T j = x) (hno : ∀ i, i < j → T i ≠ x) : atP T x (j + 1) = nI j := by
  unfold atP
  rw [ffst_at (j + 1) (by omega) he hno, if_pos (by omega)]
theorem search_l (N : Nat) (k23 : (Int32 × Int32 × Int32 × Int32 × Int32 × (Nat → Int64) × (Nat → Int64)) → Option (Int32 × Int32 × Int32 × Int32 × Int32 × (Nat → Int64) × (Nat → Int64))) {c x : Nat} (hc : c ≤ 201) (hx : x < 2 ^ 63) (pm ft tl rd : Int32) (mp : Nat → Int64) {a : Nat → Int64} {T : Nat → Nat} (hT : ∀ i, i < c → a i = lN (T i) ∧ T i < 2 ^ 63) (hinj : ∀ i j, i < j → j < c → T i ≠ T j) : ∀ (d n j : Nat), j + d = c → d < n → l_X12_layChain_83 N k23 (lN x) pm (nI c) ft tl rd mp a n (atP T x j, nI j) = j_X12_layChain_120 N k23 (lN x) (atP T x c) pm (nI c) ft tl rd mp a := by
  intro d
  induction d with
  | zero =>
    intro n j h1 h2
    obtain ⟨n, rfl⟩ : ∃ z, n = z + 1 := ⟨n - 1, by omega⟩
    show s_X12_layChain_83 N k23 (lN x) pm (nI c) ft tl rd mp a (l_X12_layChain_83 N k23 (lN x) pm (nI c) ft tl rd mp a n) (atP T x j) (nI j) = _
    unfold s_X12_layChain_83
    rw [if_pos (L_le c j (by omega) (by omega)), show j = c by omega]
  | succ d ih =>
    intro n j h1 h2
    obtain ⟨n, rfl⟩ : ∃ z, n = z + 1 := ⟨n - 1, by omega⟩
    show s_X12_layChain_83 N k23 (lN x) pm (nI c) ft tl rd mp a (l_X12_layChain_83 N k23 (lN x) pm (nI c) ft tl rd mp a n) (atP T x j) (nI j) = _
    unfold s_X12_layChain_83
    rw [if_neg (L_nle c j (by omega) (by omega)), if_neg (L_in j 201 (by omega) (by omega)), nI_clamp (by omega), (hT j (by omega)).1]
    by_cases e : T j = x
    · rw [if_pos (by rw [e])]
      simp only [xl]
      rw [show nI j + (1 : Int32) = nI (j + 1) from nI_1 j, ← ffst_hit e (fun i hi h => hinj i j hi (by omega) (h.trans e.symm))]
      exact ih n (j + 1) (by omega) (by omega)
    · rw [if_neg (M_ne (T j) x e (hT j (by omega)).2 hx)]
      simp only [xl]
      rw [show nI j + (1 : Int32) = nI (j + 1) from nI_1 j, ← ffst_step e]
      exact ih n (j + 1) (by omega) (by omega)
theorem layChain_l (N : Nat) (hN : 2 ^ 40 ≤ N) {k : Nat} (hk1 : 1 ≤ k) (hk3 : k ≤ 3) : ∀ (f n c : Nat) (T : Nat → Nat) (a mp : Nat → Int64) (pm tl : Int32), c + f = 201 → 1 ≤ c → (∀ i, i < c → a i = lN (T i) ∧ 1 ≤ T i ∧ T i ≤ 10000000000) → (∀ i j, i < j → j < c → T i ≠ T j) → f + 2 < n → ∃ (pm' : Int32) (mp' a' : Nat → Int64), l_X12_layChain_23 N (nI k) n (pm, nI c, (-4 : Int32), tl, (0 : Int32), mp, a) = some (pm', nI (ce k f c T).1, nI (ce k f c T).2.2.1, nI (ce k f c T).2.2.2.1, nI (ce k f c T).2.2.2.2, mp', a') ∧ ∀ i, i < (ce k f c T).1 → a' i = lN ((ce k f c T).2.1 i) := by
  have h40 : (2 : Nat) ^ 40 = 1099511627776 := by decide
  have stop : ∀ (n : Nat) (pm cc tl2 rd2 : Int32) (ft : Nat) (mp a : Nat → Int64), ft ≤ 2 → l_X12_layChain_23 N (nI k) (n + 1) (pm, cc, nI ft, tl2, rd2, mp, a) = some (pm, cc, nI ft, tl2, rd2, mp, a) := by
    intro n pm cc tl2 rd2 ft mp a hft
    show s_X12_layChain_23 N (nI k) (l_X12_layChain_23 N (nI k) n) pm cc (nI ft) tl2 rd2 mp a = _
    unfold s_X12_layChain_23
    have : ¬ nI ft = (-4 : Int32) := by
      rcases (show ft = 0 ∨ ft = 1 ∨ ft = 2 by omega) with rfl | rfl | rfl <;> decide
    rw [if_neg this]
  have hstep : ∀ n X, l_X12_layChain_23 N (nI k) (n + 1) X = s_X12_layChain_23 N (nI k) (l_X12_layChain_23 N (nI k) n) X.1 X.2.1 X.2.2.1 X.2.2.2.1 X.2.2.2.2.1 X.2.2.2.2.2.1 X.2.2.2.2.2.2 := fun n X => rfl
  intro f
  induction f with
  | zero =>
    intro n c T a mp pm tl hc hc1 hT hinj hn
    obtain ⟨n, rfl⟩ : ∃ z, n = z + 2 := ⟨n - 2, by omega⟩
    refine ⟨pm, mp, a, ?_, fun i hi => (hT i hi).1⟩
    rw [hstep]
    simp only
    unfold s_X12_layChain_23
    rw [if_pos rfl, if_pos (by rw [show c = 201 by omega]; rfl)]
    exact stop n pm (nI c) (nI c) 0 2 mp a (by decide)
  | succ f ih =>
    intro n c T a mp pm tl hc hc1 hT hinj hn
    obtain ⟨n, rfl⟩ : ∃ z, n = z + 2 := ⟨n - 2, by omega⟩
    have hp := hT (c - 1) (by omega)
    obtain ⟨pm1, mp1, s1⟩ := sumOf_f N hN hk3 hp.2.1 hp.2.2 pm mp
    obtain ⟨e1, e2⟩ := smK_sv hk1 hk3 hp.2.1 hp.2.2
    rw [e1] at s1
    have hsr := search_l N (l_X12_layChain_23 N (nI k) (n + 1)) (c := c) (x := sv k (T (c - 1))) (by omega) (by omega) pm1 (-4 : Int32) tl (0 : Int32) mp1 (fun i hi => ⟨(hT i hi).1, by have := (hT i hi).2.2; omega⟩) hinj c N 0 (by omega) (by omega)
    rw [hstep]
    simp only
    have hpre : s_X12_layChain_23 N (nI k) (l_X12_layChain_23 N (nI k) (n + 1)) pm (nI c) (-4 : Int32) tl (0 : Int32) mp a = j_X12_layChain_120 N (l_X12_layChain_23 N (nI k) (n + 1)) (lN (sv k (T (c - 1)))) (atP T (sv k (T (c - 1))) c) pm1 (nI c) (-4 : Int32) tl (0 : Int32) mp1 a := by
      unfold s_X12_layChain_23
      rw [if_pos rfl, if_neg (L_ne c 201 (by omega) (by omega) (by decide))]
      simp only [xl]
      rw [show nI c - (1 : Int32) = nI (c - 1) from pk_sub hc1, if_neg (L_in (c - 1) 201 (by omega) (by omega)), nI_clamp (by omega), hp.1, s1, ob]
      exact hsr
    rw [hpre, ce]
    generalize hxe : sv k (T (c - 1)) = x at *
    have hf := ffst_le (T := T) (x := x) c
    unfold j_X12_layChain_120
    by_cases h0 : x = 0
    · rw [if_pos h0, if_pos (by rw [h0]; rfl)]
      unfold j_X12_layChain_136 j_X12_layChain_149
      rw [if_pos (by rw [h0]; rfl)]
      exact ⟨pm1, mp1, a, stop n pm1 (nI c) (nI c) 0 0 mp1 a (by decide), fun i hi => (hT i hi).1⟩
    · rw [if_neg h0, if_neg (M_ne x 0 h0 (by omega) (by decide))]
      by_cases h1 : 10000000000 < x
      · rw [if_pos h1, if_neg (M_nle x 10000000000 h1 (by omega))]
        unfold j_X12_layChain_136 j_X12_layChain_149
        rw [if_neg (M_ne x 0 h0 (by omega) (by decide))]
        exact ⟨pm1, mp1, a, stop n pm1 (nI c) (nI c) 0 2 mp1 a (by decide), fun i hi => (hT i hi).1⟩
      · rw [if_neg h1, if_pos (M_le x 10000000000 (by omega) (by decide))]
        by_cases h2 : ffst T x c < c
        · have : ¬ atP T x c = (-4 : Int32) := by
            unfold atP
            rw [if_pos h2]
            intro q
            have h3 := congrArg Int32.toInt q
            rw [nI_toInt (by omega)] at h3
            have : (-4 : Int32).toInt = -4 := rfl
            omega
          rw [if_pos h2, if_neg this]
          simp only [xl]
          unfold atP
          rw [if_pos h2, pk_sub hf]
          exact ⟨pm1, mp1, a, stop n pm1 (nI c) (nI (ffst T x c)) (nI (c - ffst T x c)) 1 mp1 a (by decide), fun i hi => (hT i hi).1⟩
        · rw [if_neg h2, if_pos (by unfold atP; rw [if_neg h2]), if_neg (L_in c 201 (by omega) (by omega))]
          simp only [xl]
          rw [nI_clamp (by omega), show nI c + (1 : Int32) = nI (c + 1) from nI_1 c]
          have hno := ffst_ge h2
          refine ih (n + 1) (c + 1) (fun i => if i = c then x else T i) (vp_updL a c (lN x)) mp1 pm1 tl (by omega) (by omega) (fun i hi => ?_) (fun i j hij hj => ?_) (by omega)
          · by_cases e : i = c
            · subst e
              simp only [if_true]
              exact ⟨pk_uLs, by omega, by omega⟩
            · simp only [if_neg e]
              rw [pk_uLn e]
              exact hT i (by omega)
          · have ei : i ≠ c := by omega
            by_cases e : j = c
            · simp only [if_neg ei, if_pos e]; exact hno i (by omega)
            · simp only [if_neg ei, if_neg e]; exact hinj i j hij (by omega)
