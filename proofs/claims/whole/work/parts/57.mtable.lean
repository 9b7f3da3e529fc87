/-! the model's table -/
def MT (k : Nat) (t : Nat → Int32) : Prop := ∀ n, n ≤ 50000 → t n = nI (tbv k n)
def MtOK (tk : Int32) (t : Nat → Int32) : Prop := tk = -4 ∨ ∃ k, k ≤ 3 ∧ tk = nI k ∧ MT k t
def wk (k n e : Nat) : Nat := if k = 0 then e else if n = e then 0 else if k = 1 then e else if e ≤ 1 then 0 else e
def wS (k n d : Nat) : Nat := fb_sm (fun e => if e ∣ n then wk k n e else 0) d
theorem wS_s (k n d : Nat) : wS k n (d + 1) = wS k n d + (if d ∣ n then wk k n d else 0) := rfl
theorem wS_end {k n : Nat} (hk : k ≤ 3) (h2 : k ≠ 2) (h0 : 0 < n) (hn : n ≤ 50000) : wS k n 50001 = tb k n := by
  have hs : fb_sm (fun e => if e ∣ n then e else 0) 50001 = sg n := sw_far (fun d => d) (M := 50000) h0 hn
  unfold wS tb sv wk
  rcases (show k = 0 ∨ k = 1 ∨ k = 3 by omega) with rfl | rfl | rfl
  · rw [if_pos rfl, ← hs]
    exact fb_sm_cong (fun e he => by split <;> simp)
  · rw [if_neg (by decide), if_pos rfl, ← hs]
    have := fb_sm_upd (fun e => if e ∣ n then e else 0) 0 (i := n) (n := 50001) (by omega)
    rw [if_pos (Nat.dvd_refl n)] at this
    rw [show fb_sm (fun e => if e ∣ n then (if (1 : Nat) = 0 then e else if n = e then 0 else if (1 : Nat) = 1 then e else if e ≤ 1 then 0 else e) else 0) 50001 = fb_sm (fun e => if e = n then 0 else if e ∣ n then e else 0) 50001 from fb_sm_cong (fun e he => by
      by_cases c : e = n
      · subst c; simp
      · rw [if_neg c]
        by_cases c2 : e ∣ n
        · rw [if_pos c2, if_pos c2, if_neg (by decide), if_neg (fun q => c q.symm), if_pos rfl]
        · rw [if_neg c2, if_neg c2])]
    omega
  · rw [if_neg (by decide), if_neg (by decide), if_neg (by decide), ← hs]
    have a1 := fb_sm_upd (fun e => if e ∣ n then e else 0) 0 (i := n) (n := 50001) (by omega)
    rw [if_pos (Nat.dvd_refl n)] at a1
    rw [show fb_sm (fun e => if e ∣ n then (if (3 : Nat) = 0 then e else if n = e then 0 else if (3 : Nat) = 1 then e else if e ≤ 1 then 0 else e) else 0) 50001 = fb_sm (fun e => if e = 1 then 0 else if e = n then 0 else if e ∣ n then e else 0) 50001 from fb_sm_cong (fun e he => by
      by_cases c : e = n
      · subst c
        rw [if_pos (Nat.dvd_refl e), if_neg (by decide), if_pos rfl, if_pos rfl]
        split <;> rfl
      · rw [if_neg c]
        by_cases c2 : e ∣ n
        · rw [if_pos c2, if_pos c2, if_neg (by decide), if_neg (fun q => c q.symm), if_neg (by decide)]
          have : 0 < e := Nat.pos_of_dvd_of_pos c2 h0
          by_cases c3 : e = 1
          · rw [if_pos c3, if_pos (by omega)]
          · rw [if_neg c3, if_neg (by omega)]
        · rw [if_neg c2, if_neg c2]; split <;> rfl)]
    have a2 := fb_sm_upd (fun e => if e = n then 0 else if e ∣ n then e else 0) 0 (i := 1) (n := 50001) (by omega)
    by_cases e1 : n = 1
    · rw [if_pos e1]
      rw [if_pos (show (1 : Nat) = n from e1.symm)] at a2
      have : fb_sm (fun e => if e ∣ n then e else 0) 50001 = 1 := by rw [hs, e1, sg_1]
      omega
    · rw [if_neg e1]
      rw [if_neg (fun q => e1 q.symm), if_pos (Nat.one_dvd n)] at a2
      omega
theorem mtab_in (N : Nat) {k d : Nat} (hk : k ≤ 3) (h2 : k ≠ 2) (hd1 : 1 ≤ d) (hd : d ≤ 50000) (K : (Int32 × (Nat → Int32)) → Option (Int32 × Int32 × (Nat → Int64) × (Nat → Int32))) (post : Option (Int32 × Int32 × (Nat → Int64) × (Nat → Int32)) → Prop) (hK : ∀ t : Nat → Int32, t 0 = 0 → (∀ n, 1 ≤ n → n ≤ 50000 → t n = nI (wS k n (d + 1))) → post (K (nI (d + 1), t))) (hN : 2 ^ 40 ≤ N) {t0 : Nat → Int32} (ht0 : t0 0 = 0) (ht : ∀ n, 1 ≤ n → n ≤ 50000 → t0 n = nI (wS k n d)) : post (l_X12_layTable_74 N K (nI k) (nI d) N (nI d, t0)) := by
  have h40 : (2 : Nat) ^ 40 = 1099511627776 := by decide
  unfold l_X12_layTable_74
  refine lp_post (I := fun (z : Int32 × (Nat → Int32)) => ∃ i : Nat, z.1 = nI i ∧ i ≤ 100001 ∧ d ∣ i ∧ d ≤ i ∧ z.2 0 = 0 ∧ ∀ n, 1 ≤ n → n ≤ 50000 → z.2 n = nI (wS k n (if n < i then d + 1 else d))) (μ := fun z => 100002 - z.1.toNatClampNeg) (post := post) ?_ N _ ?_ ?_
  · intro z K2 hI hK2
    obtain ⟨z1, z2⟩ := z
    obtain ⟨i, e1, hi, hdi, hdi2, hz0, hz⟩ := hI
    simp only at e1 hz hz0
    subst e1
    show post (s_X12_layTable_74 N K (nI k) (nI d) K2 (nI i) z2)
    unfold s_X12_layTable_74
    by_cases he : 50000 < i
    · rw [if_pos (L_lt 50000 i he (by omega))]
      simp only [xl]
      rw [show nI d + (1 : Int32) = nI (d + 1) from nI_1 d]
      exact hK _ hz0 (fun n h1 h2 => by rw [hz n h1 h2, if_pos (by omega)])
    · rw [if_neg (L_nlt 50000 i (by omega) (by decide))]
      have hn1 : 1 ≤ i := by omega
      have go : post (K2 (nI (i + d), upd z2 i (nI (wS k i (d + 1))))) := by
        refine hK2 _ ⟨i + d, rfl, by omega, Nat.dvd_add hdi (Nat.dvd_refl d), by omega, ?_, fun n h1 h2 => ?_⟩ ?_
        · show upd z2 i _ 0 = 0
          rw [pk_un (by omega), hz0]
        · show upd z2 i _ n = _
          by_cases en : n = i
          · subst en; rw [pk_us, if_pos (by omega)]
          · rw [pk_un en, hz n h1 h2]
            by_cases c : n < i
            · rw [if_pos c, if_pos (by omega)]
            · rw [if_neg c]
              by_cases c2 : n < i + d
              · rw [if_pos c2, wS_s, if_neg, Nat.add_zero]
                intro q
                have : d ∣ n - i := Nat.dvd_sub q hdi
                have := Nat.le_of_dvd (by omega) this
                omega
              · rw [if_neg c2]
        · show 100002 - (nI (i + d)).toNatClampNeg < 100002 - (nI i).toNatClampNeg
          rw [nI_clamp (by omega), nI_clamp (by omega)]; omega
      have y : ∀ s0 : Nat, wk k i d = s0 → post (j_X12_layTable_123 N K2 (nI d) (nI i) (nI s0) (z2 i) (nI i) z2) := by
        intro s0 hs0
        unfold j_X12_layTable_123
        simp only [xl]
        rw [if_neg (L_in i 50001 (by omega) (by omega)), nI_clamp (by omega)]
        rw [nI_add, hz i hn1 (by omega), if_neg (by omega), nI_add, ← hs0]
        rw [show wS k i d + wk k i d = wS k i (d + 1) by rw [wS_s, if_pos hdi]]
        exact go
      have yes : wk k i d = d → post (j_X12_layTable_99 N K2 (nI d) (nI i) z2) := by
        intro h
        unfold j_X12_layTable_99 j_X12_layTable_104
        rw [if_neg (L_in i 50001 (by omega) (by omega)), nI_clamp (by omega), if_neg (by decide)]
        exact y d h
      have no : wk k i d = 0 → post (j_X12_layTable_103 N K2 (nI d) (nI i) z2) := by
        intro h
        unfold j_X12_layTable_103 j_X12_layTable_104
        rw [if_neg (L_in i 50001 (by omega) (by omega)), nI_clamp (by omega), if_pos rfl]
        exact y 0 h
      unfold wk at yes no
      by_cases k0 : k = 0
      · rw [if_pos (by rw [k0]; rfl)]
        exact yes (by rw [if_pos k0])
      · rw [if_neg (L_ne k 0 k0 (by omega) (by decide))]
        rw [if_neg k0] at yes no
        by_cases c1 : i = d
        · rw [if_pos (by rw [c1])]
          exact no (by rw [if_pos c1])
        · rw [if_neg (L_ne i d c1 (by omega) (by omega))]
          rw [if_neg c1] at yes no
          by_cases c2 : k = 1
          · rw [if_pos (by rw [c2]; rfl)]
            exact yes (by rw [if_pos c2])
          · rw [if_neg (L_ne k 1 c2 (by omega) (by decide))]
            rw [if_neg c2] at yes no
            by_cases c3 : d ≤ 1
            · rw [if_pos (L_le d 1 c3 (by decide))]
              exact no (by rw [if_pos c3])
            · rw [if_neg (L_nle d 1 (by omega) (by omega))]
              exact yes (by rw [if_neg c3])
  · exact ⟨d, rfl, by omega, Nat.dvd_refl d, Nat.le_refl d, ht0, fun n h1 h2 => by
      show t0 n = _
      rw [ht n h1 h2]
      by_cases c : n < d
      · rw [if_pos c, wS_s, if_neg, Nat.add_zero]
        intro q
        have := Nat.le_of_dvd (by omega) q
        omega
      · rw [if_neg c]⟩
  · show 100002 - _ < N
    omega
theorem mtab_out (N : Nat) (hN : 2 ^ 40 ≤ N) {k : Nat} (hk : k ≤ 3) (h2 : k ≠ 2) (pm tk : Int32) (ps : Nat → Int64) {t0 : Nat → Int32} (ht : ∀ n, n ≤ 50000 → t0 n = 0) : ∃ t, l_X12_layTable_66 N (nI k) pm tk ps N ((1 : Int32), t0) = some (pm, tk, ps, t) ∧ MT k t := by
  have h40 : (2 : Nat) ^ 40 = 1099511627776 := by decide
  unfold l_X12_layTable_66
  refine lp_post (I := fun (z : Int32 × (Nat → Int32)) => ∃ d : Nat, z.1 = nI d ∧ 1 ≤ d ∧ d ≤ 50001 ∧ z.2 0 = 0 ∧ ∀ n, 1 ≤ n → n ≤ 50000 → z.2 n = nI (wS k n d)) (μ := fun z => 100002 - z.1.toNatClampNeg) (post := fun r => ∃ t, r = some (pm, tk, ps, t) ∧ MT k t) ?_ N _ ?_ ?_
  · intro z K hI hK
    obtain ⟨z1, z2⟩ := z
    obtain ⟨d, e1, hd1, hd, hz0, hz⟩ := hI
    simp only at e1 hz hz0
    subst e1
    show ∃ t, s_X12_layTable_66 N (nI k) pm tk ps K (nI d) z2 = some (pm, tk, ps, t) ∧ MT k t
    unfold s_X12_layTable_66
    by_cases he : 50000 < d
    · rw [if_pos (L_lt 50000 d he (by omega))]
      refine ⟨z2, rfl, fun n hn => ?_⟩
      unfold tbv
      by_cases c : 1 ≤ n
      · rw [if_pos ⟨c, hn⟩, hz n c hn, show d = 50001 by omega, wS_end hk h2 c hn]
      · rw [if_neg (fun q => c q.1), show n = 0 by omega, hz0]; rfl
    · rw [if_neg (L_nlt 50000 d (by omega) (by decide))]
      refine mtab_in N hk h2 hd1 (by omega) K (fun r => ∃ t, r = some (pm, tk, ps, t) ∧ MT k t) (fun t a b => ?_) hN hz0 hz
      refine hK _ ⟨d + 1, rfl, by omega, by omega, a, b⟩ ?_
      show 100002 - (nI (d + 1)).toNatClampNeg < 100002 - (nI d).toNatClampNeg
      rw [nI_clamp (by omega), nI_clamp (by omega)]; omega
  · refine ⟨1, rfl, by decide, by decide, ht 0 (by decide), fun n h1 h2 => ?_⟩
    show t0 n = _
    rw [ht n h2, wS_s, if_neg (fun q => by have := Nat.eq_zero_of_zero_dvd q; omega)]; rfl
  · show 100002 - _ < N
    omega
theorem layTable_f (N : Nat) (hN : 2 ^ 40 ≤ N) {k : Nat} (hk : k ≤ 3) {tk : Int32} {t0 : Nat → Int32} (h : MtOK tk t0) (pm : Int32) (ps : Nat → Int64) : ∃ (pm' : Int32) (ps' : Nat → Int64) (t : Nat → Int32), f_X12_layTable N (nI k) pm tk ps t0 = some (pm', nI k, ps', t) ∧ MT k t := by
  have h40 : (2 : Nat) ^ 40 = 1099511627776 := by decide
  unfold f_X12_layTable
  by_cases e : tk = nI k
  · rw [if_pos e]
    subst e
    rcases h with h | ⟨k2, a, b, c⟩
    · exfalso
      rcases (show k = 0 ∨ k = 1 ∨ k = 2 ∨ k = 3 by omega) with rfl | rfl | rfl | rfl <;> exact absurd h (by decide)
    · have : k = k2 := (nI_eq (by omega) (by omega)).mp b
      subst this
      exact ⟨pm, ps, t0, rfl, c⟩
  · rw [if_neg e, if_neg (by decide)]
    unfold l_X12_layTable_23
    refine lp_post (I := fun (z : Int32 × Int32 × (Nat → Int64) × (Nat → Int32)) => ∃ n : Nat, z.1 = nI n ∧ 1 ≤ n ∧ n ≤ 50001 ∧ z.2.2.2 0 = 0 ∧ ∀ j, 1 ≤ j → j < n → z.2.2.2 j = nI (if k = 2 then tb k j else 0)) (μ := fun z => 100002 - z.1.toNatClampNeg) (post := fun r => ∃ (pm' : Int32) (ps' : Nat → Int64) (t : Nat → Int32), r = some (pm', nI k, ps', t) ∧ MT k t) ?_ N _ ?_ ?_
    · intro z K hI hK
      obtain ⟨z1, z2, z3, z4⟩ := z
      obtain ⟨n, e1, hn1, hn, hz0, hz⟩ := hI
      simp only at e1 hz hz0
      subst e1
      show ∃ (pm' : Int32) (ps' : Nat → Int64) (t : Nat → Int32), s_X12_layTable_23 N (nI k) (nI k) K (nI n) z2 z3 z4 = some (pm', nI k, ps', t) ∧ MT k t
      unfold s_X12_layTable_23
      by_cases he : 50000 < n
      · rw [if_pos (L_lt 50000 n he (by omega))]
        unfold j_X12_layTable_58
        by_cases k2 : k = 2
        · rw [if_pos (by rw [k2]; rfl)]
          refine ⟨z2, z3, z4, rfl, fun j hj => ?_⟩
          unfold tbv
          by_cases c : 1 ≤ j
          · rw [if_pos ⟨c, hj⟩, hz j c (by omega), if_pos k2]
          · rw [if_neg (fun q => c q.1), show j = 0 by omega, hz0]; rfl
        · rw [if_neg (L_ne k 2 k2 (by omega) (by decide))]
          obtain ⟨t, a, b⟩ := mtab_out N hN hk k2 z2 (nI k) z3 (t0 := z4) (fun j hj => by
            by_cases c : 1 ≤ j
            · rw [hz j c (by omega), if_neg k2]; rfl
            · rw [show j = 0 by omega, hz0])
          exact ⟨z2, z3, t, a, b⟩
      · rw [if_neg (L_nlt 50000 n (by omega) (by decide))]
        have go : ∀ (x : Nat) (p : Int32) (q : Nat → Int64), x = (if k = 2 then tb k n else 0) → ∃ (pm' : Int32) (ps' : Nat → Int64) (t : Nat → Int32), j_X12_layTable_51 N K (nI n) (nI x) (nI n) p q z4 = some (pm', nI k, ps', t) ∧ MT k t := by
          intro x p q hx
          unfold j_X12_layTable_51
          rw [if_neg (L_in n 50001 (by omega) (by omega)), nI_clamp (by omega)]
          simp only [xl]
          rw [show nI n + (1 : Int32) = nI (n + 1) from nI_1 n]
          refine hK _ ⟨n + 1, rfl, by omega, by omega, ?_, fun j h1 h2 => ?_⟩ ?_
          · show upd z4 n _ 0 = 0
            rw [pk_un (by omega), hz0]
          · show upd z4 n _ j = _
            by_cases c : j = n
            · rw [c, pk_us, hx]
            · rw [pk_un c, hz j h1 (by omega)]
          · show 100002 - (nI (n + 1)).toNatClampNeg < 100002 - (nI n).toNatClampNeg
            rw [nI_clamp (by omega), nI_clamp (by omega)]; omega
        by_cases k2 : k = 2
        · rw [if_pos (by rw [k2]; rfl), nI_i64 (by omega)]
          obtain ⟨p, q, e2⟩ := sumOf_f N hN (show 2 ≤ 3 by decide) (show 0 < n by omega) (show n ≤ 10000000000 by omega) z2 z3
          rw [show (2 : Int32) = nI 2 from rfl, e2, ob]
          simp only
          rw [(smK_sv (k := 2) (by decide) (by decide) (show 0 < n by omega) (show n ≤ 10000000000 by omega)).1, lN_i]
          exact go (sv 2 n) p q (by rw [if_pos k2, k2]; rfl)
        · rw [if_neg (L_ne k 2 k2 (by omega) (by decide))]
          exact go 0 z2 z3 (by rw [if_neg k2])
    · refine ⟨1, rfl, by decide, by decide, ?_, fun j h1 h2 => by omega⟩
      exact (pk_us (f := t0) (k := 0) (x := 0))
    · show 100002 - _ < N
      omega
theorem MtOK.done {k : Nat} (hk : k ≤ 3) {t : Nat → Int32} (h : MT k t) : MtOK (nI k) t := Or.inr ⟨k, hk, rfl, h⟩
