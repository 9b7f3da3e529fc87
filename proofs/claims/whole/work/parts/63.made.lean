/-! the fewest parts that make a number -/
def md (I n : Nat) : Nat → Nat → Nat
  | 0, s => if s = 0 then 0 else I
  | d + 1, s => if d ∣ n ∧ d ≤ s then min (md I n d s) (md I n d (s - d) + 1) else md I n d s
def sD (n D : Nat) : Nat := fb_sm (fun d => if d ∣ n then d else 0) D
theorem md_s (I n d s : Nat) : md I n (d + 1) s = if d ∣ n ∧ d ≤ s then min (md I n d s) (md I n d (s - d) + 1) else md I n d s := rfl
theorem sD_s (n d : Nat) : sD n (d + 1) = sD n d + (if d ∣ n then d else 0) := rfl
theorem md_le (I n : Nat) : ∀ d s, md I n d s ≤ I
  | 0, s => by unfold md; split <;> omega
  | d + 1, s => by
    have h1 := md_le I n d s
    rw [md_s]
    split
    · omega
    · exact h1
theorem md_far (I n : Nat) : ∀ d s, sD n d < s → md I n d s = I
  | 0, s, h => by unfold md; rw [if_neg (by omega)]
  | d + 1, s, h => by
    rw [sD_s] at h
    rw [md_s]
    by_cases c : d ∣ n ∧ d ≤ s
    · rw [if_pos c.1] at h
      rw [if_pos c, md_far I n d s (by omega), md_far I n d (s - d) (by omega)]
      omega
    · rw [if_neg c, md_far I n d s (by split at h <;> omega)]
theorem md_cap {I J : Nat} (h : I ≤ J) (n : Nat) : ∀ d s, md I n d s = min I (md J n d s)
  | 0, s => by unfold md; split <;> omega
  | d + 1, s => by
    rw [md_s, md_s, md_cap h n d s, md_cap h n d (s - d)]
    split <;> omega
theorem md_few (J n : Nat) : ∀ d s, md J n d s ≤ fb_ct (dvb n) d ∨ md J n d s = J
  | 0, s => by unfold md; split
               · exact Or.inl (Nat.zero_le _)
               · exact Or.inr rfl
  | d + 1, s => by
    have h1 := md_few J n d s
    have h2 := md_few J n d (s - d)
    have h3 := md_le J n d s
    rw [md_s, fb_ct_succ]
    by_cases c : d ∣ n ∧ d ≤ s
    · rw [if_pos c, if_pos (dvb_t.mpr c.1)]
      omega
    · rw [if_neg c]
      omega
theorem rk_skip {n a : Nat} : ∀ e, fb_ct (dvb n) (a + e) = fb_ct (dvb n) a → (∀ I s, md I n (a + e) s = md I n a s) ∧ sD n (a + e) = sD n a
  | 0, _ => ⟨fun _ _ => rfl, rfl⟩
  | e + 1, h => by
    have h1 : fb_ct (dvb n) (a + e + 1) = fb_ct (dvb n) a := h
    rw [fb_ct_succ] at h1
    have h2 := fb_ct_mono (dvb n) (show a ≤ a + e by omega)
    have hd : ¬ (a + e) ∣ n := fun q => by rw [if_pos (dvb_t.mpr q)] at h1; omega
    have h3 : fb_ct (dvb n) (a + e) = fb_ct (dvb n) a := by split at h1 <;> omega
    obtain ⟨i1, i2⟩ := rk_skip e h3
    refine ⟨fun I s => ?_, ?_⟩
    · show md I n (a + e + 1) s = _
      rw [md_s, if_neg (fun q => hd q.1), i1]
    · show sD n (a + e + 1) = _
      rw [sD_s, if_neg hd, i2]; rfl
theorem rk_eq {n a b : Nat} (h : fb_ct (dvb n) a = fb_ct (dvb n) b) : (∀ I s, md I n a s = md I n b s) ∧ sD n a = sD n b := by
  rcases Nat.le_total a b with q | q
  · obtain ⟨e, rfl⟩ := Nat.exists_eq_add_of_le q
    obtain ⟨h1, h2⟩ := rk_skip e h.symm
    exact ⟨fun I s => (h1 I s).symm, h2.symm⟩
  · obtain ⟨e, rfl⟩ := Nat.exists_eq_add_of_le q
    exact rk_skip e h
theorem sD_n {n : Nat} (h0 : 0 < n) : sD n n = sg n - n := by
  have : sg n = sD n n + n := by
    show fb_sm (fun d => if d ∣ n then d else 0) (n + 1) = _
    rw [fb_sm_succ, if_pos (Nat.dvd_refl n)]; rfl
  omega
theorem rk_n {n : Nat} (h0 : 0 < n) : fb_ct (dvb n) n = tau n - 1 ∧ 1 ≤ tau n := by
  have := tau_ct n
  rw [fb_ct_succ, if_pos (dvb_t.mpr (Nat.dvd_refl n))] at this
  omega
/-- a list of parts as it is kept -/
theorem PaA.rk {n : Nat} {parts : Nat → Int64} (h0 : 0 < n) (h : PaA n parts) : ∃ Y : Nat → Nat, (∀ k, k < tau n → parts k = lN (Y k) ∧ Y k ∣ n ∧ 1 ≤ Y k ∧ Y k ≤ n ∧ fb_ct (dvb n) (Y k) = k) ∧ Y (tau n - 1) = n := by
  obtain ⟨Y, h1, h2, h3⟩ := h
  have h2' : ∀ x, cnE Y (tau n) x = if dvb n x then 1 else 0 := fun x => by
    rw [h2 x]
    by_cases q : x ∣ n
    · rw [if_pos q, if_pos (dvb_t.mpr q)]
    · rw [if_neg q, if_neg (fun w => q (dvb_t.mp w))]
  obtain ⟨r1, r2⟩ := sorted_rk h2' h3
  obtain ⟨t1, t2⟩ := rk_n h0
  refine ⟨Y, fun k hk => ?_, ?_⟩
  · obtain ⟨a, b⟩ := r1 k hk
    have d := dvb_t.mp a
    exact ⟨(h1 k hk).1, d, Nat.pos_of_dvd_of_pos d h0, Nat.le_of_dvd h0 d, b⟩
  · obtain ⟨a, b⟩ := r1 (tau n - 1) (by omega)
    exact fb_ct_kth_one a (dvb_t.mpr (Nat.dvd_refl n)) (by rw [b, t1])
def mkA (n : Nat) : Int32 := if 1000000 ≤ md 1000000 n n n then -4 else nI (md 1000000 n n n)
/-! the model -/
theorem mm_in (N : Nat) (hN : 2 ^ 40 ≤ N) {n d : Nat} (hn : n ≤ 5000) (hd1 : 1 ≤ d) (hdn : d ∣ n) (hd : d < n) (K : (Int32 × (Nat → Int32)) → Option (Int32 × (Nat → Int32))) (post : Option (Int32 × (Nat → Int32)) → Prop) (hK : ∀ a : Nat → Int32, (∀ s, s ≤ n → a s = nI (md 1000000 n (d + 1) s)) → post (K (nI (d + 1), a))) {a : Nat → Int32} (ha : ∀ s, s ≤ n → a s = nI (md 1000000 n d s)) : post (l_X12_made_57 N K (nI d) N (nI n, a)) := by
  have h40 : (2 : Nat) ^ 40 = 1099511627776 := by decide
  unfold l_X12_made_57
  refine lp_post (I := fun (z : Int32 × (Nat → Int32)) => ∃ x : Nat, z.1 = nI x ∧ d ≤ x + 1 ∧ x ≤ n ∧ (∀ s, x < s → s ≤ n → z.2 s = nI (md 1000000 n (d + 1) s)) ∧ (∀ s, s ≤ x → z.2 s = nI (md 1000000 n d s))) (μ := fun z => z.1.toNatClampNeg) (post := post) ?_ N _ ?_ ?_
  · intro z K2 hI hK2
    obtain ⟨z1, z2⟩ := z
    obtain ⟨x, e1, hx1, hx2, hhi, hlo⟩ := hI
    simp only at e1 hhi hlo
    subst e1
    show post (s_X12_made_57 N K (nI d) K2 (nI x) z2)
    unfold s_X12_made_57
    by_cases c : x < d
    · rw [if_pos (L_lt x d c (by omega))]
      simp only [xl, nI_1]
      refine hK _ (fun s hs => ?_)
      rcases Nat.lt_or_ge x s with w | w
      · exact hhi s w hs
      · rw [hlo s w, md_s, if_neg (fun q => by omega)]
    · rw [if_neg (L_nlt x d (by omega) (by omega)), pk_sub (by omega)]
      simp only [xl]
      rw [if_neg (L_in (x - d) 5001 (by omega) (by omega)), if_neg (L_in x 5001 (by omega) (by omega)), nI_clamp (by omega), nI_clamp (by omega), hlo (x - d) (by omega), hlo x (Nat.le_refl x), nI_1]
      have b1 := md_le 1000000 n d x
      have b2 := md_le 1000000 n d (x - d)
      have go : ∀ v : Nat, v = md 1000000 n (d + 1) x → post (j_X12_made_101 N K2 (nI x) (nI v) (nI x) z2) := by
        intro v hv
        unfold j_X12_made_101
        rw [if_neg (L_in x 5001 (by omega) (by omega)), nI_clamp (by omega)]
        simp only [xl]
        obtain ⟨x', rfl⟩ : ∃ x', x = x' + 1 := ⟨x - 1, by omega⟩
        rw [pk_m1]
        refine hK2 _ ⟨x', rfl, by omega, by omega, fun s h1 h2 => ?_, fun s h1 => ?_⟩ ?_
        · show upd z2 (x' + 1) (nI v) s = _
          by_cases q : s = x' + 1
          · rw [q, pk_us, hv]
          · rw [pk_un q]; exact hhi s (by omega) h2
        · show upd z2 (x' + 1) (nI v) s = _
          rw [pk_un (by omega)]; exact hlo s (by omega)
        · show (nI x').toNatClampNeg < (nI (x' + 1)).toNatClampNeg
          rw [nI_clamp (by omega), nI_clamp (by omega)]; omega
      have hv : md 1000000 n (d + 1) x = min (md 1000000 n d x) (md 1000000 n d (x - d) + 1) := by rw [md_s, if_pos ⟨hdn, by omega⟩]
      by_cases q : md 1000000 n d x ≤ md 1000000 n d (x - d) + 1
      · rw [if_pos (L_le _ _ q (by omega))]
        exact go _ (by rw [hv]; omega)
      · rw [if_neg (L_nle (md 1000000 n d x) (md 1000000 n d (x - d) + 1) (by omega) (by omega))]
        exact go _ (by rw [hv]; omega)
  · exact ⟨n, rfl, by omega, Nat.le_refl n, fun s h1 h2 => by omega, fun s hs => ha s hs⟩
  · show (nI n).toNatClampNeg < N
    rw [nI_clamp (by omega)]; omega
theorem mmade_f (N : Nat) (hN : 2 ^ 40 ≤ N) {n : Nat} (hn1 : 1 ≤ n) (hn : n ≤ 5000) (a0 : Nat → Int32) : ∃ a', l_X12_made_16 N (nI n) N ((1 : Int32), a0) = some (mkA n, a') := by
  have h40 : (2 : Nat) ^ 40 = 1099511627776 := by decide
  unfold l_X12_made_16
  refine lp_post (I := fun (z : Int32 × (Nat → Int32)) => ∃ x : Nat, z.1 = nI x ∧ 1 ≤ x ∧ x ≤ n + 1 ∧ ∀ s, 1 ≤ s → s < x → z.2 s = nI 1000000) (μ := fun z => 5002 - z.1.toNatClampNeg) (post := fun r => ∃ a', r = some (mkA n, a')) ?_ N _ ?_ ?_
  · intro z K hI hK
    obtain ⟨z1, z2⟩ := z
    obtain ⟨x, e1, hx1, hx2, hz⟩ := hI
    simp only at e1 hz
    subst e1
    show ∃ a', s_X12_made_16 N (nI n) K (nI x) z2 = _
    unfold s_X12_made_16
    by_cases c : n < x
    · rw [if_pos (L_lt n x c (by omega))]
      unfold j_X12_made_35
      rw [if_neg (by decide)]
      unfold l_X12_made_44
      refine lp_post (I := fun (z : Int32 × (Nat → Int32)) => ∃ d : Nat, z.1 = nI d ∧ 1 ≤ d ∧ d ≤ n ∧ ∀ s, s ≤ n → z.2 s = nI (md 1000000 n d s)) (μ := fun z => 5002 - z.1.toNatClampNeg) (post := fun r => ∃ a', r = some (mkA n, a')) ?_ N _ ?_ ?_
      · intro z K2 hI2 hK2
        obtain ⟨y1, y2⟩ := z
        obtain ⟨d, e1, hd1, hd, hy⟩ := hI2
        simp only at e1 hy
        subst e1
        have hμ : d < n → 5002 - (nI (d + 1)).toNatClampNeg < 5002 - (nI d).toNatClampNeg := fun _ => by rw [nI_clamp (by omega), nI_clamp (by omega)]; omega
        show ∃ a', s_X12_made_44 N (nI n) K2 (nI d) y2 = _
        unfold s_X12_made_44
        by_cases c2 : n ≤ d
        · rw [if_pos (L_le n d c2 (by omega))]
          have : d = n := by omega
          subst this
          unfold j_X12_made_114 mkA
          have b1 := md_le 1000000 d d d
          rw [if_neg (L_in d 5001 (by omega) (by omega)), nI_clamp (by omega), hy d (Nat.le_refl d)]
          by_cases q : 1000000 ≤ md 1000000 d d d
          · rw [if_pos (L_le 1000000 _ q (by omega)), if_pos q]; exact ⟨_, rfl⟩
          · rw [if_neg (L_nle 1000000 (md 1000000 d d d) (by omega) (by omega)), if_neg q]; exact ⟨_, rfl⟩
        · rw [if_neg (L_nle n d (by omega) (by omega)), if_neg (L_ne d 0 (by omega) (by omega) (by decide))]
          by_cases dv : n % d = 0
          · rw [if_pos ((L_rem (by omega) (by omega) (by omega)).mpr dv)]
            exact mm_in N hN hn hd1 (Nat.dvd_of_mod_eq_zero dv) (by omega) K2 (fun r => ∃ a', r = some (mkA n, a')) (fun a ha => hK2 _ ⟨d + 1, rfl, by omega, by omega, ha⟩ (hμ (by omega))) hy
          · rw [if_neg (fun q => dv ((L_rem (by omega) (by omega) (by omega)).mp q))]
            simp only [xl, nI_1]
            refine hK2 _ ⟨d + 1, rfl, by omega, by omega, fun s hs => ?_⟩ (hμ (by omega))
            show y2 s = _
            rw [hy s hs, md_s, if_neg (fun q => dv (Nat.mod_eq_zero_of_dvd q.1))]
      · refine ⟨1, rfl, by decide, by omega, fun s hs => ?_⟩
        show upd z2 0 0 s = _
        have h0n : ¬ 0 ∣ n := fun q => by have := Nat.eq_zero_of_zero_dvd q; omega
        rw [md_s, if_neg (fun q => h0n q.1)]
        unfold md
        by_cases q : s = 0
        · rw [if_pos q, q]; exact pk_us
        · rw [if_neg q]
          show upd z2 0 _ s = _
          rw [pk_un q, hz s (by omega) (by omega)]
      · show 5002 - _ < N
        omega
    · rw [if_neg (L_nlt n x (by omega) (by omega)), if_neg (L_in x 5001 (by omega) (by omega)), nI_clamp (by omega)]
      simp only [xl, nI_1]
      refine hK _ ⟨x + 1, rfl, by omega, by omega, fun s h1 h2 => ?_⟩ ?_
      · show upd z2 x _ s = _
        by_cases q : s = x
        · rw [q, pk_us]; rfl
        · rw [pk_un q]; exact hz s h1 (by omega)
      · show 5002 - (nI (x + 1)).toNatClampNeg < 5002 - (nI x).toNatClampNeg
        rw [nI_clamp (by omega), nI_clamp (by omega)]; omega
  · exact ⟨1, rfl, by decide, by omega, fun s h1 h2 => by omega⟩
  · show 5002 - _ < N
    omega
/-! the class -/
theorem addPart_f (N : Nat) (hN : 2 ^ 40 ≤ N) {p lo hi : Nat} (hp : 1 ≤ p) (hlo : p ≤ lo) (hlo2 : lo < 50001) (hhi : hi < 50001) (a : Nat → Int32) : ∃ a', f_X1_addPart N (nI p) (nI lo) (nI hi) 50001 a = some a' ∧ ∀ s, a' s = if lo ≤ s ∧ s ≤ hi then (if a s ≤ a (s - p) + 1 then a s else a (s - p) + 1) else a s := by
  have h40 : (2 : Nat) ^ 40 = 1099511627776 := by decide
  unfold f_X1_addPart
  rw [if_neg (L_nlt p 1 hp (by omega)), if_neg (L_nlt lo p hlo (by omega)), if_pos (L_lt hi 50001 hhi (by decide))]
  unfold l_X1_addPart_20
  refine lp_post (I := fun (z : Int32 × (Nat → Int32)) => ∃ x : Nat, z.1 = nI x ∧ x ≤ hi ∧ ∀ s, z.2 s = if lo ≤ s ∧ x < s ∧ s ≤ hi then (if a s ≤ a (s - p) + 1 then a s else a (s - p) + 1) else a s) (μ := fun z => z.1.toNatClampNeg) (post := fun r => ∃ a' : Nat → Int32, r = some a' ∧ ∀ s, a' s = if lo ≤ s ∧ s ≤ hi then (if a s ≤ a (s - p) + 1 then a s else a (s - p) + 1) else a s) ?_ N _ ?_ ?_
  · intro z K hI hK
    obtain ⟨z1, z2⟩ := z
    obtain ⟨x, e1, hx, hz⟩ := hI
    simp only at e1 hz
    subst e1
    show ∃ a', s_X1_addPart_20 N (nI p) (nI lo) 50001 K (nI x) z2 = some a' ∧ _
    unfold s_X1_addPart_20
    by_cases c : x < lo
    · rw [if_pos (L_lt x lo c (by omega))]
      refine ⟨z2, rfl, fun s => ?_⟩
      rw [hz s]
      by_cases q : lo ≤ s ∧ s ≤ hi
      · rw [if_pos q, if_pos ⟨q.1, by omega, q.2⟩]
      · rw [if_neg q, if_neg (fun w => q ⟨w.1, w.2.2⟩)]
    · rw [if_neg (L_nlt x lo (by omega) (by omega)), pk_sub (by omega)]
      simp only [xl]
      rw [if_neg (L_in (x - p) 50001 (by omega) (by omega)), if_neg (L_in x 50001 (by omega) (by omega)), nI_clamp (by omega), nI_clamp (by omega)]
      have e1 : z2 (x - p) = a (x - p) := by rw [hz (x - p), if_neg (fun q => by omega)]
      have e2 : z2 x = a x := by rw [hz x, if_neg (fun q => by omega)]
      rw [e1, e2]
      obtain ⟨x', rfl⟩ : ∃ x', x = x' + 1 := ⟨x - 1, by omega⟩
      rw [pk_m1]
      have hμ : (nI x').toNatClampNeg < (nI (x' + 1)).toNatClampNeg := by rw [nI_clamp (by omega), nI_clamp (by omega)]; omega
      by_cases q : a (x' + 1) ≤ a (x' + 1 - p) + 1
      · rw [if_pos q]
        refine hK _ ⟨x', rfl, by omega, fun s => ?_⟩ hμ
        show z2 s = _
        by_cases w : s = x' + 1
        · subst w
          rw [e2, if_pos ⟨by omega, by omega, by omega⟩, if_pos q]
        · rw [hz s]
          by_cases r : lo ≤ s ∧ x' + 1 < s ∧ s ≤ hi
          · rw [if_pos r, if_pos (show lo ≤ s ∧ x' < s ∧ s ≤ hi from ⟨r.1, by omega, r.2.2⟩)]
          · rw [if_neg r, if_neg (fun v => r ⟨v.1, by omega, v.2.2⟩)]
      · rw [if_neg q]
        refine hK _ ⟨x', rfl, by omega, fun s => ?_⟩ hμ
        show upd z2 (x' + 1) _ s = _
        by_cases w : s = x' + 1
        · subst w
          rw [pk_us, if_pos ⟨by omega, by omega, by omega⟩, if_neg q]
        · rw [pk_un w, hz s]
          by_cases r : lo ≤ s ∧ x' + 1 < s ∧ s ≤ hi
          · rw [if_pos r, if_pos (show lo ≤ s ∧ x' < s ∧ s ≤ hi from ⟨r.1, by omega, r.2.2⟩)]
          · rw [if_neg r, if_neg (fun v => r ⟨v.1, by omega, v.2.2⟩)]
  · exact ⟨hi, rfl, Nat.le_refl hi, fun s => by rw [if_neg (fun q => by omega)]⟩
  · show (nI hi).toNatClampNeg < N
    rw [nI_clamp (by omega)]; omega
theorem sumOfParts_f (N : Nat) (hN : 2 ^ 40 ≤ N) {n : Nat} (h0 : 0 < n) (hn : n ≤ 5000) {parts : Nat → Int64} {Y : Nat → Nat} (hY : ∀ k, k < tau n → parts k = lN (Y k) ∧ Y k ∣ n ∧ 1 ≤ Y k ∧ Y k ≤ n ∧ fb_ct (dvb n) (Y k) = k) (hc : Y (tau n - 1) = n) : f_X1_sumOfParts N (nI (tau n)) parts = some (nI (sg n - n)) := by
  have h40 : (2 : Nat) ^ 40 = 1099511627776 := by decide
  have ht := tau_le h0 (show n ≤ 10000000000 by omega)
  obtain ⟨t1, t2⟩ := rk_n h0
  unfold f_X1_sumOfParts l_X1_sumOfParts_4
  refine lp_eq _ (I := fun (z : Int64 × Int32) => ∃ i : Nat, z.2 = nI i ∧ i < tau n ∧ z.1 = lN (sD n (Y i))) (μ := fun z => 2305 - z.2.toNatClampNeg) ?_ N _ ?_ ?_
  · intro z K hI hK
    obtain ⟨y1, y2⟩ := z
    obtain ⟨i, e1, hi, e2⟩ := hI
    simp only at e1 e2
    subst e1
    subst e2
    show s_X1_sumOfParts_4 N (nI (tau n)) parts K (lN (sD n (Y i))) (nI i) = _
    unfold s_X1_sumOfParts_4
    rw [show (1 : Int32) = nI 1 from rfl, pk_sub t2]
    by_cases c : tau n - 1 ≤ i
    · rw [if_pos (L_le (tau n - 1) i c (by omega)), show i = tau n - 1 by omega, hc, sD_n h0, lN_i]
    · rw [if_neg (L_nle (tau n - 1) i (by omega) (by omega)), if_neg (L_nle 2304 i (by omega) (by decide)), if_neg (L_in i 2304 (by omega) (by omega)), nI_clamp (by omega), (hY i hi).1]
      simp only [xl]
      rw [lN_add, nI_add]
      refine hK _ ⟨i + 1, rfl, by omega, ?_⟩ ?_
      · show lN _ = lN _
        have a := hY i hi
        have b := hY (i + 1) (by omega)
        have hr : fb_ct (dvb n) (Y i + 1) = fb_ct (dvb n) (Y (i + 1)) := by
          rw [fb_ct_succ, if_pos (dvb_t.mpr a.2.1), a.2.2.2.2, b.2.2.2.2]
        rw [← (rk_eq hr).2, sD_s, if_pos a.2.1]
      · show 2305 - (nI (i + 1)).toNatClampNeg < 2305 - (nI i).toNatClampNeg
        rw [nI_clamp (by omega), nI_clamp (by omega)]; omega
  · refine ⟨0, rfl, by omega, ?_⟩
    show (0 : Int64) = lN _
    have a := hY 0 (by omega)
    rw [(rk_eq (n := n) (a := Y 0) (b := 0) (by rw [a.2.2.2.2]; rfl)).2]
    rfl
  · show 2305 - _ < N
    omega
theorem sub_neg {a b : Nat} (h : a < b) (hb : b < 2 ^ 30) {p : Nat} (hp : p < 2 ^ 31) : ¬ nI p < nI a - nI b := by
  intro q
  have h1 := pk_sneg hb h
  have := nI_pos hp
  rw [Int32.lt_iff_toInt_lt] at *
  omega
theorem fewest_f (N : Nat) (hN : 2 ^ 40 ≤ N) {n : Nat} (h0 : 0 < n) (hn : n ≤ 5000) {al : Nat → Int32} (hL : PT 9592 al) {u : Int32} {num : Int64} {P : Nat → Int64} {T : Nat → Int32} (hS : SpOK u num P T) {pk : Int32} {pn : Int64} {parts : Nat → Int64} (hP : PaOK pk pn parts) (MC MS : Nat) (a_row : Nat → Int32) : ∃ (w : Nat) (a' : Nat → Int32) (P' : Nat → Int64) (T' : Nat → Int32) (parts' : Nat → Int64), f_X1_fewest N MC MS (nI n) u num pk pn 50001 a_row 9592 al P T parts = some (mkA n, nI w, lN n, nI (tau n), lN n, 50001, a', P', T', parts') ∧ w ≤ 12 ∧ SpA w n P' T' ∧ PaA n parts' := by
  have h40 : (2 : Nat) ^ 40 = 1099511627776 := by decide
  have h30 : (2 : Nat) ^ 30 = 1073741824 := by decide
  have ht := tau_le h0 (show n ≤ 10000000000 by omega)
  obtain ⟨t1, t2⟩ := rk_n h0
  have hsg := sg_le h0 (show n ≤ 10000000000 by omega)
  have hsn := sg_n h0
  obtain ⟨w, P', T', s1, hw, hA⟩ := splitUp_f N (by omega) hL hS h0 (show n ≤ 10000000000 by omega)
  obtain ⟨parts', s2, hPa⟩ := listParts_f N hN hw h0 (show n ≤ 10000000000 by omega) hA hP
  obtain ⟨Y, hY, hYc⟩ := hPa.rk h0
  have s3 := sumOfParts_f N hN h0 hn hY hYc
  -- the answers of both bounds
  have hmk : md 10000 n n n = min 10000 (md 1000000 n n n) := md_cap (by decide) n n n
  have hfew := md_few 1000000 n n n
  rw [t1] at hfew
  have e0 : ¬ nI 50001 = 0 := by decide
  have hz : 0 + 0 ≤ MC ∧ 0 + 0 ≤ MS := ⟨Nat.zero_le _, Nat.zero_le _⟩
  -- the borrowed row
  have s4 : ∃ a1, f_X1_borrowed N 0 0 (nI n) 50001 a_row = some (50001, a1) ∧ ∀ s, s ≤ n → a1 s = nI 10000 := by
    unfold f_X1_borrowed
    simp only [if_neg e0]
    obtain ⟨a1, f1⟩ := borrowed_f N (MC := 0) (MS := 0) (n_row := 50001) (Or.inr rfl) (by decide) (by decide) a_row
    rw [if_pos (show 0 + 0 ≤ 0 ∧ 0 + 0 ≤ 0 by decide), f1, ob]
    simp only
    unfold l_X1_borrowed_10
    refine lp_post (I := fun (z : Int32 × (Nat → Int32)) => ∃ x : Nat, z.1 = nI x ∧ x ≤ n + 1 ∧ ∀ s, s < x → z.2 s = nI 10000) (μ := fun z => 5002 - z.1.toNatClampNeg) (post := fun r => ∃ a1 : Nat → Int32, r = some (50001, a1) ∧ ∀ s, s ≤ n → a1 s = nI 10000) ?_ N _ ?_ ?_
    · intro z K hI hK
      obtain ⟨y1, y2⟩ := z
      obtain ⟨x, e1, hx, hy⟩ := hI
      simp only at e1 hy
      subst e1
      show ∃ a1, s_X1_borrowed_10 N 0 0 (nI n) 50001 (0 + 0) (0 + 0) K (nI x) y2 = some (50001, a1) ∧ _
      unfold s_X1_borrowed_10
      by_cases c : n < x
      · rw [if_pos (L_lt n x c (by omega)), if_pos (show 0 + 0 ≤ 0 ∧ 0 + 0 ≤ 0 by decide)]
        exact ⟨y2, rfl, fun s hs => hy s (by omega)⟩
      · rw [if_neg (L_nlt n x (by omega) (by omega)), if_neg (L_nle 50001 x (by omega) (by decide)), if_neg (L_in x 50001 (by omega) (by omega)), nI_clamp (by omega)]
        simp only [xl, nI_1]
        refine hK _ ⟨x + 1, rfl, by omega, fun s hs => ?_⟩ ?_
        · show upd y2 x _ s = _
          by_cases q : s = x
          · rw [q, pk_us]; rfl
          · rw [pk_un q]; exact hy s (by omega)
        · show 5002 - (nI (x + 1)).toNatClampNeg < 5002 - (nI x).toNatClampNeg
          rw [nI_clamp (by omega), nI_clamp (by omega)]; omega
    · exact ⟨0, rfl, Nat.zero_le _, fun s hs => by omega⟩
    · show 5002 - _ < N
      omega
  obtain ⟨a1, f1, f2⟩ := s4
  have hlead : f_X1_fewest N MC MS (nI n) u num pk pn 50001 a_row 9592 al P T parts = (if nI (sg n - n) < nI n then some ((-4 : Int32), nI w, lN n, nI (tau n), lN n, 50001, a1, P', T', parts') else l_X1_fewest_56 N MC MS (nI n) (nI w) (lN n) (nI (tau n)) (lN n) 50001 P' T' parts' (0 + 0) (0 + 0) N (nI (sg n - n), (0 : Int32), (0 : Int32), upd a1 (0 : Int32).toNatClampNeg (0 : Int32))) := by
    unfold f_X1_fewest
    simp only [if_neg e0]
    rw [if_pos (z2 MC MS), nI_i64 (by omega), s1, ob]
    simp only
    rw [if_pos (z2 MC MS), s2, ob]
    simp only
    rw [if_pos (z2 MC MS), s3, ob, if_pos hz, f1, ob]
    simp only
    by_cases c' : nI (sg n - n) < nI n
    · rw [if_pos c', if_pos c', if_pos hz]
    · rw [if_neg c', if_neg c', if_neg (L_nlt n 1 h0 (by omega)), if_pos (L_lt n 50001 (by omega) (by decide)), if_neg (by decide)]
  rw [hlead]
  by_cases c : sg n - n < n
  · rw [if_pos (L_lt (sg n - n) n c (by omega))]
    refine ⟨w, a1, P', T', parts', ?_, hw, hA, hPa⟩
    have : md 1000000 n n n = 1000000 := md_far 1000000 n n n (by rw [sD_n h0]; exact c)
    unfold mkA
    rw [if_pos (by omega)]
  · rw [if_neg (L_nlt (sg n - n) n (by omega) (by omega))]
    have main : ∃ a', l_X1_fewest_56 N MC MS (nI n) (nI w) (lN n) (nI (tau n)) (lN n) 50001 P' T' parts' (0 + 0) (0 + 0) N (nI (sg n - n), (0 : Int32), (0 : Int32), upd a1 (0 : Int32).toNatClampNeg (0 : Int32)) = some (mkA n, nI w, lN n, nI (tau n), lN n, 50001, a', P', T', parts') := by
      unfold l_X1_fewest_56
      refine lp_post (I := fun (z : Int32 × Int32 × Int32 × (Nat → Int32)) => ∃ i : Nat, z.2.2.1 = nI i ∧ i < tau n ∧ z.1 = nI (sg n - n - sD n (Y i)) ∧ z.2.1 = nI (sD n (Y i)) ∧ sD n (Y i) ≤ sg n - n ∧ ∀ s, s ≤ n → n ≤ s + (sg n - n - sD n (Y i)) → z.2.2.2 s = nI (md 10000 n (Y i) s)) (μ := fun z => 2305 - z.2.2.1.toNatClampNeg) (post := fun r => ∃ a', r = some (mkA n, nI w, lN n, nI (tau n), lN n, 50001, a', P', T', parts')) ?_ N _ ?_ ?_
      · intro z K hI hK
        obtain ⟨y1, y2, y3, y4⟩ := z
        obtain ⟨i, e1, hi, e2, e3, hle, hy⟩ := hI
        simp only at e1 e2 e3 hy
        subst e1
        subst e2
        subst e3
        show ∃ a', s_X1_fewest_56 N MC MS (nI n) (nI w) (lN n) (nI (tau n)) (lN n) 50001 P' T' parts' (0 + 0) (0 + 0) K (nI (sg n - n - sD n (Y i))) (nI (sD n (Y i))) (nI i) y4 = _
        unfold s_X1_fewest_56
        rw [show (1 : Int32) = nI 1 from rfl, pk_sub t2]
        by_cases c2 : tau n - 1 ≤ i
        · rw [if_pos (L_le (tau n - 1) i c2 (by omega))]
          have hi' : i = tau n - 1 := by omega
          have hYi : Y i = n := by rw [hi']; exact hYc
          have hyn := hy n (Nat.le_refl n) (by omega)
          rw [hYi] at hyn
          unfold j_X1_fewest_142
          rw [if_neg (L_in n 50001 (by omega) (by omega)), nI_clamp (by omega), hyn, hmk]
          unfold mkA
          by_cases q : 1000000 ≤ md 1000000 n n n
          · rw [if_pos (L_le 10000 (min 10000 (md 1000000 n n n)) (by omega) (by omega)), if_pos hz, if_pos q]
            exact ⟨y4, rfl⟩
          · rw [if_neg (L_nle 10000 (min 10000 (md 1000000 n n n)) (by omega) (by omega)), if_pos hz, if_neg q, show min 10000 (md 1000000 n n n) = md 1000000 n n n by omega]
            exact ⟨y4, rfl⟩
        · rw [if_neg (L_nle (tau n - 1) i (by omega) (by omega)), if_neg (L_nle 2304 i (by omega) (by decide)), if_neg (L_in i 2304 (by omega) (by omega)), nI_clamp (by omega)]
          obtain ⟨a, ad, ap, ab, ar⟩ := hY i hi
          obtain ⟨_, bd, bp, bb, br⟩ := hY (i + 1) (by omega)
          have hr : fb_ct (dvb n) (Y i + 1) = fb_ct (dvb n) (Y (i + 1)) := by
            rw [fb_ct_succ, if_pos (dvb_t.mpr ad), ar, br]
          have hsn2 : sD n (Y (i + 1)) = sD n (Y i) + Y i := by rw [← (rk_eq hr).2, sD_s, if_pos ad]
          have hmd2 : ∀ s, md 10000 n (Y (i + 1)) s = md 10000 n (Y i + 1) s := fun s => ((rk_eq hr).1 10000 s).symm
          -- the sum of the parts below is at most the whole
          have hle2 : sD n (Y (i + 1)) ≤ sg n - n := by
            rw [← sD_n h0]
            obtain ⟨e, he⟩ := Nat.exists_eq_add_of_le bb
            rw [he]
            exact fb_sm_mono _ _ _
          rw [a, lN_i]
          simp only [xl]
          rw [pk_sub (by omega), nI_add]
          rw [if_pos hz, if_pos hz, if_pos hz, nI_add]
          rw [show sg n - n - sD n (Y i) - Y i = sg n - n - sD n (Y (i + 1)) by omega, show sD n (Y i) + Y i = sD n (Y (i + 1)) by omega]
          generalize hp : Y i = p at *
          generalize hT2 : sD n (Y (i + 1)) = T2 at *
          have eleast : (if nI p < nI n - nI (sg n - n - T2) then nI n - nI (sg n - n - T2) else nI p) = nI (max p (n - (sg n - n - T2))) := by
            rcases Nat.lt_or_ge n (sg n - n - T2) with q | q
            · rw [if_neg (sub_neg q (by omega) (by omega)), show max p (n - (sg n - n - T2)) = p by omega]
            · rw [pk_sub q]
              by_cases r : p < n - (sg n - n - T2)
              · rw [if_pos (L_lt p _ r (by omega)), show max p (n - (sg n - n - T2)) = n - (sg n - n - T2) by omega]
              · rw [if_neg (L_nlt p (n - (sg n - n - T2)) (by omega) (by omega)), show max p (n - (sg n - n - T2)) = p by omega]
          have emost : (if nI T2 < nI n then nI T2 else nI n) = nI (min n T2) := by
            by_cases r : T2 < n
            · rw [if_pos (L_lt T2 n r (by omega)), show min n T2 = T2 by omega]
            · rw [if_neg (L_nlt T2 n (by omega) (by omega)), show min n T2 = n by omega]
          rw [eleast, emost]
          obtain ⟨a2, g1, g2⟩ := addPart_f N hN (p := p) (lo := max p (n - (sg n - n - T2))) (hi := min n T2) ap (by omega) (by omega) (by omega) y4
          rw [g1, ob]
          refine hK _ ⟨i + 1, rfl, by omega, ?_, ?_, ?_, fun s hs1 hs2 => ?_⟩ ?_
          · show nI _ = nI _
            rw [hT2]
          · show nI _ = nI _
            rw [hT2]
          · rw [hT2]; exact hle2
          · show a2 s = _
            rw [hT2] at hs2
            rw [g2 s, hmd2 s, md_s]
            have o1 := hy s hs1 (by omega)
            have b1 := md_le 10000 n p s
            have b2 := md_le 10000 n p (s - p)
            by_cases ps : p ≤ s
            · rw [if_pos (show p ∣ n ∧ p ≤ s from ⟨ad, ps⟩)]
              have o2 := hy (s - p) (by omega) (by omega)
              by_cases q : s ≤ T2
              · rw [if_pos (show max p (n - (sg n - n - T2)) ≤ s ∧ s ≤ min n T2 from ⟨by omega, by omega⟩), o1, o2, show (1 : Int32) = nI 1 from rfl, nI_add]
                by_cases r : md 10000 n p s ≤ md 10000 n p (s - p) + 1
                · rw [if_pos (L_le _ _ r (by omega)), show min (md 10000 n p s) (md 10000 n p (s - p) + 1) = md 10000 n p s by omega]
                · rw [if_neg (L_nle (md 10000 n p s) (md 10000 n p (s - p) + 1) (by omega) (by omega)), show min (md 10000 n p s) (md 10000 n p (s - p) + 1) = md 10000 n p (s - p) + 1 by omega]
              · rw [if_neg (show ¬ (max p (n - (sg n - n - T2)) ≤ s ∧ s ≤ min n T2) from fun w => by omega), o1, md_far 10000 n p (s - p) (by omega), show min (md 10000 n p s) (10000 + 1) = md 10000 n p s by omega]
            · rw [if_neg (show ¬ (max p (n - (sg n - n - T2)) ≤ s ∧ s ≤ min n T2) from fun w => by omega), if_neg (show ¬ (p ∣ n ∧ p ≤ s) from fun w => ps w.2), o1]
          · show 2305 - (nI (i + 1)).toNatClampNeg < 2305 - (nI i).toNatClampNeg
            rw [nI_clamp (by omega), nI_clamp (by omega)]; omega
      · obtain ⟨a, ad, ap, ab, ar⟩ := hY 0 (by omega)
        obtain ⟨r1, r2⟩ := rk_eq (n := n) (a := Y 0) (b := 0) (by rw [ar]; rfl)
        have r3 : sD n (Y 0) = 0 := r2
        refine ⟨0, rfl, by omega, ?_, ?_, by omega, fun s hs _ => ?_⟩
        · show nI _ = nI _
          rw [r3]; rfl
        · show (0 : Int32) = nI _
          rw [r3]; rfl
        · show upd a1 0 0 s = _
          rw [r1 10000 s]
          unfold md
          by_cases q : s = 0
          · rw [if_pos q, q, pk_us]; rfl
          · rw [if_neg q, pk_un q, f2 s hs]
      · show 2305 - _ < N
        omega
    obtain ⟨a', e⟩ := main
    exact ⟨w, a', P', T', parts', e, hw, hA, hPa⟩
theorem made_eq (N : Nat) (hN : 2 ^ 40 ≤ N) (v1 : Int32) {u : Int32} {num : Int64} {P : Nat → Int64} {T : Nat → Int32} {pk : Int32} {pn : Int64} {parts : Nat → Int64} {n_row n_list : Nat} {a_row a_list : Nat → Int32} (hS : SpOK u num P T) (hP : PaOK pk pn parts) (hL : LsOK n_row n_list a_list) : ∃ (ans : Int32) (dC dS : Nat), dC ≤ 8 ∧ dS ≤ 400000 ∧ (∀ MC MS, dC ≤ MC → dS ≤ MS → ∃ (u' : Int32) (num' : Int64) (pk' : Int32) (pn' : Int64) (n_row' : Nat) (a_row' : Nat → Int32) (n_list' : Nat) (a_list' : Nat → Int32) (P' : Nat → Int64) (T' : Nat → Int32) (parts' : Nat → Int64), f_X11_made N MC MS v1 u num pk pn n_row a_row n_list a_list P T parts = some (ans, u', num', pk', pn', n_row', a_row', n_list', a_list', P', T', parts') ∧ SpOK u' num' P' T' ∧ PaOK pk' pn' parts' ∧ (LsOK n_row' n_list' a_list' ∧ n_row ≤ n_row' ∧ n_list ≤ n_list') ∧ (if n_row' = n_row then 0 else 1) + (if n_list' = n_list then 0 else 1) = dC ∧ (n_row' - n_row) + (n_list' - n_list) = dS) ∧ ∀ mf : Nat → Int32, ∃ mf', f_X12_made N v1 mf = some (ans, mf') := by
  have h40 : (2 : Nat) ^ 40 = 1099511627776 := by decide
  have h20 : (2 : Nat) ^ 20 = 1048576 := by decide
  rcases with_f N v1 1 5000 (by decide) (by decide) with ⟨n, n1, nb, rfl, w1, w2⟩ | ⟨w1, w2⟩
  · have w1 : f_X11_within N (nI n) (1 : Int32) (5000 : Int32) = some 1 := w1
    have w2 : f_X12_in N (nI n).toInt64 (1 : Int64) (5000 : Int64) = some 1 := w2
    obtain ⟨eC, eS⟩ := c3_eq hL
    have hle := cC3_le n_row n_list
    obtain ⟨fC, fS⟩ := c3_diff hL
    refine ⟨mkA n, cC3 n_row n_list, cS3 n_row n_list, by omega, by omega, fun MC MS h1 h2 => ?_, fun mf => ?_⟩
    · obtain ⟨ar, al, p1, p2⟩ := prep3 N (by omega) hL (Nat.le_refl _) (Nat.le_refl _) a_row
      obtain ⟨w, a', P', T', parts', s1, hw, hA, hPa⟩ := fewest_f N hN n1 nb p2 hS hP 0 0 ar
      have hb1 : 0 + cC3 n_row n_list ≤ MC ∧ 0 + cS3 n_row n_list ≤ MS := ⟨by omega, by omega⟩
      have hb2 : 0 + cC3 n_row n_list + 0 ≤ MC ∧ 0 + cS3 n_row n_list + 0 ≤ MS := ⟨by omega, by omega⟩
      have e0 : ¬ nI 50001 = 0 := by decide
      refine ⟨nI w, lN n, nI (tau n), lN n, 50001, a', 9592, al, P', T', parts', ?_, ⟨w, n, rfl, rfl, hw, n1, by omega, hA⟩, Or.inr ⟨n, n1, by omega, rfl, rfl, hPa⟩, ⟨LsOK.done (n_row := 0) (n_list := 0) p2, hL.le⟩, fC, fS⟩
      unfold f_X11_made
      simp only [eC, eS, w1, ob, if_neg one0, if_pos (z2 MC MS), if_pos hb1, p1, if_neg e0, if_pos hb2, s1]
    · obtain ⟨mf', e⟩ := mmade_f N hN n1 nb mf
      refine ⟨mf', ?_⟩
      unfold f_X12_made
      rw [w2, ob, if_neg one0, e]
  · have w1 : f_X11_within N v1 (1 : Int32) (5000 : Int32) = some 0 := w1
    have w2 : f_X12_in N v1.toInt64 (1 : Int64) (5000 : Int64) = some 0 := w2
    refine ⟨-1, 0, 0, by decide, by decide, fun MC MS _ _ => ⟨u, num, pk, pn, n_row, a_row, n_list, a_list, P, T, parts, ?_, hS, hP, ⟨hL, Nat.le_refl _, Nat.le_refl _⟩, by simp, by simp⟩, fun mf => ⟨mf, ?_⟩⟩
    · unfold f_X11_made
      simp only [w1, ob, if_pos (z2 MC MS), if_true]
    · unfold f_X12_made
      rw [w2, ob, if_pos rfl]
