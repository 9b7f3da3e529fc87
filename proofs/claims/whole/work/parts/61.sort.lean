/-! rich, and a rich part -/
def rch (n : Nat) : Bool := decide (2 * n < sg n)
theorem sg_mul_ge {c d : Nat} (hc : 0 < c) (hd : 0 < d) : c * sg d ≤ sg (c * d) := by
  have h := fs_mult (fun x => if x ∣ c * d then x else 0) hc d
  have h1 : fb_sm (fun e => (fun x => if x ∣ c * d then x else 0) (c * e)) (d + 1) = c * sg d := by
    have : ∀ n, fb_sm (fun e => if c * e ∣ c * d then c * e else 0) n = c * fb_sm (fun e => if e ∣ d then e else 0) n := by
      intro n
      induction n with
      | zero => rfl
      | succ n ih =>
        rw [fb_sm_succ, fb_sm_succ, ih, Nat.mul_add]
        congr 1
        by_cases q : n ∣ d
        · rw [if_pos q, if_pos (Nat.mul_dvd_mul_left c q)]
        · rw [if_neg q, if_neg (fun w => q (Nat.dvd_of_mul_dvd_mul_left hc w)), Nat.mul_zero]
    exact this (d + 1)
  rw [← h1, ← h]
  show _ ≤ fb_sm (fun x => if x ∣ c * d then x else 0) (c * d + 1)
  refine fb_sm_le (fun k _ => ?_)
  show (if c ∣ k then (if k ∣ c * d then k else 0) else 0) ≤ _
  split
  · exact Nat.le_refl _
  · exact Nat.zero_le _
theorem rch_up {c d : Nat} (hc : 0 < c) (hd : 0 < d) (h : rch d = true) : rch (c * d) = true := by
  have h : 2 * d < sg d := by simpa [rch] using h
  have h2 := sg_mul_ge hc hd
  have : c * (2 * d) < c * sg d := Nat.mul_lt_mul_of_pos_left h hc
  have e : c * (2 * d) = 2 * (c * d) := by rw [Nat.mul_left_comm]
  simp only [rch, decide_eq_true_eq]
  omega
def hR (n : Nat) : Bool := decide (0 < fb_ct (fun d => decide (d ∣ n) && rch d) n)
theorem hR_iff (n : Nat) : hR n = true ↔ ∃ d, d < n ∧ d ∣ n ∧ rch d = true := by
  unfold hR
  rw [decide_eq_true_eq, fb_ct_pos]
  constructor
  · rintro ⟨k, h1, h2⟩
    simp only [Bool.and_eq_true, decide_eq_true_eq] at h2
    exact ⟨k, h1, h2.1, h2.2⟩
  · rintro ⟨k, h1, h2, h3⟩
    exact ⟨k, h1, by simp [h2, h3]⟩
theorem rch_2 {d : Nat} (h0 : 0 < d) (h : rch d = true) : 2 ≤ d := by
  rcases Nat.lt_or_ge d 2 with q | q
  · have : d = 1 := by omega
    subst this
    simp [rch, sg_1] at h
  · exact q
theorem hR_pr {n : Nat} (h0 : 0 < n) : hR n = true ↔ ∃ p, pr p ∧ p ∣ n ∧ rch (n / p) = true := by
  rw [hR_iff]
  constructor
  · rintro ⟨d, h1, ⟨e, he⟩, h3⟩
    subst he
    have hd0 : 0 < d := by
      rcases Nat.eq_zero_or_pos d with q | q
      · subst q; omega
      · exact q
    have he2 : 2 ≤ e := by
      rcases Nat.lt_or_ge e 2 with q | q
      · rcases (show e = 0 ∨ e = 1 by omega) with rfl | rfl <;> omega
      · exact q
    obtain ⟨p, hp, ⟨c, hc⟩, _⟩ := pr_has he2
    subst hc
    have hp0 : 0 < p := by have := hp.1; omega
    have hc0 : 0 < c := by
      rcases Nat.eq_zero_or_pos c with q | q
      · subst q; omega
      · exact q
    refine ⟨p, hp, Nat.dvd_trans (Nat.dvd_mul_right p c) (Nat.dvd_mul_left (p * c) d), ?_⟩
    rw [show d * (p * c) / p = c * d by rw [show d * (p * c) = p * (c * d) by rw [Nat.mul_left_comm, Nat.mul_comm d c]]; exact Nat.mul_div_cancel_left _ hp0]
    exact rch_up hc0 hd0 h3
  · rintro ⟨p, hp, ⟨d, hd⟩, h3⟩
    subst hd
    have hp0 : 0 < p := by have := hp.1; omega
    rw [Nat.mul_div_cancel_left _ hp0] at h3
    have hd0 : 0 < d := by
      rcases Nat.eq_zero_or_pos d with q | q
      · subst q; omega
      · exact q
    refine ⟨d, ?_, Nat.dvd_mul_left d p, h3⟩
    have : 1 * d < p * d := Nat.mul_lt_mul_of_pos_right (by have := hp.1; omega) hd0
    omega
theorem tbz1 {n : Nat} (h1 : 1 ≤ n) (hn : n ≤ 50000) : tbv 1 n = sg n - n := by
  unfold tbv
  rw [if_pos ⟨h1, hn⟩]
  rfl
theorem tbz0 {n : Nat} (h1 : 1 ≤ n) (hn : n ≤ 50000) : tbv 0 n = sg n := by
  unfold tbv
  rw [if_pos ⟨h1, hn⟩]
  rfl
theorem sg_n {n : Nat} (h1 : 1 ≤ n) : n ≤ sg n := by have := sg_ge h1; omega
/-- 0, 1 or 2: less, equal, more -/
def wgh (n : Nat) : Nat := if sg n < 2 * n then 0 else if sg n = 2 * n then 1 else 2
theorem weigh_f (N : Nat) {t : Nat → Int32} (hT : MT 0 t) {n : Nat} (h1 : 1 ≤ n) (hn : n ≤ 50000) : f_X12_weigh N (nI n) t = some (nI (wgh n)) := by
  have g := tbv_lt (k := 0) (x := n) (by decide)
  have hg := sg_n h1
  unfold f_X12_weigh wgh
  rw [if_neg (L_in n 50001 (by omega) (by omega)), nI_clamp (by omega), hT n hn]
  rw [tbz0 h1 hn] at *
  rw [pk_sub hg]
  simp only [xl]
  by_cases c : sg n < 2 * n
  · rw [if_neg (L_nle n (sg n - n) (by omega) (by omega)), if_pos c]; rfl
  · rw [if_pos (L_le n (sg n - n) (by omega) (by omega)), if_neg c]
    by_cases c2 : sg n = 2 * n
    · rw [if_pos (by rw [c2, show 2 * n - n = n by omega]), if_pos c2]; rfl
    · rw [if_neg (L_ne (sg n - n) n (by omega) (by omega) (by omega)), if_neg c2]; rfl
theorem wgh_2 (n : Nat) : wgh n = 2 ↔ rch n = true := by
  unfold wgh rch
  simp only [decide_eq_true_eq]
  split
  · constructor <;> omega
  · split
    · constructor <;> omega
    · constructor <;> omega
def srt (n : Nat) : Nat := if wgh n < 2 then wgh n else if hR n then 2 else 3
theorem sortOf_f (N : Nat) (hN : 2 ^ 40 ≤ N) {t : Nat → Int32} (hT : MT 0 t) {n : Nat} (h1 : 1 ≤ n) (hn : n ≤ 50000) : f_X12_sortOf N (nI n) t = some (nI (srt n)) := by
  have h40 : (2 : Nat) ^ 40 = 1099511627776 := by decide
  have hw3 : wgh n < 3 := by unfold wgh; split <;> (try split) <;> omega
  unfold f_X12_sortOf srt
  rw [weigh_f N hT h1 hn, ob]
  by_cases c : wgh n < 2
  · rw [if_neg (L_nle 2 (wgh n) c (by decide)), if_pos c]
  · rw [if_pos (L_le 2 (wgh n) (by omega) (by omega)), if_neg c]
    unfold l_X12_sortOf_15
    refine lp_eq _ (I := fun (z : Int32) => ∃ x : Nat, z = nI x ∧ 2 ≤ x ∧ x ≤ 50002 ∧ ∀ d, 2 ≤ d → d < x → d < n → d ∣ n → rch d = false) (μ := fun z => 50003 - z.toNatClampNeg) ?_ N _ ?_ ?_
    · intro z K hI hK
      obtain ⟨x, rfl, hx2, hx, hno⟩ := hI
      show s_X12_sortOf_15 N (nI n) t K (nI x) = _
      unfold s_X12_sortOf_15
      rw [show (2 : Int32) = nI 2 from rfl, pk_div (by omega) (by decide) (by decide)]
      have hμ : 50003 - (nI (x + 1)).toNatClampNeg < 50003 - (nI x).toNatClampNeg := by rw [nI_clamp (by omega), nI_clamp (by omega)]; omega
      by_cases e : n / 2 < x
      · rw [if_pos (L_lt (n / 2) x e (by omega)), if_neg]
        · rfl
        · intro q
          obtain ⟨d, d1, d2, d3⟩ := (hR_iff n).mp q
          have hd0 : 0 < d := Nat.pos_of_dvd_of_pos d2 h1
          have := rch_2 hd0 d3
          have hlt : d < x := by
            obtain ⟨e2, he2⟩ := d2
            have : 2 ≤ e2 := by
              rcases Nat.lt_or_ge e2 2 with q | q
              · rcases (show e2 = 0 ∨ e2 = 1 by omega) with rfl | rfl <;> omega
              · exact q
            have : d * 2 ≤ d * e2 := Nat.mul_le_mul_left d this
            omega
          have := hno d (by omega) hlt d1 d2
          rw [this] at d3
          exact absurd d3 (by decide)
      · rw [if_neg (L_nlt (n / 2) x (by omega) (by omega)), if_neg (L_ne x 0 (by omega) (by omega) (by decide))]
        simp only [xl, nI_1]
        by_cases dv : n % x = 0
        · rw [if_pos ((L_rem (by omega) (by omega) (by omega)).mpr dv), weigh_f N hT (by omega) (by omega), ob]
          have dv' : x ∣ n := Nat.dvd_of_mod_eq_zero dv
          have hwx : wgh x < 3 := by unfold wgh; split <;> (try split) <;> omega
          by_cases r : wgh x = 2
          · rw [if_pos (by rw [r]), if_pos ((hR_iff n).mpr ⟨x, by omega, dv', (wgh_2 x).mp r⟩)]
          · rw [if_neg (L_ne (wgh x) 2 r (by omega) (by decide))]
            refine hK _ ⟨x + 1, rfl, by omega, by omega, fun d a b c2 e2 => ?_⟩ hμ
            rcases Nat.lt_or_ge d x with w | w
            · exact hno d a w c2 e2
            · have : d = x := by omega
              subst this
              have : ¬ rch d = true := fun q => r ((wgh_2 d).mpr q)
              simpa using this
        · rw [if_neg (fun q => dv ((L_rem (by omega) (by omega) (by omega)).mp q))]
          refine hK _ ⟨x + 1, rfl, by omega, by omega, fun d a b c2 e2 => ?_⟩ hμ
          rcases Nat.lt_or_ge d x with w | w
          · exact hno d a w c2 e2
          · have : d = x := by omega
            subst this
            exact absurd (Nat.mod_eq_zero_of_dvd e2) dv
    · exact ⟨2, rfl, by decide, by decide, fun d a b => by omega⟩
    · show 50003 - _ < N
      omega
theorem without_f (N : Nat) {uu n k p : Nat} (hu : uu ≤ 12) (hk : k < uu) (hn : n < 2 ^ 63) {P : Nat → Int64} (hp : P k = lN p) (hp2 : 2 ≤ p) (hpb : p < 2 ^ 63) : f_X6_without N (nI k) (nI uu) (lN n) P = some (lN (n / p)) := by
  unfold f_X6_without
  rw [if_neg (nI_pos (by omega)), if_neg (L_nle uu k hk (by omega)), if_neg (L_nle 12 k (by omega) (by decide)), if_neg (L_in k 12 (by omega) (by omega)), nI_clamp (by omega), hp, if_pos (M_le 2 p hp2 hpb)]
  simp only [xl]
  rw [if_neg (M_ne p 0 (by omega) hpb (by decide)), pk_lDiv hn (by omega) hpb]
theorem richPart_f (N : Nat) (hN : 2 ^ 40 ≤ N) {A B : Nat → Int32} (hT : TT A B) {uu n : Nat} (h1 : 1 ≤ n) (hn : n ≤ 50000) (hu : uu ≤ 12) {P : Nat → Int64} {T : Nat → Int32} (hA : SpA uu n P T) (num : Int64) (hnum : num = lN n) : l_X11_hasRichPart_11 N (nI uu) num P T 50001 A 50001 B N (0 : Int32) = some (if hR n = true then 1 else 0, nI uu, num, P, T) := by
  have h40 : (2 : Nat) ^ 40 = 1099511627776 := by decide
  subst hnum
  obtain ⟨PP, EE, hF, hv⟩ := hA
  unfold l_X11_hasRichPart_11
  refine lp_eq _ (I := fun (z : Int32) => ∃ x : Nat, z = nI x ∧ x ≤ uu ∧ ∀ k, k < x → rch (n / PP k) = false) (μ := fun z => 50003 - z.toNatClampNeg) ?_ N _ ?_ ?_
  · intro z K hI hK
    obtain ⟨x, rfl, hx, hno⟩ := hI
    show s_X11_hasRichPart_11 N (nI uu) (lN n) P T 50001 A 50001 B K (nI x) = _
    unfold s_X11_hasRichPart_11
    by_cases e : uu ≤ x
    · rw [if_pos (L_le uu x e (by omega)), if_neg]
      intro q
      obtain ⟨p, hp, hd, hr⟩ := (hR_pr h1).mp q
      have : ¬ ∀ i, i < uu → PP i ≠ p := fun w => hF.free hp w hd
      refine this (fun i hi w => ?_)
      have := hno i (by omega)
      rw [w, hr] at this
      exact absurd this (by decide)
    · have hpx := hF.1 x (by omega)
      have hdx : PP x ∣ n := hF.dvd x (by omega)
      have hpn : PP x ≤ n := Nat.le_of_dvd h1 hdx
      have h2 := hpx.1.1
      rw [if_neg (L_nle uu x (by omega) (by omega)), without_f N hu (by omega) (by omega) (hv x (by omega)).1 h2 (by omega), ob]
      simp only [xl, lN_i]
      have hq1 : 1 ≤ n / PP x := Nat.div_pos hpn (by omega)
      have hq2 : n / PP x ≤ n := Nat.div_le_self _ _
      have s1 : f_X7_summed N (1 : Int32) (nI (n / PP x)) 50001 A 50001 B = some (nI (tbv 1 (n / PP x))) := summed7 N hT (k := 1) (by decide) (by omega)
      rw [s1, ob]
      have g := tbv_lt (k := 1) (x := n / PP x) (by decide)
      rw [tbz1 hq1 (by omega)] at *
      have hge := sg_n hq1
      by_cases c : sg (n / PP x) - n / PP x ≤ n / PP x
      · rw [if_pos (L_le (sg (n / PP x) - n / PP x) (n / PP x) c (by omega)), nI_1]
        refine hK _ ⟨x + 1, rfl, by omega, fun k hk => ?_⟩ ?_
        · rcases Nat.lt_or_ge k x with w | w
          · exact hno k w
          · have : k = x := by omega
            subst this
            simp only [rch, decide_eq_false_iff_not]
            omega
        · show 50003 - (nI (x + 1)).toNatClampNeg < 50003 - (nI x).toNatClampNeg
          rw [nI_clamp (by omega), nI_clamp (by omega)]; omega
      · rw [if_neg (L_nle (sg (n / PP x) - n / PP x) (n / PP x) (by omega) (by omega)), if_pos]
        refine (hR_pr h1).mpr ⟨PP x, hpx.1, hdx, ?_⟩
        simp only [rch, decide_eq_true_eq]
        omega
  · exact ⟨0, rfl, Nat.zero_le _, fun k hk => by omega⟩
  · show 50003 - _ < N
    omega
theorem TbOK.row {n_row n_all n_apart : Nat} {a_all a_apart : Nat → Int32} (h : TbOK n_row n_all a_all n_apart a_apart) : TbOK 50001 n_all a_all n_apart a_apart := by
  refine ⟨Or.inr rfl, ?_⟩
  rcases h.2 with a | ⟨a, b, c, d⟩
  · exact Or.inl a
  · exact Or.inr ⟨a, b, rfl, d⟩
theorem LsOK.row {n_row n_list : Nat} {a_list : Nat → Int32} (h : LsOK n_row n_list a_list) : LsOK 50001 n_list a_list := by
  refine ⟨Or.inr rfl, ?_⟩
  rcases h.2 with a | ⟨a, b, c⟩
  · exact Or.inl a
  · exact Or.inr ⟨a, rfl, c⟩
/-- the change of lengths when both preparations are done -/
theorem c37_diff {n_row n_list n_all n_apart : Nat} {a_list a_all a_apart : Nat → Int32} (hL : LsOK n_row n_list a_list) (hT : TbOK n_row n_all a_all n_apart a_apart) : (if 50001 = n_row then 0 else 1) + (if 9592 = n_list then 0 else 1) + (if 50001 = n_all then 0 else 1) + (if 50001 = n_apart then 0 else 1) = cC3 n_row n_list + cC7 50001 n_all ∧ (50001 - n_row) + (9592 - n_list) + (50001 - n_all) + (50001 - n_apart) = cS3 n_row n_list + cS7 50001 n_all := by
  obtain ⟨a, b⟩ := c3_diff hL
  obtain ⟨c, d⟩ := c7_diff hT.row
  simp only [if_true, Nat.sub_self] at c d
  constructor <;> omega
theorem sort_eq (N : Nat) (hN : 2 ^ 40 ≤ N) (v1 : Int32) {u : Int32} {num : Int64} {P : Nat → Int64} {T : Nat → Int32} {n_row n_list n_all n_apart : Nat} {a_row a_list a_all a_apart : Nat → Int32} (hS : SpOK u num P T) (hL : LsOK n_row n_list a_list) (hT : TbOK n_row n_all a_all n_apart a_apart) : ∃ (ans : Int32) (dC dS : Nat), dC ≤ 8 ∧ dS ≤ 400000 ∧ (∀ MC MS, dC ≤ MC → dS ≤ MS → ∃ (u' : Int32) (num' : Int64) (n_row' : Nat) (a_row' : Nat → Int32) (n_list' : Nat) (a_list' : Nat → Int32) (P' : Nat → Int64) (T' : Nat → Int32) (n_all' : Nat) (a_all' : Nat → Int32) (n_apart' : Nat) (a_apart' : Nat → Int32), f_X11_sort N MC MS v1 u num n_row a_row n_list a_list P T n_all a_all n_apart a_apart = some (ans, u', num', n_row', a_row', n_list', a_list', P', T', n_all', a_all', n_apart', a_apart') ∧ SpOK u' num' P' T' ∧ LsOK n_row' n_list' a_list' ∧ TbOK n_row' n_all' a_all' n_apart' a_apart' ∧ (n_row ≤ n_row' ∧ n_list ≤ n_list' ∧ n_all ≤ n_all' ∧ n_apart ≤ n_apart') ∧ (if n_row' = n_row then 0 else 1) + (if n_list' = n_list then 0 else 1) + (if n_all' = n_all then 0 else 1) + (if n_apart' = n_apart then 0 else 1) = dC ∧ (n_row' - n_row) + (n_list' - n_list) + (n_all' - n_all) + (n_apart' - n_apart) = dS) ∧ ∀ (pm tk : Int32) (mp : Nat → Int64) (mt : Nat → Int32), MtOK tk mt → ∃ (pm' tk' : Int32) (mp' : Nat → Int64) (mt' : Nat → Int32), f_X12_sort N v1 pm tk mp mt = some (ans, pm', tk', mp', mt') ∧ MtOK tk' mt' := by
  have h40 : (2 : Nat) ^ 40 = 1099511627776 := by decide
  have h20 : (2 : Nat) ^ 20 = 1048576 := by decide
  have h30 : (2 : Nat) ^ 30 = 1073741824 := by decide
  rcases bnd_f N v1 with ⟨n, n1, nb, rfl, w1, _, w2⟩ | ⟨w1, _, w2⟩
  · have l3 := cC3_le n_row n_list
    have l7 := cC7_le 50001 n_all
    obtain ⟨eC, eS⟩ := c3_eq hL
    obtain ⟨gC, gS⟩ := c7_eq hT.row
    obtain ⟨fC, fS⟩ := c37_diff hL hT
    refine ⟨nI (srt n), cC3 n_row n_list + cC7 50001 n_all, cS3 n_row n_list + cS7 50001 n_all, by omega, by omega, fun MC MS h1 h2 => ?_, fun pm tk mp mt hM => ?_⟩
    · obtain ⟨ar, al, p1, p2⟩ := prep3 N (by omega) hL (Nat.le_refl _) (Nat.le_refl _) a_row
      obtain ⟨ar2, A, B, q1, q2⟩ := prep7 N (by omega) hT.row (Nat.le_refl _) (Nat.le_refl _) ar
      have hb1 : 0 + cC3 n_row n_list ≤ MC ∧ 0 + cS3 n_row n_list ≤ MS := ⟨by omega, by omega⟩
      have hb2 : 0 + cC3 n_row n_list + cC7 50001 n_all ≤ MC ∧ 0 + cS3 n_row n_list + cS7 50001 n_all ≤ MS := ⟨by omega, by omega⟩
      have s1 : f_X7_summed N (1 : Int32) (nI n) 50001 A 50001 B = some (nI (tbv 1 n)) := summed7 N q2 (k := 1) (by decide) (by omega)
      have g := tbv_lt (k := 1) (x := n) (by decide)
      have hge := sg_n n1
      rw [tbz1 n1 nb] at s1 g
      have hrow : n_row ≤ 50001 ∧ n_list ≤ 9592 ∧ n_all ≤ 50001 ∧ n_apart ≤ 50001 := ⟨hL.le.1, hL.le.2, hT.le.2⟩
      by_cases c : n < sg n - n
      · obtain ⟨w, P', T', s2, hw, hA⟩ := splitUp_f N (by omega) p2 hS n1 (show n ≤ 10000000000 by omega)
        refine ⟨nI w, lN n, 50001, ar2, 9592, al, P', T', 50001, A, 50001, B, ?_, ⟨w, n, rfl, rfl, hw, n1, by omega, hA⟩, LsOK.done (n_row := 0) (n_list := 0) p2, TbOK.done q2, hrow, fC, fS⟩
        have er : f_X11_hasRichPart N (nI n) u num 9592 al P T 50001 A 50001 B = some (if hR n = true then 1 else 0, nI w, lN n, P', T') := by
          unfold f_X11_hasRichPart
          rw [nI_i64 (by omega), s2, ob]
          exact richPart_f N hN q2 n1 nb hw hA (lN n) rfl
        unfold f_X11_sort
        simp only [eC, eS, w1, ob, if_neg one0, if_pos (z2 MC MS), if_pos hb1, p1, gC, gS, if_pos hb2, q1, s1, if_pos (L_lt n (sg n - n) c (by omega)), er, ite01]
        have hs : wgh n = 2 := by unfold wgh; rw [if_neg (by omega), if_neg (by omega)]
        have hsr : srt n = if hR n = true then 2 else 3 := by unfold srt; rw [hs, if_neg (by decide)]
        rw [hsr]
        by_cases q : hR n = true
        · rw [if_neg (show ¬ ¬ hR n = true from fun w => w q), if_pos q]; rfl
        · rw [if_pos q, if_neg q]; rfl
      · refine ⟨u, num, 50001, ar2, 9592, al, P, T, 50001, A, 50001, B, ?_, hS, LsOK.done (n_row := 0) (n_list := 0) p2, TbOK.done q2, hrow, fC, fS⟩
        unfold f_X11_sort
        simp only [eC, eS, w1, ob, if_neg one0, if_pos (z2 MC MS), if_pos hb1, p1, gC, gS, if_pos hb2, q1, s1, if_neg (L_nlt n (sg n - n) (by omega) (by omega))]
        by_cases c2 : n ≤ sg n - n
        · have hs : wgh n = 1 := by unfold wgh; rw [if_neg (by omega), if_pos (by omega)]
          have hsr : srt n = 1 := by unfold srt; rw [hs, if_pos (by decide)]
          rw [if_pos (L_le n (sg n - n) c2 (by omega)), hsr]; rfl
        · have hs : wgh n = 0 := by unfold wgh; rw [if_pos (by omega)]
          have hsr : srt n = 0 := by unfold srt; rw [hs, if_pos (by decide)]
          rw [if_neg (L_nle n (sg n - n) (by omega) (by omega)), hsr]; rfl
    · obtain ⟨pm', mp', t, l1, l2⟩ := layTable_f N hN (show 0 ≤ 3 by decide) hM pm mp
      have l1 : f_X12_layTable N (0 : Int32) pm tk mp mt = some (pm', nI 0, mp', t) := l1
      refine ⟨pm', nI 0, mp', t, ?_, MtOK.done (by decide) l2⟩
      unfold f_X12_sort
      simp only [w2, ob, if_neg one0, l1, sortOf_f N hN l2 n1 nb]
  · refine ⟨-1, 0, 0, by decide, by decide, fun MC MS _ _ => ⟨u, num, n_row, a_row, n_list, a_list, P, T, n_all, a_all, n_apart, a_apart, ?_, hS, hL, hT, ⟨Nat.le_refl _, Nat.le_refl _, Nat.le_refl _, Nat.le_refl _⟩, by simp, by simp⟩, fun pm tk mp mt hM => ⟨pm, tk, mp, mt, ?_, hM⟩⟩
    · unfold f_X11_sort
      simp only [w1, ob, if_pos (z2 MC MS), if_true]
    · unfold f_X12_sort
      simp only [w2, ob, if_true]
