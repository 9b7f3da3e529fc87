/-! reached, bare, records -/
def rA (p : Nat → Bool) : Nat → Nat → Int32
  | 0, _ => -4
  | d + 1, n => if p n then nI n else rA p d (n + 1)
def rE (a b n : Nat) : Bool := !decide ((nI (tbv 0 n)).toInt64 * (nI b).toInt64 < (nI a).toInt64 * (nI n).toInt64)
theorem re_c (N : Nat) {A B : Nat → Int32} (hT : TT A B) {x y b : Nat} (hb : b ≤ 50000) : ∀ d n f, n + d = b + 1 → 1 ≤ n → d < f → l_X5_firstReaching_3 N (nI x) (nI y) (nI b) 50001 A 50001 B f (nI n) = some (rA (rE x y) d n)
  | 0, n, f + 1, h, h1, hf => by
    show s_X5_firstReaching_3 N (nI x) (nI y) (nI b) 50001 A 50001 B _ (nI n) = _
    unfold s_X5_firstReaching_3
    rw [if_pos (L_lt b n (by omega) (by omega))]; rfl
  | d + 1, n, f + 1, h, h1, hf => by
    show s_X5_firstReaching_3 N (nI x) (nI y) (nI b) 50001 A 50001 B (l_X5_firstReaching_3 N (nI x) (nI y) (nI b) 50001 A 50001 B f) (nI n) = _
    have ih := re_c N hT (x := x) (y := y) hb d (n + 1) f (by omega) (by omega) (by omega)
    have s0 : f_X7_summed N (0 : Int32) (nI n) 50001 A 50001 B = some (nI (tbv 0 n)) := summed7 N hT (k := 0) (by decide) (by omega)
    unfold s_X5_firstReaching_3 rA
    rw [if_neg (L_nlt b n (by omega) (by omega)), s0, ob]
    simp only [xl, nI_1, ih]
    by_cases c : (nI (tbv 0 n)).toInt64 * (nI y).toInt64 < (nI x).toInt64 * (nI n).toInt64
    · rw [if_pos c, if_neg (by simp [rE, c])]
    · rw [if_neg c, if_pos (by simp [rE, c])]
theorem re_m (N : Nat) {t : Nat → Int32} (hT : MT 0 t) (pm tk : Int32) (ps : Nat → Int64) {x y b : Nat} (hb : b ≤ 50000) : ∀ d n f, n + d = b + 1 → 1 ≤ n → d < f → l_X12_reached_41 N (nI x) (nI y) (nI b) pm tk ps t f (nI n) = some (rA (rE x y) d n, pm, tk, ps, t)
  | 0, n, f + 1, h, h1, hf => by
    show s_X12_reached_41 N (nI x) (nI y) (nI b) pm tk ps t _ (nI n) = _
    unfold s_X12_reached_41
    rw [if_pos (L_lt b n (by omega) (by omega))]; rfl
  | d + 1, n, f + 1, h, h1, hf => by
    show s_X12_reached_41 N (nI x) (nI y) (nI b) pm tk ps t (l_X12_reached_41 N (nI x) (nI y) (nI b) pm tk ps t f) (nI n) = _
    have ih := re_m N hT pm tk ps (x := x) (y := y) hb d (n + 1) f (by omega) (by omega) (by omega)
    unfold s_X12_reached_41 rA
    rw [if_neg (L_nlt b n (by omega) (by omega)), if_neg (L_in n 50001 (by omega) (by omega)), nI_clamp (by omega), hT n (by omega)]
    simp only [xl, nI_1, ih]
    by_cases c : (nI (tbv 0 n)).toInt64 * (nI y).toInt64 < (nI x).toInt64 * (nI n).toInt64
    · rw [if_pos c, if_neg (by simp [rE, c])]
    · rw [if_neg c, if_pos (by simp [rE, c])]
theorem reached_eq (N : Nat) (hN : 2 ^ 40 ≤ N) (v1 v2 v3 : Int32) {n_row n_all n_apart : Nat} {a_row a_all a_apart : Nat → Int32} (hT : TbOK n_row n_all a_all n_apart a_apart) : TRes (fun MC MS => (f_X11_reached N MC MS v1 v2 v3 n_row a_row n_all a_all n_apart a_apart).map (fun r => (r.1, 0, 0, r.2))) (fun pm tk mp mt => f_X12_reached N v1 v2 v3 pm tk mp mt) n_row n_all n_apart := by
  have h40 : (2 : Nat) ^ 40 = 1099511627776 := by decide
  rcases with_f N v1 1 1000 (by decide) (by decide) with ⟨x, _, hx, rfl, w1, w2⟩ | ⟨w1, w2⟩
  · have w1 : f_X11_within N (nI x) (1 : Int32) (1000 : Int32) = some 1 := w1
    have w2 : f_X12_in N (nI x).toInt64 (1 : Int64) (1000 : Int64) = some 1 := w2
    rcases with_f N v2 1 1000 (by decide) (by decide) with ⟨y, hy1, hy, rfl, x1, x2⟩ | ⟨x1, x2⟩
    · have x1 : f_X11_within N (nI y) (1 : Int32) (1000 : Int32) = some 1 := x1
      have x2 : f_X12_in N (nI y).toInt64 (1 : Int64) (1000 : Int64) = some 1 := x2
      rcases bnd_f N v3 with ⟨b, hb1, hb, rfl, y1, y2, _⟩ | ⟨y1, y2, _⟩
      · refine TRes.good N hN (a_row := a_row) hT (rA (rE x y) b 1) (fun MC MS ar A B p1 p2 hbu hz => ?_) (fun pm tk mp mt hM => ?_)
        · obtain ⟨eC, eS⟩ := c7_eq hT
          have e : f_X5_firstReaching N (nI x) (nI y) (nI b) 50001 A 50001 B = some (rA (rE x y) b 1) := re_c N p2 hb b 1 N (by omega) (by omega) (by omega)
          refine ⟨0, 0, ar, ?_⟩
          unfold f_X11_reached
          simp only [eC, eS, w1, x1, y1, ob, if_neg one0, if_pos (z2 MC MS), if_pos hbu, p1, e, Option.map_some]
        · obtain ⟨pm', mp', t, l1, l2⟩ := layTable_f N hN (show 0 ≤ 3 by decide) hM pm mp
          have l1 : f_X12_layTable N (0 : Int32) pm tk mp mt = some (pm', nI 0, mp', t) := l1
          refine ⟨pm', nI 0, mp', t, ?_, MtOK.done (by decide) l2⟩
          show f_X12_reached N (nI x) (nI y) (nI b) pm tk mp mt = _
          have e : l_X12_reached_41 N (nI x) (nI y) (nI b) pm' (nI 0) mp' t N (1 : Int32) = some (rA (rE x y) b 1, pm', nI 0, mp', t) := re_m N l2 pm' (nI 0) mp' hb b 1 N (by omega) (by omega) (by omega)
          unfold f_X12_reached
          simp only [w2, x2, y2, ob, if_neg one0, l1, e]
      · refine TRes.bad (a_row := a_row) hT (pw := 0) (ps := 0) (fun MC MS => ?_) (fun pm tk mp mt => ?_)
        · unfold f_X11_reached
          simp only [w1, x1, y1, ob, if_neg one0, if_pos (z2 MC MS), if_true, Option.map_some]
        · unfold f_X12_reached
          simp only [w2, x2, y2, ob, if_neg one0, if_true]
    · have x1 : f_X11_within N v2 (1 : Int32) (1000 : Int32) = some 0 := x1
      have x2 : f_X12_in N v2.toInt64 (1 : Int64) (1000 : Int64) = some 0 := x2
      refine TRes.bad (a_row := a_row) hT (pw := 0) (ps := 0) (fun MC MS => ?_) (fun pm tk mp mt => ?_)
      · unfold f_X11_reached
        simp only [w1, x1, ob, if_neg one0, if_pos (z2 MC MS), if_true, Option.map_some]
      · unfold f_X12_reached
        simp only [w2, x2, ob, if_neg one0, if_true]
  · have w1 : f_X11_within N v1 (1 : Int32) (1000 : Int32) = some 0 := w1
    have w2 : f_X12_in N v1.toInt64 (1 : Int64) (1000 : Int64) = some 0 := w2
    refine TRes.bad (a_row := a_row) hT (pw := 0) (ps := 0) (fun MC MS => ?_) (fun pm tk mp mt => ?_)
    · unfold f_X11_reached
      simp only [w1, ob, if_pos (z2 MC MS), if_true, Option.map_some]
    · unfold f_X12_reached
      simp only [w2, ob, if_true]
/-! bare -/
theorem pkA_first {p : Nat → Bool} : ∀ d n, n + d < 2 ^ 31 → (∃ x, n ≤ x ∧ x < n + d ∧ p x = true ∧ pkA p 0 d n 0 = nI x) ∨ ((∀ x, n ≤ x → x < n + d → p x = false) ∧ pkA p 0 d n 0 = -4)
  | 0, n, _ => Or.inr ⟨fun x h1 h2 => by omega, by unfold pkA; rw [if_neg (by decide)]⟩
  | d + 1, n, h => by
    unfold pkA
    by_cases hp : p n = true
    · left
      refine ⟨n, Nat.le_refl n, by omega, hp, ?_⟩
      rw [if_pos hp, if_pos (show nI 0 = (0 : Int32) from rfl)]
    · rw [if_neg hp]
      rcases pkA_first (p := p) d (n + 1) (by omega) with ⟨x, a, b, c, e⟩ | ⟨a, e⟩
      · exact Or.inl ⟨x, by omega, by omega, c, e⟩
      · refine Or.inr ⟨fun x h1 h2 => ?_, e⟩
        rcases Nat.eq_or_lt_of_le h1 with q | q
        · subst q; simpa using hp
        · exact a x q (by omega)
theorem sg_three {n e : Nat} (hd : e ∣ n) (h1 : 1 < e) (h2 : e < n) : n + e + 1 ≤ sg n := by
  show n + e + 1 ≤ fb_sm (fun d => if d ∣ n then d else 0) (n + 1)
  have a := fb_sm_succ (fun d => if d ∣ n then d else 0) n
  rw [if_pos (Nat.dvd_refl n)] at a
  have b := fb_sm_part (fun d => if d ∣ n then d else 0) h2
  rw [if_pos hd] at b
  have c := fb_sm_part (fun d => if d ∣ n then d else 0) h1
  rw [if_pos (Nat.one_dvd n)] at c
  omega
theorem sg_pr {p : Nat} (hp : pr p) : sg p = p + 1 := by
  have := sg_pow hp (m := 1) (fun h => by have := Nat.le_of_dvd (by decide) h; have := hp.1; omega) (by decide) 1
  rw [Nat.mul_one, Nat.pow_one, sg_1, Nat.mul_one] at this
  rw [this]
  simp [gs]
theorem bare_far {n m : Nat} (hm : 2 ≤ m) (h0 : 0 < n) (h : sg n - n = m) : n ≤ (m - 1) * (m - 1) := by
  by_cases c : ∃ d, 2 ≤ d ∧ d * d ≤ n ∧ d ∣ n
  · obtain ⟨d, h2, hd, e, he⟩ := c
    subst he
    have hde : d ≤ e := Nat.le_of_mul_le_mul_left hd (by omega)
    have : e < d * e := by
      have : 1 * e < d * e := Nat.mul_lt_mul_of_pos_right (by omega) (by omega)
      omega
    have := sg_three (n := d * e) (e := e) (Nat.dvd_mul_left e d) (by omega) this
    have : e ≤ m - 1 := by omega
    exact Nat.mul_le_mul (by omega) this
  · exfalso
    rcases Nat.lt_or_ge n 2 with q | q
    · have : n = 1 := by omega
      subst this
      rw [sg_1] at h
      omega
    · have := sg_pr (pr_root q (fun d a b e => c ⟨d, a, b, e⟩))
      omega
theorem bare_m (N : Nat) {t : Nat → Int32} (hT : MT 1 t) (pm tk : Int32) (ps : Nat → Int64) {m : Nat} (hm : m < 2 ^ 31) : ∀ d n f, n + d = 40001 → 1 ≤ n → d < f → ∃ a : Int32, l_X12_bare_23 N (nI m) pm tk ps t f (nI n) = some (a, pm, tk, ps, t) ∧ ((a = 0 ∧ ∃ x, n ≤ x ∧ x ≤ 40000 ∧ tbv 1 x = m) ∨ (a = 1 ∧ ∀ x, n ≤ x → x ≤ 40000 → tbv 1 x ≠ m))
  | 0, n, f + 1, h, h1, hf => by
    refine ⟨1, ?_, Or.inr ⟨rfl, fun x _ _ => by omega⟩⟩
    show s_X12_bare_23 N (nI m) pm tk ps t _ (nI n) = _
    unfold s_X12_bare_23
    rw [if_pos (L_lt 40000 n (by omega) (by omega))]
  | d + 1, n, f + 1, h, h1, hf => by
    obtain ⟨a, ih, hc⟩ := bare_m N hT pm tk ps hm d (n + 1) f (by omega) (by omega) (by omega)
    have hq : (nI (tbv 1 n) = nI m) ↔ tbv 1 n = m := nI_eq (by have := tbv_lt (k := 1) (x := n) (by decide); omega) hm
    have e : l_X12_bare_23 N (nI m) pm tk ps t (f + 1) (nI n) = if nI (tbv 1 n) = nI m then some (0, pm, tk, ps, t) else some (a, pm, tk, ps, t) := by
      show s_X12_bare_23 N (nI m) pm tk ps t (l_X12_bare_23 N (nI m) pm tk ps t f) (nI n) = _
      unfold s_X12_bare_23
      rw [if_neg (L_nlt 40000 n (by omega) (by omega)), if_neg (L_in n 50001 (by omega) (by omega)), nI_clamp (by omega), hT n (by omega)]
      simp only [xl, nI_1, ih]
    rw [e]
    by_cases c : tbv 1 n = m
    · exact ⟨0, by rw [if_pos (hq.mpr c)], Or.inl ⟨rfl, n, Nat.le_refl n, by omega, c⟩⟩
    · refine ⟨a, by rw [if_neg (fun q => c (hq.mp q))], ?_⟩
      rcases hc with ⟨a1, x, b1, b2, b3⟩ | ⟨a1, b1⟩
      · exact Or.inl ⟨a1, x, by omega, b2, b3⟩
      · refine Or.inr ⟨a1, fun x q1 q2 => ?_⟩
        rcases Nat.eq_or_lt_of_le q1 with q | q
        · subst q; exact c
        · exact b1 x q q2
theorem bare_eq (N : Nat) (hN : 2 ^ 40 ≤ N) (v1 pw ps : Int32) {n_row n_all n_apart : Nat} {a_row a_all a_apart : Nat → Int32} (hT : TbOK n_row n_all a_all n_apart a_apart) : TRes (fun MC MS => f_X11_bare N MC MS v1 pw ps n_row a_row n_all a_all n_apart a_apart) (fun pm tk mp mt => f_X12_bare N v1 pm tk mp mt) n_row n_all n_apart := by
  have h40 : (2 : Nat) ^ 40 = 1099511627776 := by decide
  rcases with_f N v1 2 200 (by decide) (by decide) with ⟨m, hm1, hm, rfl, w1, w2⟩ | ⟨w1, w2⟩
  · have w1 : f_X11_within N (nI m) (2 : Int32) (200 : Int32) = some 1 := w1
    have w2 : f_X12_in N (nI m).toInt64 (2 : Int64) (200 : Int64) = some 1 := w2
    have hmm : (m - 1) * (m - 1) ≤ 199 * 199 := Nat.mul_le_mul (by omega) (by omega)
    -- the answer
    have hans : ∃ a : Int32, (a = 0 ∧ ∃ x, 1 ≤ x ∧ x ≤ 40000 ∧ tbv 1 x = m) ∨ (a = 1 ∧ ∀ x, 1 ≤ x → x ≤ 40000 → tbv 1 x ≠ m) := by
      by_cases c : ∃ x, 1 ≤ x ∧ x ≤ 40000 ∧ tbv 1 x = m
      · exact ⟨0, Or.inl ⟨rfl, c⟩⟩
      · exact ⟨1, Or.inr ⟨rfl, fun x h1 h2 h3 => c ⟨x, h1, h2, h3⟩⟩⟩
    obtain ⟨a, ha⟩ := hans
    refine TRes.good N hN (a_row := a_row) hT a (fun MC MS ar A B p1 p2 hbu hz => ?_) (fun pm tk mp mt hM => ?_)
    · obtain ⟨eC, eS⟩ := c7_eq hT
      obtain ⟨w, s, e⟩ := hav_c N hN p2 (k := 1) (by decide) (show m < 2 ^ 31 by omega) (show (m - 1) * (m - 1) ≤ 50000 by omega) 0 pw ps
      have e : f_X5_havingAt N (1 : Int32) (nI m) (nI ((m - 1) * (m - 1))) (0 : Int32) pw ps 50001 A 50001 B = _ := e
      refine ⟨w, s, ar, ?_⟩
      have y : (nI m - (1 : Int32)) * (nI m - (1 : Int32)) = nI ((m - 1) * (m - 1)) := by
        rw [show (1 : Int32) = nI 1 from rfl, pk_sub (by omega), nI_m]
      unfold f_X11_bare
      simp only [xl, y, eC, eS, w1, ob, if_neg one0, if_pos (z2 MC MS), if_pos hbu, p1, e]
      rcases pkA_first (p := fun n => decide (tbv 1 n = m)) ((m - 1) * (m - 1)) 1 (by omega) with ⟨x, c1, c2, c3, c4⟩ | ⟨c1, c4⟩
      · rw [c4, if_neg (by
          intro q
          have : (0 : Int32) ≤ nI x := nI_ge0 (by omega)
          rw [q] at this
          exact absurd this (by decide))]
        rcases ha with ⟨rfl, _⟩ | ⟨_, h⟩
        · rfl
        · exact absurd (by simpa using c3) (h x c1 (by omega))
      · rw [c4, if_pos rfl]
        rcases ha with ⟨_, x, h1, h2, h3⟩ | ⟨rfl, h⟩
        · exfalso
          have hx : sg x - x = m := by
            rw [← h3]
            unfold tbv
            rw [if_pos ⟨h1, by omega⟩]
            rfl
          have := bare_far hm1 h1 hx
          have := c1 x h1 (by omega)
          simp [h3] at this
        · rfl
    · obtain ⟨pm', mp', t, l1, l2⟩ := layTable_f N hN (show 1 ≤ 3 by decide) hM pm mp
      have l1 : f_X12_layTable N (1 : Int32) pm tk mp mt = some (pm', nI 1, mp', t) := l1
      refine ⟨pm', nI 1, mp', t, ?_, MtOK.done (by decide) l2⟩
      show f_X12_bare N (nI m) pm tk mp mt = _
      obtain ⟨a2, e, hc⟩ := bare_m N l2 pm' (nI 1) mp' (show m < 2 ^ 31 by omega) 40000 1 N (by omega) (by omega) (by omega)
      have e : l_X12_bare_23 N (nI m) pm' (nI 1) mp' t N (1 : Int32) = some (a2, pm', nI 1, mp', t) := e
      unfold f_X12_bare
      simp only [w2, ob, if_neg one0, l1, e]
      rcases ha with ⟨rfl, x, h1, h2, h3⟩ | ⟨rfl, h⟩
      · rcases hc with ⟨rfl, _⟩ | ⟨_, h'⟩
        · rfl
        · exact absurd h3 (h' x h1 h2)
      · rcases hc with ⟨_, x, h1, h2, h3⟩ | ⟨rfl, _⟩
        · exact absurd h3 (h x h1 h2)
        · rfl
  · have w1 : f_X11_within N v1 (2 : Int32) (200 : Int32) = some 0 := w1
    have w2 : f_X12_in N v1.toInt64 (2 : Int64) (200 : Int64) = some 0 := w2
    refine TRes.bad (a_row := a_row) hT (pw := pw) (ps := ps) (fun MC MS => ?_) (fun pm tk mp mt => ?_)
    · unfold f_X11_bare
      simp only [w1, ob, if_pos (z2 MC MS), if_true]
    · unfold f_X12_bare
      simp only [w2, ob, if_true]
/-! records -/
def rc (so x n : Nat) : Bool := decide (x = 0) || (if so = 0 then decide (tbv 0 x < tbv 0 n) else decide (tbv 0 x * n < tbv 0 n * x))
def bst (so : Nat) : Nat → Nat
  | 0 => 0
  | n + 1 => if n = 0 then 0 else if rc so (bst so n) n then n else bst so n
theorem bst_lt (so : Nat) : ∀ n, 1 ≤ n → bst so n < n
  | 1, _ => by unfold bst; simp
  | n + 2, _ => by
    have := bst_lt so (n + 1) (by omega)
    show (if n + 1 = 0 then 0 else if rc so (bst so (n + 1)) (n + 1) then n + 1 else bst so (n + 1)) < n + 2
    rw [if_neg (by omega)]
    split <;> omega
theorem bst_s (so : Nat) {n : Nat} (h : 1 ≤ n) : bst so (n + 1) = if rc so (bst so n) n then n else bst so n := by
  show (if n = 0 then 0 else if rc so (bst so n) n then n else bst so n) = _
  rw [if_neg (by omega)]
def bM (so x : Nat) : Nat := if so = 0 then 1 else if x = 0 then 1 else x
theorem tb0_pos {n : Nat} (h1 : 1 ≤ n) (hn : n ≤ 50000) : 1 ≤ tbv 0 n := by
  unfold tbv
  rw [if_pos ⟨h1, hn⟩]
  show 1 ≤ sg n
  have := sg_ge h1
  omega
theorem rc_iff {so x n : Nat} (h1 : 1 ≤ n) (hn : n ≤ 50000) : (tbv 0 n * bM so x ≤ tbv 0 x * (if so = 0 then 1 else n)) ↔ rc so x n = false := by
  have := tb0_pos h1 hn
  unfold rc bM
  by_cases c : x = 0
  · subst c
    rw [show tbv 0 0 = 0 from rfl]
    by_cases s : so = 0
    · simp [s]; omega
    · simp [s]; omega
  · by_cases s : so = 0
    · simp [s, c]
    · simp [s, c]
theorem sm63 {a b : Nat} (ha : a < 2 ^ 28) (hb : b ≤ 50000) : a * b < 2 ^ 63 := Nat.lt_of_le_of_lt (Nat.mul_le_mul (Nat.le_of_lt ha) hb) (by decide)
theorem M_leI {a b : Nat} (ha : a < 2 ^ 63) (hb : b < 2 ^ 63) : lN a ≤ lN b ↔ a ≤ b := pk_lLE ha hb
theorem rec_c (N : Nat) (hN : 2 ^ 40 ≤ N) {A B : Nat → Int32} (hT : TT A B) {so b : Nat} (hso : so ≤ 1) (hb : b ≤ 50000) (i pw ps : Int32) : ∃ w s, f_X5_recordAt N (nI so) (nI b) i pw ps 50001 A 50001 B = some (pkA (fun n => rc so (bst so n) n) i b 1 0, w, s) := by
  have h40 : (2 : Nat) ^ 40 = 1099511627776 := by decide
  have s0 : ∀ n, n ≤ 50000 → f_X7_summed N (0 : Int32) (nI n) 50001 A 50001 B = some (nI (tbv 0 n)) := fun n hn => summed7 N hT (k := 0) (by decide) (by omega)
  unfold f_X5_recordAt f_X2_begin
  rw [ob]
  unfold l_X5_recordAt_17
  refine pick_g (fun n c z => z = (lN (tbv 0 (bst so n)), lN (bM so (bst so n)), nI n, nI c)) (fun n => rc so (bst so n) n) i b (fun r a => ∃ w s, r = some (a, w, s)) ?_ ?_ b 1 0 _ N (by omega) (by omega) (by omega) (by omega) ?_
  · rintro c z K hc rfl
    show ∃ w s, s_X5_recordAt_17 N (nI so) (nI b) i 50001 A 50001 B K _ _ (nI (b + 1)) (nI c) = _
    unfold s_X5_recordAt_17 j_X5_recordAt_90
    rw [if_pos (L_lt b (b + 1) (by omega) (by omega)), notFound_f, ob]
    exact ⟨_, _, rfl⟩
  · rintro n c z K h1 h2 h3 rfl
    have hx := bst_lt so n h1
    have e : s_X5_recordAt_17 N (nI so) (nI b) i 50001 A 50001 B K (lN (tbv 0 (bst so n))) (lN (bM so (bst so n))) (nI n) (nI c) = (if rc so (bst so n) n = true then (if nI c = i then some (nI n, i, nI (c + 1)) else K (lN (tbv 0 (bst so (n + 1))), lN (bM so (bst so (n + 1))), nI (n + 1), nI (c + 1))) else K (lN (tbv 0 (bst so (n + 1))), lN (bM so (bst so (n + 1))), nI (n + 1), nI c)) := by
      rw [bst_s so h1]
      generalize bst so n = x at *
      have g1 := tbv_lt (k := 0) (x := n) (by decide)
      have g2 := tbv_lt (k := 0) (x := x) (by decide)
      have hbm : bM so x ≤ 50000 := by unfold bM; split <;> (try split) <;> omega
      have key : ∀ q : Nat, q = (if so = 0 then 1 else n) → j_X5_recordAt_47 N K (lN (tbv 0 x)) (lN (bM so x)) (nI n) (lN (tbv 0 n)) (lN q) i (nI c) = (if rc so x n = true then (if nI c = i then some (nI n, i, nI (c + 1)) else K (lN (tbv 0 (if rc so x n = true then n else x)), lN (bM so (if rc so x n = true then n else x)), nI (n + 1), nI (c + 1))) else K (lN (tbv 0 (if rc so x n = true then n else x)), lN (bM so (if rc so x n = true then n else x)), nI (n + 1), nI c)) := by
        intro q hq
        have hq5 : q ≤ 50000 := by rw [hq]; split <;> omega
        unfold j_X5_recordAt_47
        rw [lN_mul, lN_mul, isNext_f, ob]
        simp only [xl, nI_1, ite01]
        have hi := rc_iff (so := so) (x := x) h1 (by omega)
        rw [← hq] at hi
        by_cases hr : rc so x n = true
        · have hr2 : ¬ (tbv 0 n * bM so x ≤ tbv 0 x * q) := fun w => by rw [hi.mp w] at hr; exact absurd hr (by decide)
          rw [if_neg (fun w => hr2 ((M_leI (sm63 g1 hbm) (sm63 g2 hq5)).mp w))]
          simp only [if_pos hr]
          have : lN q = lN (bM so n) := by
            rw [hq]
            unfold bM
            split
            · rfl
            · rw [if_neg (by omega)]
          by_cases hc : nI c = i
          · simp [hc]
          · simp [hc, this]
        · have hr' : rc so x n = false := by simpa using hr
          rw [if_pos ((M_leI (sm63 g1 hbm) (sm63 g2 hq5)).mpr (hi.mpr hr'))]
          simp only [if_neg hr]
      unfold s_X5_recordAt_17
      rw [if_neg (L_nlt b n h2 (by omega)), s0 n (by omega), ob]
      simp only [xl]
      rw [nI_i64 (by omega), nI_i64 (by omega)]
      by_cases s : so = 0
      · rw [if_pos (by rw [s]; rfl)]
        exact key 1 (by rw [if_pos s])
      · rw [if_neg (L_ne so 0 s (by omega) (by decide))]
        exact key n (by rw [if_neg s])
    show (_ → (_ → ∃ w s, s_X5_recordAt_17 N (nI so) (nI b) i 50001 A 50001 B K (lN (tbv 0 (bst so n))) (lN (bM so (bst so n))) (nI n) (nI c) = _) ∧ (_ → ∃ z', _ ∧ s_X5_recordAt_17 N (nI so) (nI b) i 50001 A 50001 B K (lN (tbv 0 (bst so n))) (lN (bM so (bst so n))) (nI n) (nI c) = _)) ∧ (_ → ∃ z', _ ∧ s_X5_recordAt_17 N (nI so) (nI b) i 50001 A 50001 B K (lN (tbv 0 (bst so n))) (lN (bM so (bst so n))) (nI n) (nI c) = _)
    rw [e]
    refine ⟨fun hp => ⟨fun hi => ?_, fun hi => ⟨_, rfl, ?_⟩⟩, fun hp => ⟨_, rfl, ?_⟩⟩
    · rw [if_pos hp, if_pos hi]; exact ⟨_, _, rfl⟩
    · rw [if_pos hp, if_neg hi]
    · rw [if_neg (by rw [hp]; decide)]
  · have : bst so 1 = 0 := by unfold bst; simp
    rw [this]
    unfold bM
    split <;> rfl
theorem rec_m (N : Nat) (hN : 2 ^ 40 ≤ N) {t : Nat → Int32} {so b : Nat} (hso : so ≤ 1) (hb : b ≤ 50000) (hT : MT 0 t) {i : Int32} (hv : (-1 : Int32) ≤ i) (pm tk : Int32) (ps : Nat → Int64) : l_X12_records_38 N (nI so) (nI b) i pm tk ps t N ((0 : Int32), (0 : Int32), (1 : Int32)) = some (pkA (fun n => rc so (bst so n) n) i b 1 0, pm, tk, ps, t) := by
  have h40 : (2 : Nat) ^ 40 = 1099511627776 := by decide
  unfold l_X12_records_38
  refine pick_g (fun n c z => z = (nI c, nI (bst so n), nI n)) (fun n => rc so (bst so n) n) i b (fun r a => r = some (a, pm, tk, ps, t)) ?_ ?_ b 1 0 _ N (by omega) (by omega) (by omega) (by omega) ?_
  · rintro c z K hc rfl
    show s_X12_records_38 N (nI so) (nI b) i pm tk ps t K (nI c) _ (nI (b + 1)) = _
    unfold s_X12_records_38 j_X12_records_135
    rw [if_pos (L_lt b (b + 1) (by omega) (by omega))]
    by_cases hi : i = -1
    · rw [if_neg (fun q => (mend hv).mp q hi), if_pos hi]
    · rw [if_pos ((mend hv).mpr hi), if_neg hi]
  · rintro n c z K h1 h2 h3 rfl
    have hx := bst_lt so n h1
    have e : s_X12_records_38 N (nI so) (nI b) i pm tk ps t K (nI c) (nI (bst so n)) (nI n) = (if rc so (bst so n) n = true then (if nI c = i then some (nI n, pm, tk, ps, t) else K (nI (c + 1), nI (bst so (n + 1)), nI (n + 1))) else K (nI c, nI (bst so (n + 1)), nI (n + 1))) := by
      rw [bst_s so h1]
      generalize bst so n = x at *
      have g1 := tbv_lt (k := 0) (x := n) (by decide)
      have g2 := tbv_lt (k := 0) (x := x) (by decide)
      have yes : rc so x n = true → j_X12_records_101 N K i (nI c) (nI x) (nI n) pm tk ps t = (if rc so x n = true then (if nI c = i then some (nI n, pm, tk, ps, t) else K (nI (c + 1), nI (if rc so x n = true then n else x), nI (n + 1))) else K (nI c, nI (if rc so x n = true then n else x), nI (n + 1))) := by
        intro hr
        unfold j_X12_records_101 j_X12_records_106
        simp only [if_neg one0, if_pos hr, xl, nI_1]
      have no : rc so x n = false → j_X12_records_105 N K i (nI c) (nI x) (nI n) pm tk ps t = (if rc so x n = true then (if nI c = i then some (nI n, pm, tk, ps, t) else K (nI (c + 1), nI (if rc so x n = true then n else x), nI (n + 1))) else K (nI c, nI (if rc so x n = true then n else x), nI (n + 1))) := by
        intro hr
        unfold j_X12_records_105 j_X12_records_106
        simp [hr, xl, nI_1]
      unfold s_X12_records_38
      rw [if_neg (L_nlt b n h2 (by omega))]
      by_cases c0 : x = 0
      · rw [if_pos (by rw [c0]; rfl)]
        exact yes (by simp [rc, c0])
      · rw [if_neg (L_ne x 0 c0 (by omega) (by decide))]
        by_cases s : so = 0
        · rw [if_pos (by rw [s]; rfl), if_neg (L_in n 50001 (by omega) (by omega)), if_neg (L_in x 50001 (by omega) (by omega)), nI_clamp (by omega), nI_clamp (by omega), hT n (by omega), hT x (by omega)]
          by_cases q : tbv 0 n ≤ tbv 0 x
          · rw [if_pos (L_le (tbv 0 n) (tbv 0 x) q (by omega))]
            exact no (by simp [rc, c0, s]; omega)
          · rw [if_neg (L_nle (tbv 0 n) (tbv 0 x) (by omega) (by omega))]
            exact yes (by simp [rc, c0, s]; omega)
        · rw [if_neg (L_ne so 0 s (by omega) (by decide)), if_neg (L_in n 50001 (by omega) (by omega)), if_neg (L_in x 50001 (by omega) (by omega)), nI_clamp (by omega), nI_clamp (by omega), hT n (by omega), hT x (by omega), nI_i64 (by omega), nI_i64 (by omega), nI_i64 (by omega), nI_i64 (by omega), lN_mul, lN_mul]
          by_cases q : tbv 0 n * x ≤ tbv 0 x * n
          · rw [if_pos ((M_leI (sm63 g1 (by omega)) (sm63 g2 (by omega))).mpr q)]
            exact no (by simp [rc, c0, s]; omega)
          · rw [if_neg (fun w => q ((M_leI (sm63 g1 (by omega)) (sm63 g2 (by omega))).mp w))]
            exact yes (by simp [rc, c0, s]; omega)
    show (_ → (_ → s_X12_records_38 N (nI so) (nI b) i pm tk ps t K (nI c) (nI (bst so n)) (nI n) = _) ∧ (_ → ∃ z', _ ∧ s_X12_records_38 N (nI so) (nI b) i pm tk ps t K (nI c) (nI (bst so n)) (nI n) = _)) ∧ (_ → ∃ z', _ ∧ s_X12_records_38 N (nI so) (nI b) i pm tk ps t K (nI c) (nI (bst so n)) (nI n) = _)
    rw [e]
    refine ⟨fun hp => ⟨fun hi => ?_, fun hi => ⟨_, rfl, ?_⟩⟩, fun hp => ⟨_, rfl, ?_⟩⟩
    · rw [if_pos hp, if_pos hi]
    · rw [if_pos hp, if_neg hi]
    · rw [if_neg (by rw [hp]; decide)]
  · have : bst so 1 = 0 := by unfold bst; simp
    rw [this]
    rfl
theorem records_eq (N : Nat) (hN : 2 ^ 40 ≤ N) (v1 v2 v3 pw ps : Int32) {n_row n_all n_apart : Nat} {a_row a_all a_apart : Nat → Int32} (hT : TbOK n_row n_all a_all n_apart a_apart) : TRes (fun MC MS => f_X11_records N MC MS v1 v2 v3 pw ps n_row a_row n_all a_all n_apart a_apart) (fun pm tk mp mt => f_X12_records N v1 v2 v3 pm tk mp mt) n_row n_all n_apart := by
  rcases with_f N v1 0 1 (by decide) (by decide) with ⟨x, hx1, hx, rfl, w1, w2⟩ | ⟨w1, w2⟩
  · have w1 : f_X11_within N (nI x) (0 : Int32) (1 : Int32) = some 1 := w1
    have w2 : f_X12_in N (nI x).toInt64 (0 : Int64) (1 : Int64) = some 1 := w2
    rcases bnd_f N v2 with ⟨b, hb1, hb, rfl, y1, y2, _⟩ | ⟨y1, y2, _⟩
    · by_cases hv : (-1 : Int32) ≤ v3
      · refine TRes.good N hN (a_row := a_row) hT (pkA (fun n => rc x (bst x n) n) v3 b 1 0) (fun MC MS ar A B p1 p2 hbu hz => ?_) (fun pm tk mp mt hM => ?_)
        · obtain ⟨eC, eS⟩ := c7_eq hT
          obtain ⟨w, s, e⟩ := rec_c N hN p2 hx hb v3 pw ps
          refine ⟨w, s, ar, ?_⟩
          unfold f_X11_records
          simp only [eC, eS, w1, y1, ob, if_neg one0, if_pos (z2 MC MS), if_pos hv, if_pos hbu, p1, e]
        · obtain ⟨pm', mp', t, l1, l2⟩ := layTable_f N hN (show 0 ≤ 3 by decide) hM pm mp
          have l1 : f_X12_layTable N (0 : Int32) pm tk mp mt = some (pm', nI 0, mp', t) := l1
          refine ⟨pm', nI 0, mp', t, ?_, MtOK.done (by decide) l2⟩
          show f_X12_records N (nI x) (nI b) v3 pm tk mp mt = _
          unfold f_X12_records
          simp only [w2, y2, ob, if_neg one0, if_pos hv, l1, rec_m N hN hx hb l2 hv]
      · refine TRes.bad (a_row := a_row) hT (pw := pw) (ps := ps) (fun MC MS => ?_) (fun pm tk mp mt => ?_)
        · unfold f_X11_records
          simp only [w1, y1, ob, if_neg one0, if_pos (z2 MC MS), if_neg hv]
        · unfold f_X12_records
          simp only [w2, y2, ob, if_neg one0, if_neg hv]
    · refine TRes.bad (a_row := a_row) hT (pw := pw) (ps := ps) (fun MC MS => ?_) (fun pm tk mp mt => ?_)
      · unfold f_X11_records
        simp only [w1, y1, ob, if_neg one0, if_pos (z2 MC MS), if_true]
      · unfold f_X12_records
        simp only [w2, y2, ob, if_neg one0, if_true]
  · have w1 : f_X11_within N v1 (0 : Int32) (1 : Int32) = some 0 := w1
    have w2 : f_X12_in N v1.toInt64 (0 : Int64) (1 : Int64) = some 0 := w2
    refine TRes.bad (a_row := a_row) hT (pw := pw) (ps := ps) (fun MC MS => ?_) (fun pm tk mp mt => ?_)
    · unfold f_X11_records
      simp only [w1, ob, if_pos (z2 MC MS), if_true]
    · unfold f_X12_records
      simp only [w2, ob, if_true]
