/-! counting and picking: both sides -/
def pkA (p : Nat → Bool) (i : Int32) : Nat → Nat → Nat → Int32
  | 0, _, c => if i = -1 then nI c else -4
  | d + 1, n, c => if p n then (if nI c = i then nI n else pkA p i d (n + 1) (c + 1)) else pkA p i d (n + 1) c
theorem pick_g {σ ρ : Type} {F : (σ → Option ρ) → σ → Option ρ} (S : Nat → Nat → σ → Prop) (p : Nat → Bool) (i : Int32) (b : Nat) (Q : Option ρ → Int32 → Prop) (hend : ∀ c z k, c ≤ b → S (b + 1) c z → Q (F k z) (if i = -1 then nI c else -4)) (hin : ∀ n c z k, 1 ≤ n → n ≤ b → c < n → S n c z → (p n = true → (nI c = i → Q (F k z) (nI n)) ∧ (nI c ≠ i → ∃ z', S (n + 1) (c + 1) z' ∧ F k z = k z')) ∧ (p n = false → ∃ z', S (n + 1) c z' ∧ F k z = k z')) : ∀ d n c z f, n + d = b + 1 → 1 ≤ n → c < n → d < f → S n c z → Q (lp F f z) (pkA p i d n c)
  | 0, n, c, z, f + 1, hd, h1, hc, hf, hz => hend c z (lp F f) (by omega) (by rw [← hd]; exact hz)
  | d + 1, n, c, z, f + 1, hd, h1, hc, hf, hz => by
    obtain ⟨g1, g2⟩ := hin n c z (lp F f) h1 (by omega) hc hz
    unfold pkA
    show Q (F (lp F f) z) _
    by_cases hp : p n = true
    · rw [if_pos hp]
      by_cases hi : nI c = i
      · rw [if_pos hi]; exact (g1 hp).1 hi
      · rw [if_neg hi]
        obtain ⟨z', a, e⟩ := (g1 hp).2 hi
        rw [e]
        exact pick_g S p i b Q hend hin d (n + 1) (c + 1) z' f (by omega) (by omega) (by omega) (by omega) a
    · rw [if_neg hp]
      obtain ⟨z', a, e⟩ := g2 (by simpa using hp)
      rw [e]
      exact pick_g S p i b Q hend hin d (n + 1) c z' f (by omega) (by omega) (by omega) (by omega) a
theorem isNext_f (N : Nat) (w s : Int32) : f_X2_isNext N w s = some (if s = w then 1 else 0, s + 1) := by
  unfold f_X2_isNext j_X2_isNext_16
  simp only [xl]
  split <;> simp
theorem notFound_f (N : Nat) (w s : Int32) : f_X2_notFound N w s = some (if w = -1 then s else -4) := by
  unfold f_X2_notFound
  split <;> rfl
theorem mend {i : Int32} (hv : (-1 : Int32) ≤ i) : (0 ≤ i) ↔ ¬ i = -1 := by
  rcases idx_of hv with rfl | ⟨j, hj, rfl⟩
  · decide
  · exact ⟨fun _ => nI_nem hj, fun _ => nI_ge0 hj⟩
theorem bnd_f (N : Nat) (v : Int32) : (∃ k, 1 ≤ k ∧ k ≤ 50000 ∧ v = nI k ∧ f_X11_isBound N v = some 1 ∧ f_X12_isBound N v = some 1 ∧ f_X12_in N v.toInt64 (1 : Int64) (50000 : Int64) = some 1) ∨ (f_X11_isBound N v = some 0 ∧ f_X12_isBound N v = some 0 ∧ f_X12_in N v.toInt64 (1 : Int64) (50000 : Int64) = some 0) := by
  rcases with_f N v 1 50000 (by decide) (by decide) with ⟨k, a, b, c, d, e⟩ | ⟨d, e⟩
  · left
    have d : f_X11_within N v (1 : Int32) (50000 : Int32) = some 1 := d
    have e : f_X12_in N v.toInt64 (1 : Int64) (50000 : Int64) = some 1 := e
    refine ⟨k, a, b, c, ?_, ?_, e⟩
    · unfold f_X11_isBound; rw [d, ob]; simp
    · unfold f_X12_isBound; rw [e, ob]; simp
  · right
    have d : f_X11_within N v (1 : Int32) (50000 : Int32) = some 0 := d
    have e : f_X12_in N v.toInt64 (1 : Int64) (50000 : Int64) = some 0 := e
    refine ⟨?_, ?_, e⟩
    · unfold f_X11_isBound; rw [d, ob]; simp
    · unfold f_X12_isBound; rw [e, ob]; simp
theorem hav_c (N : Nat) (hN : 2 ^ 40 ≤ N) {A B : Nat → Int32} (hT : TT A B) {k m b : Nat} (hk : k ≤ 3) (hm : m < 2 ^ 31) (hb : b ≤ 50000) (i pw ps : Int32) : ∃ w s, f_X5_havingAt N (nI k) (nI m) (nI b) i pw ps 50001 A 50001 B = some (pkA (fun n => decide (tbv k n = m)) i b 1 0, w, s) := by
  have h40 : (2 : Nat) ^ 40 = 1099511627776 := by decide
  unfold f_X5_havingAt f_X2_begin
  rw [ob]
  unfold l_X5_havingAt_12
  refine pick_g (fun n c z => z = (nI n, nI c)) (fun n => decide (tbv k n = m)) i b (fun r a => ∃ w s, r = some (a, w, s)) ?_ ?_ b 1 0 _ N (by omega) (by omega) (by omega) (by omega) rfl
  · rintro c z K hc rfl
    show ∃ w s, s_X5_havingAt_12 N (nI k) (nI m) (nI b) i 50001 A 50001 B K (nI (b + 1)) (nI c) = _
    unfold s_X5_havingAt_12 j_X5_havingAt_51
    rw [if_pos (L_lt b (b + 1) (by omega) (by omega)), notFound_f, ob]
    exact ⟨_, _, rfl⟩
  · rintro n c z K h1 h2 h3 rfl
    have e : s_X5_havingAt_12 N (nI k) (nI m) (nI b) i 50001 A 50001 B K (nI n) (nI c) = (if nI (tbv k n) = nI m then (if nI c = i then some (nI n, i, nI (c + 1)) else K (nI (n + 1), nI (c + 1))) else K (nI (n + 1), nI c)) := by
      unfold s_X5_havingAt_12
      rw [if_neg (L_nlt b n h2 (by omega)), summed7 N hT hk (by omega), ob, isNext_f, ob]
      simp only [xl, nI_1]
      by_cases hc : nI c = i
      · simp [hc]
      · simp [hc]
    have hq : (nI (tbv k n) = nI m) ↔ tbv k n = m := nI_eq (by have := tbv_lt (x := n) hk; omega) hm
    refine ⟨fun hp => ?_, fun hp => ?_⟩
    · have hp : tbv k n = m := by simpa using hp
      refine ⟨fun hi => ?_, fun hi => ⟨_, rfl, ?_⟩⟩
      · show ∃ w s, s_X5_havingAt_12 N (nI k) (nI m) (nI b) i 50001 A 50001 B K (nI n) (nI c) = _
        rw [e, if_pos (hq.mpr hp), if_pos hi]
        exact ⟨_, _, rfl⟩
      · show s_X5_havingAt_12 N (nI k) (nI m) (nI b) i 50001 A 50001 B K (nI n) (nI c) = _
        rw [e, if_pos (hq.mpr hp), if_neg hi]
    · have hp : ¬ tbv k n = m := by simpa using hp
      refine ⟨_, rfl, ?_⟩
      show s_X5_havingAt_12 N (nI k) (nI m) (nI b) i 50001 A 50001 B K (nI n) (nI c) = _
      rw [e, if_neg (fun q => hp (hq.mp q))]
theorem hav_m (N : Nat) (hN : 2 ^ 40 ≤ N) {t : Nat → Int32} {k m b : Nat} (hk : k ≤ 3) (hm : m < 2 ^ 31) (hb : b ≤ 50000) (hT : MT k t) {i : Int32} (hv : (-1 : Int32) ≤ i) (pm tk : Int32) (ps : Nat → Int64) : l_X12_having_50 N (nI m) (nI b) i pm tk ps t N ((0 : Int32), (1 : Int32)) = some (pkA (fun n => decide (tbv k n = m)) i b 1 0, pm, tk, ps, t) := by
  have h40 : (2 : Nat) ^ 40 = 1099511627776 := by decide
  unfold l_X12_having_50
  refine pick_g (fun n c z => z = (nI c, nI n)) (fun n => decide (tbv k n = m)) i b (fun r a => r = some (a, pm, tk, ps, t)) ?_ ?_ b 1 0 _ N (by omega) (by omega) (by omega) (by omega) rfl
  · rintro c z K hc rfl
    show s_X12_having_50 N (nI m) (nI b) i pm tk ps t K (nI c) (nI (b + 1)) = _
    unfold s_X12_having_50 j_X12_having_86
    rw [if_pos (L_lt b (b + 1) (by omega) (by omega))]
    by_cases hi : i = -1
    · rw [if_neg (fun q => (mend hv).mp q hi), if_pos hi]
    · rw [if_pos ((mend hv).mpr hi), if_neg hi]
  · rintro n c z K h1 h2 h3 rfl
    have e : s_X12_having_50 N (nI m) (nI b) i pm tk ps t K (nI c) (nI n) = (if nI (tbv k n) = nI m then (if nI c = i then some (nI n, pm, tk, ps, t) else K (nI (c + 1), nI (n + 1))) else K (nI c, nI (n + 1))) := by
      unfold s_X12_having_50
      rw [if_neg (L_nlt b n h2 (by omega)), if_neg (L_in n 50001 (by omega) (by omega)), nI_clamp (by omega), hT n (by omega)]
      simp only [xl, nI_1]
    have hq : (nI (tbv k n) = nI m) ↔ tbv k n = m := nI_eq (by have := tbv_lt (x := n) hk; omega) hm
    refine ⟨fun hp => ?_, fun hp => ?_⟩
    · have hp : tbv k n = m := by simpa using hp
      refine ⟨fun hi => ?_, fun hi => ⟨_, rfl, ?_⟩⟩
      · show s_X12_having_50 N (nI m) (nI b) i pm tk ps t K (nI c) (nI n) = _
        rw [e, if_pos (hq.mpr hp), if_pos hi]
      · show s_X12_having_50 N (nI m) (nI b) i pm tk ps t K (nI c) (nI n) = _
        rw [e, if_pos (hq.mpr hp), if_neg hi]
    · have hp : ¬ tbv k n = m := by simpa using hp
      refine ⟨_, rfl, ?_⟩
      show s_X12_having_50 N (nI m) (nI b) i pm tk ps t K (nI c) (nI n) = _
      rw [e, if_neg (fun q => hp (hq.mp q))]
/-- what a method of the tables keeps -/
def TRes (F : Nat → Nat → Option (Int32 × Int32 × Int32 × Nat × (Nat → Int32) × Nat × (Nat → Int32) × Nat × (Nat → Int32))) (G : Int32 → Int32 → (Nat → Int64) → (Nat → Int32) → Option (Int32 × Int32 × Int32 × (Nat → Int64) × (Nat → Int32))) (n_row n_all n_apart : Nat) : Prop := ∃ (ans : Int32) (dC dS : Nat), dC ≤ 8 ∧ dS ≤ 400000 ∧ (∀ MC MS, dC ≤ MC → dS ≤ MS → ∃ (w s : Int32) (n_row' : Nat) (a_row' : Nat → Int32) (n_all' : Nat) (a_all' : Nat → Int32) (n_apart' : Nat) (a_apart' : Nat → Int32), F MC MS = some (ans, w, s, n_row', a_row', n_all', a_all', n_apart', a_apart') ∧ (TbOK n_row' n_all' a_all' n_apart' a_apart' ∧ n_row ≤ n_row' ∧ n_all ≤ n_all' ∧ n_apart ≤ n_apart') ∧ (if n_row' = n_row then 0 else 1) + (if n_all' = n_all then 0 else 1) + (if n_apart' = n_apart then 0 else 1) = dC ∧ (n_row' - n_row) + (n_all' - n_all) + (n_apart' - n_apart) = dS) ∧ ∀ (pm tk : Int32) (mp : Nat → Int64) (mt : Nat → Int32), MtOK tk mt → ∃ (pm' tk' : Int32) (mp' : Nat → Int64) (mt' : Nat → Int32), G pm tk mp mt = some (ans, pm', tk', mp', mt') ∧ MtOK tk' mt'
theorem TbOK.le {n_row n_all n_apart : Nat} {a_all a_apart : Nat → Int32} (h : TbOK n_row n_all a_all n_apart a_apart) : n_row ≤ 50001 ∧ n_all ≤ 50001 ∧ n_apart ≤ 50001 := by
  obtain ⟨a, b⟩ := h
  refine ⟨by rcases a with e | e <;> omega, ?_⟩
  rcases b with ⟨e, f⟩ | ⟨e, f, _⟩ <;> omega
theorem TRes.bad {F : Nat → Nat → Option (Int32 × Int32 × Int32 × Nat × (Nat → Int32) × Nat × (Nat → Int32) × Nat × (Nat → Int32))} {G : Int32 → Int32 → (Nat → Int64) → (Nat → Int32) → Option (Int32 × Int32 × Int32 × (Nat → Int64) × (Nat → Int32))} {n_row n_all n_apart : Nat} {a_row a_all a_apart : Nat → Int32} (hT : TbOK n_row n_all a_all n_apart a_apart) {pw ps : Int32} (h1 : ∀ MC MS, F MC MS = some ((-1 : Int32), pw, ps, n_row, a_row, n_all, a_all, n_apart, a_apart)) (h2 : ∀ pm tk mp mt, G pm tk mp mt = some ((-1 : Int32), pm, tk, mp, mt)) : TRes F G n_row n_all n_apart := by
  refine ⟨-1, 0, 0, by decide, by decide, fun MC MS _ _ => ⟨pw, ps, n_row, a_row, n_all, a_all, n_apart, a_apart, h1 MC MS, ⟨hT, Nat.le_refl _, Nat.le_refl _, Nat.le_refl _⟩, by simp, by simp⟩, fun pm tk mp mt h => ⟨pm, tk, mp, mt, h2 pm tk mp mt, h⟩⟩
/-- the good road: prepare, then a core -/
theorem TRes.good (N : Nat) (hN : 2 ^ 40 ≤ N) {F : Nat → Nat → Option (Int32 × Int32 × Int32 × Nat × (Nat → Int32) × Nat × (Nat → Int32) × Nat × (Nat → Int32))} {G : Int32 → Int32 → (Nat → Int64) → (Nat → Int32) → Option (Int32 × Int32 × Int32 × (Nat → Int64) × (Nat → Int32))} {n_row n_all n_apart : Nat} {a_row a_all a_apart : Nat → Int32} (hT : TbOK n_row n_all a_all n_apart a_apart) (ans : Int32) (h1 : ∀ MC MS ar A B, f_X7_prepare N (cC7 n_row n_all) (cS7 n_row n_all) n_row a_row n_all a_all n_apart a_apart = some (50001, ar, 50001, A, 50001, B) → TT A B → (0 + cC7 n_row n_all ≤ MC ∧ 0 + cS7 n_row n_all ≤ MS) → (0 ≤ MC ∧ 0 ≤ MS) → ∃ (w s : Int32) (ar' : Nat → Int32), F MC MS = some (ans, w, s, 50001, ar', 50001, A, 50001, B)) (h2 : ∀ (pm tk : Int32) (mp : Nat → Int64) (mt : Nat → Int32), MtOK tk mt → ∃ (pm' tk' : Int32) (mp' : Nat → Int64) (mt' : Nat → Int32), G pm tk mp mt = some (ans, pm', tk', mp', mt') ∧ MtOK tk' mt') : TRes F G n_row n_all n_apart := by
  have h40 : (2 : Nat) ^ 40 = 1099511627776 := by decide
  have h20 : (2 : Nat) ^ 20 = 1048576 := by decide
  have hle := cC7_le n_row n_all
  obtain ⟨fC, fS⟩ := c7_diff hT
  refine ⟨ans, cC7 n_row n_all, cS7 n_row n_all, by omega, by omega, fun MC MS g1 g2 => ?_, h2⟩
  obtain ⟨ar, A, B, p1, p2⟩ := prep7 N (by omega) hT (Nat.le_refl _) (Nat.le_refl _) a_row
  obtain ⟨w, s, ar', e⟩ := h1 MC MS ar A B p1 p2 ⟨by omega, by omega⟩ ⟨Nat.zero_le _, Nat.zero_le _⟩
  exact ⟨w, s, 50001, ar', 50001, A, 50001, B, e, ⟨TbOK.done p2, hT.le⟩, fC, fS⟩
theorem z2 (a b : Nat) : (0 : Nat) ≤ a ∧ 0 ≤ b := ⟨Nat.zero_le _, Nat.zero_le _⟩
theorem one0 : ¬ (1 : Int32) = 0 := by decide
theorem having_eq (N : Nat) (hN : 2 ^ 40 ≤ N) (v1 v2 v3 v4 pw ps : Int32) {n_row n_all n_apart : Nat} {a_row a_all a_apart : Nat → Int32} (hT : TbOK n_row n_all a_all n_apart a_apart) : TRes (fun MC MS => f_X11_having N MC MS v1 v2 v3 v4 pw ps n_row a_row n_all a_all n_apart a_apart) (fun pm tk mp mt => f_X12_having N v1 v2 v3 v4 pm tk mp mt) n_row n_all n_apart := by
  rcases with_f N v1 0 3 (by decide) (by decide) with ⟨k, _, hk, rfl, w1, w2⟩ | ⟨w1, w2⟩
  · have w1 : f_X11_within N (nI k) (0 : Int32) (3 : Int32) = some 1 := w1
    have w2 : f_X12_in N (nI k).toInt64 (0 : Int64) (3 : Int64) = some 1 := w2
    rcases with_f N v2 0 100000 (by decide) (by decide) with ⟨m, _, hm, rfl, x1, x2⟩ | ⟨x1, x2⟩
    · have x1 : f_X11_within N (nI m) (0 : Int32) (100000 : Int32) = some 1 := x1
      have x2 : f_X12_in N (nI m).toInt64 (0 : Int64) (100000 : Int64) = some 1 := x2
      rcases bnd_f N v3 with ⟨b, hb1, hb, rfl, y1, y2, _⟩ | ⟨y1, y2, _⟩
      · by_cases hv : (-1 : Int32) ≤ v4
        · refine TRes.good N hN (a_row := a_row) hT (pkA (fun n => decide (tbv k n = m)) v4 b 1 0) (fun MC MS ar A B p1 p2 hbu hz => ?_) (fun pm tk mp mt hM => ?_)
          · obtain ⟨eC, eS⟩ := c7_eq hT
            obtain ⟨w, s, e⟩ := hav_c N hN p2 hk (show m < 2 ^ 31 by omega) hb v4 pw ps
            refine ⟨w, s, ar, ?_⟩
            unfold f_X11_having
            simp only [eC, eS, w1, x1, y1, ob, if_neg one0, if_pos (z2 MC MS), if_pos hv, if_pos hbu, p1, e]
          · obtain ⟨pm', mp', t, l1, l2⟩ := layTable_f N hN hk hM pm mp
            refine ⟨pm', nI k, mp', t, ?_, MtOK.done hk l2⟩
            show f_X12_having N (nI k) (nI m) (nI b) v4 pm tk mp mt = _
            unfold f_X12_having
            simp only [w2, x2, y2, ob, if_neg one0, if_pos hv, l1, hav_m N hN hk (show m < 2 ^ 31 by omega) hb l2 hv]
        · refine TRes.bad (a_row := a_row) hT (pw := pw) (ps := ps) (fun MC MS => ?_) (fun pm tk mp mt => ?_)
          · unfold f_X11_having
            simp only [w1, x1, y1, ob, if_neg one0, if_pos (z2 MC MS), if_neg hv]
          · unfold f_X12_having
            simp only [w2, x2, y2, ob, if_neg one0, if_neg hv]
      · refine TRes.bad (a_row := a_row) hT (pw := pw) (ps := ps) (fun MC MS => ?_) (fun pm tk mp mt => ?_)
        · unfold f_X11_having
          simp only [w1, x1, y1, ob, if_neg one0, if_pos (z2 MC MS), if_true]
        · unfold f_X12_having
          simp only [w2, x2, y2, ob, if_neg one0, if_true]
    · have x1 : f_X11_within N v2 (0 : Int32) (100000 : Int32) = some 0 := x1
      have x2 : f_X12_in N v2.toInt64 (0 : Int64) (100000 : Int64) = some 0 := x2
      refine TRes.bad (a_row := a_row) hT (pw := pw) (ps := ps) (fun MC MS => ?_) (fun pm tk mp mt => ?_)
      · unfold f_X11_having
        simp only [w1, x1, ob, if_neg one0, if_pos (z2 MC MS), if_true]
      · unfold f_X12_having
        simp only [w2, x2, ob, if_neg one0, if_true]
  · have w1 : f_X11_within N v1 (0 : Int32) (3 : Int32) = some 0 := w1
    have w2 : f_X12_in N v1.toInt64 (0 : Int64) (3 : Int64) = some 0 := w2
    refine TRes.bad (a_row := a_row) hT (pw := pw) (ps := ps) (fun MC MS => ?_) (fun pm tk mp mt => ?_)
    · unfold f_X11_having
      simp only [w1, ob, if_pos (z2 MC MS), if_true]
    · unfold f_X12_having
      simp only [w2, ob, if_true]
