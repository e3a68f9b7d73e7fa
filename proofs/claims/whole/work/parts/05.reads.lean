/-! what only reads -/
theorem i_vc_timeline {k : Nat} {u : SX} {v : SY} (I : i_Rel k u v) (hk : k + 4 ≤ 2048) : wpX_timeline (fun r => wpY_timeline (fun r' => r' = r ∧ i_Rel (k + 4) u v) v) u := by
  obtain ⟨p, a, L, hp, hL, rfl, rfl⟩ := I
  exact ⟨nI_pred p, p, a, L, hp, hL, rfl, rfl⟩
theorem i_vc_point {k : Nat} {u : SX} {v : SY} (I : i_Rel k u v) (hk : k + 4 ≤ 2048) : wpX_point (fun r => wpY_point (fun r' => r' = r ∧ i_Rel (k + 4) u v) v) u := by
  obtain ⟨p, a, L, hp, hL, rfl, rfl⟩ := I
  obtain ⟨m, hm, e⟩ := hL p
  exact pt_pointX hp e _ (pt_pointY hp e _ ⟨rfl, p, a, L, hp, hL, rfl, rfl⟩)
theorem i_vc_valueAt {k : Nat} {u : SX} {v : SY} (I : i_Rel k u v) (hk : k + 4 ≤ 2048) (v1 : Int32) (v2 : Int32) (v3 : Int32) : wpX_valueAt (fun r => wpY_valueAt (fun r' => r' = r ∧ i_Rel (k + 4) u v) v v1 v2 v3) u v1 v2 v3 := by
  obtain ⟨p, a, L, hp, hL, rfl, rfl⟩ := I
  have R : i_Rel (k + 4) (nI p, a, L) (nI (p + 1), a, L) := ⟨p, a, L, hp, hL, rfl, rfl⟩
  unfold wpX_valueAt wpY_valueAt
  dsimp only
  rcases pt_pt a hp hL v1 v2 with ⟨t, n, m, ht, hn, hm, e, rfl, rfl⟩ | ⟨hX, hY⟩
  · rcases pt_key v3 with ⟨j, hj, rfl⟩ | ⟨hX, hY⟩
    · refine pt_pX hp ht hn hm e _ (br_f (by decide) (pt_kX hj _ (br_f (by decide) (pt_cellX t n j _ rfl _ ⟨vp_in_nI (by omega) (by decide), ?_⟩))))
      refine pt_pY hp ht hn hm e _ (br_f (by decide) (pt_kY hj _ (br_f (by decide) ?_)))
      rw [pt_ixY]
      exact ⟨vp_in_nI (by omega) (by decide), rfl, R⟩
    · exact pt_pX hp ht hn hm e _ (br_f (by decide) (hX _ (br_t rfl (pt_pY hp ht hn hm e _ (br_f (by decide) (hY _ _ _ _ (br_t rfl ⟨rfl, R⟩)))))))
  · exact hX _ (br_t rfl (hY _ (br_t rfl ⟨rfl, R⟩)))
theorem i_vc_lastPoint {k : Nat} {u : SX} {v : SY} (I : i_Rel k u v) (hk : k + 4 ≤ 2048) (v1 : Int32) : wpX_lastPoint (fun r => wpY_lastPoint (fun r' => r' = r ∧ i_Rel (k + 4) u v) v v1) u v1 := by
  obtain ⟨p, a, L, hp, hL, rfl, rfl⟩ := I
  have R : i_Rel (k + 4) (nI p, a, L) (nI (p + 1), a, L) := ⟨p, a, L, hp, hL, rfl, rfl⟩
  unfold wpX_lastPoint wpY_lastPoint
  dsimp only
  rcases pt_split v1 p with h | ⟨j, h, hj, rfl⟩ | ⟨t, ht, rfl⟩
  · unfold wpX_isTimeline wpY_isPoint
    dsimp only
    exact br_t h (br_t rfl (br_t h (br_t rfl ⟨rfl, R⟩)))
  · unfold wpX_isTimeline wpY_isPoint
    dsimp only
    exact br_f (nI_pos hj) (br_t (nI_lt h hj) (br_t rfl (br_f (nI_pos hj) (br_t (nI_le (by omega) hj) (br_t rfl ⟨rfl, R⟩)))))
  · obtain ⟨m, hm, e⟩ := hL t
    refine pt_tX hp ht _ (br_f (by decide) ⟨vp_in_nI (by omega) (by decide), ?_⟩)
    refine pt_pY hp ht (n := 0) (Nat.zero_le m) hm e _ (br_f (by decide) ⟨vp_in_nI (by omega) (by decide), rfl, R⟩)
/-! lastChange: in lockstep from n down -/
theorem pt_lc (a L : Nat → Int32) (t k : Nat) (f g : Int32) (ht : t < 6) (hk : k < 8) : ∀ n : Nat, n ≤ 30 → ∃ r : Int32, (∀ post : Int32 → Prop, post r → wX_lastChange_24 post (nI t) (nI k) f a L (n + 1) (nI n)) ∧ (∀ post : Int32 → Prop, post r → wY_lastChange_25 post (nI t) (nI k) g a L (n + 1) (nI n)) := by
  intro n
  induction n with
  | zero =>
    intro _
    have h : nI 0 ≤ 0 := nI_le (a := 0) (b := 0) (by omega) (by decide)
    refine ⟨0, fun post hp => ?_, fun post hp => ?_⟩
    · rw [wX_lastChange_24]; exact br_t h hp
    · rw [wY_lastChange_25]; exact br_t h hp
  | succ n ih =>
    intro hn
    have h : ¬ nI (n + 1) ≤ 0 := nI_nle (by omega) (by omega)
    obtain ⟨r, hX, hY⟩ := ih (by omega)
    have xX : ∀ post : Int32 → Prop, ((a (248 * t + 8 * (n + 1) + k) = a (248 * t + 8 * n + k) → wX_lastChange_24 post (nI t) (nI k) f a L (n + 1) (nI n)) ∧ (¬ a (248 * t + 8 * (n + 1) + k) = a (248 * t + 8 * n + k) → post (nI (n + 1)))) → wX_lastChange_24 post (nI t) (nI k) f a L (n + 1 + 1) (nI (n + 1)) := by
      intro post q
      rw [wX_lastChange_24]
      refine br_f h (pt_cellX t (n + 1) k _ rfl _ ⟨vp_in_nI (by omega) (by decide), ?_⟩)
      rw [nI_pred]
      refine pt_cellX t n k _ rfl _ ⟨vp_in_nI (by omega) (by decide), ?_⟩
      rw [nI_clamp (by omega), nI_clamp (by omega)]
      exact br_c (fun z => nm_r (pk_m1 n) (q.1 z)) q.2
    have xY : ∀ post : Int32 → Prop, ((a (248 * t + 8 * (n + 1) + k) = a (248 * t + 8 * n + k) → wY_lastChange_25 post (nI t) (nI k) g a L (n + 1) (nI n)) ∧ (¬ a (248 * t + 8 * (n + 1) + k) = a (248 * t + 8 * n + k) → post (nI (n + 1)))) → wY_lastChange_25 post (nI t) (nI k) g a L (n + 1 + 1) (nI (n + 1)) := by
      intro post q
      rw [wY_lastChange_25]
      refine br_f h ?_
      rw [pt_ixY, pt_ixP, nI_clamp (by omega), nI_clamp (by omega)]
      exact ⟨vp_in_nI (by omega) (by decide), vp_in_nI (by omega) (by decide), br_c (fun z => nm_r (pk_m1 n) (q.1 z)) q.2⟩
    by_cases z : a (248 * t + 8 * (n + 1) + k) = a (248 * t + 8 * n + k)
    · exact ⟨r, fun post hp => xX post (br_t z (hX post hp)), fun post hp => xY post (br_t z (hY post hp))⟩
    · exact ⟨nI (n + 1), fun post hp => xX post (br_f z hp), fun post hp => xY post (br_f z hp)⟩
theorem i_vc_lastChange {k : Nat} {u : SX} {v : SY} (I : i_Rel k u v) (hk : k + 4 ≤ 2048) (v1 : Int32) (v2 : Int32) (v3 : Int32) : wpX_lastChange (fun r => wpY_lastChange (fun r' => r' = r ∧ i_Rel (k + 4) u v) v v1 v2 v3) u v1 v2 v3 := by
  obtain ⟨p, a, L, hp, hL, rfl, rfl⟩ := I
  have R : i_Rel (k + 4) (nI p, a, L) (nI (p + 1), a, L) := ⟨p, a, L, hp, hL, rfl, rfl⟩
  unfold wpX_lastChange wpY_lastChange
  dsimp only
  rcases pt_key v3 with ⟨j, hj, rfl⟩ | ⟨hX, hY⟩
  · rcases pt_pt a hp hL v1 v2 with ⟨t, n, m, ht, hn, hm, e, rfl, rfl⟩ | ⟨hX, hY⟩
    · obtain ⟨r, hX, hY⟩ := pt_lc a L t j (nI p) (nI (p + 1)) (by omega) hj n (by omega)
      refine pt_kX hj _ (br_f (by decide) (pt_pX hp ht hn hm e _ (br_f (by decide) ⟨n + 1, hX _ ?_⟩)))
      exact pt_kY hj _ (br_f (by decide) (pt_pY hp ht hn hm e _ (br_f (by decide) ⟨n + 1, hY _ ⟨rfl, R⟩⟩)))
    · exact pt_kX hj _ (br_f (by decide) (hX _ (br_t rfl (pt_kY hj _ (br_f (by decide) (hY _ (br_t rfl ⟨rfl, R⟩)))))))
  · exact hX _ (br_t rfl (hY _ _ _ _ (br_t rfl ⟨rfl, R⟩)))
/-! differs and digest: over the eight keys in lockstep -/
theorem pt_df (a L : Nat → Int32) (t n p m : Nat) (g : Int32) (ht : t < 6) (hn : n ≤ 30) (hp : p < 6) (hm : m ≤ 30) (hL : L p = nI m) : ∀ e j : Nat, j + e = 8 → ∀ c : Int32, ∃ r : Int32, (∀ post : Int32 → Prop, post r → wX_differs_17 post (nI t) (nI n) (nI p) a L (e + 1) c (nI j)) ∧ (∀ post : Int32 → Prop, post r → wY_differs_23 post (nI t) (nI n) (nI (248 * p + 8 * m)) g a L (e + 1) c (nI j)) := by
  intro e
  induction e with
  | zero =>
    intro j hj c
    obtain rfl : j = 8 := by omega
    have h : (8 : Int32) ≤ nI 8 := nI_le (a := 8) (b := 8) (by omega) (by decide)
    refine ⟨c, fun post hp => ?_, fun post hp => ?_⟩
    · rw [wX_differs_17]; exact br_t h hp
    · rw [wY_differs_23]; exact br_t h hp
  | succ e ih =>
    intro j hj c
    have h : ¬ (8 : Int32) ≤ nI j := nI_ge (b := 8) (by omega) (by decide)
    have xX : ∀ post : Int32 → Prop, ((a (248 * t + 8 * n + j) = a (248 * p + 8 * m + j) → wX_differs_17 post (nI t) (nI n) (nI p) a L (e + 1) c (nI (j + 1))) ∧ (¬ a (248 * t + 8 * n + j) = a (248 * p + 8 * m + j) → wX_differs_17 post (nI t) (nI n) (nI p) a L (e + 1) (c + 1) (nI (j + 1)))) → wX_differs_17 post (nI t) (nI n) (nI p) a L (e + 1 + 1) c (nI j) := by
      intro post q
      rw [wX_differs_17]
      refine br_f h (pt_cellX t n j _ rfl _ ⟨vp_in_nI (by omega) (by decide), ?_⟩)
      refine pt_nowX hp hL j _ rfl _ ⟨vp_in_nI (by omega) (by decide), ?_⟩
      rw [nI_clamp (by omega), nI_clamp (by omega)]
      exact br_c (fun z => nm_r (nI_1 j) (q.1 z)) (fun z => nm_e (nm_r (nI_1 j) (q.2 z)))
    have xY : ∀ post : Int32 → Prop, ((a (248 * t + 8 * n + j) = a (248 * p + 8 * m + j) → wY_differs_23 post (nI t) (nI n) (nI (248 * p + 8 * m)) g a L (e + 1) c (nI (j + 1))) ∧ (¬ a (248 * t + 8 * n + j) = a (248 * p + 8 * m + j) → wY_differs_23 post (nI t) (nI n) (nI (248 * p + 8 * m)) g a L (e + 1) (c + 1) (nI (j + 1)))) → wY_differs_23 post (nI t) (nI n) (nI (248 * p + 8 * m)) g a L (e + 1 + 1) c (nI j) := by
      intro post q
      rw [wY_differs_23]
      refine br_f h ?_
      rw [pt_ixY, nI_add, nI_clamp (by omega), nI_clamp (by omega)]
      exact ⟨vp_in_nI (by omega) (by decide), vp_in_nI (by omega) (by decide), br_c (fun z => nm_r (nI_1 j) (q.1 z)) (fun z => nm_e (nm_r (nI_1 j) (q.2 z)))⟩
    by_cases z : a (248 * t + 8 * n + j) = a (248 * p + 8 * m + j)
    · obtain ⟨r, hX, hY⟩ := ih (j + 1) (by omega) c
      exact ⟨r, fun post hp => xX post (br_t z (hX post hp)), fun post hp => xY post (br_t z (hY post hp))⟩
    · obtain ⟨r, hX, hY⟩ := ih (j + 1) (by omega) (c + 1)
      exact ⟨r, fun post hp => xX post (br_f z (hX post hp)), fun post hp => xY post (br_f z (hY post hp))⟩
theorem i_vc_differs {k : Nat} {u : SX} {v : SY} (I : i_Rel k u v) (hk : k + 4 ≤ 2048) (v1 : Int32) (v2 : Int32) : wpX_differs (fun r => wpY_differs (fun r' => r' = r ∧ i_Rel (k + 4) u v) v v1 v2) u v1 v2 := by
  obtain ⟨p, a, L, hp, hL, rfl, rfl⟩ := I
  have R : i_Rel (k + 4) (nI p, a, L) (nI (p + 1), a, L) := ⟨p, a, L, hp, hL, rfl, rfl⟩
  unfold wpX_differs wpY_differs
  dsimp only
  rcases pt_pt a hp hL v1 v2 with ⟨t, n, m, ht, hn, hm, e, rfl, rfl⟩ | ⟨hX, hY⟩
  · obtain ⟨m', hm', e'⟩ := hL p
    obtain ⟨r, hX, hY⟩ := pt_df a L t n p m' (nI (p + 1)) (by omega) (by omega) hp hm' e' 8 0 rfl 0
    refine pt_pX hp ht hn hm e _ (br_f (by decide) ⟨9, hX _ ?_⟩)
    exact pt_pY hp ht hn hm e _ (br_f (by decide) (pt_nowY hp e' _ rfl _ ⟨9, hY _ ⟨rfl, R⟩⟩))
  · exact hX _ (br_t rfl (hY _ (br_t rfl ⟨rfl, R⟩)))
theorem pt_dg (a L : Nat → Int32) (p m : Nat) (g : Int32) (hp : p < 6) (hm : m ≤ 30) (hL : L p = nI m) : ∀ e j : Nat, j + e = 8 → ∀ c : Int32, ∃ r : Int32, (∀ post : Int32 → Prop, post r → wX_digest_4 post (nI p) a L (e + 1) c (nI j)) ∧ (∀ post : Int32 → Prop, post r → wY_digest_9 post (nI (248 * p + 8 * m)) g a L (e + 1) c (nI j)) := by
  intro e
  induction e with
  | zero =>
    intro j hj c
    obtain rfl : j = 8 := by omega
    have h : (8 : Int32) ≤ nI 8 := nI_le (a := 8) (b := 8) (by omega) (by decide)
    refine ⟨c, fun post hp => ?_, fun post hp => ?_⟩
    · rw [wX_digest_4]; exact br_t h hp
    · rw [wY_digest_9]; exact br_t h hp
  | succ e ih =>
    intro j hj c
    have h : ¬ (8 : Int32) ≤ nI j := nI_ge (b := 8) (by omega) (by decide)
    obtain ⟨r, hX, hY⟩ := ih (j + 1) (by omega) (c + (nI j + 1) * a (248 * p + 8 * m + j))
    refine ⟨r, fun post q => ?_, fun post q => ?_⟩
    · rw [wX_digest_4]
      refine br_f h (pt_nowX hp hL j _ rfl _ ⟨vp_in_nI (by omega) (by decide), ?_⟩)
      rw [nI_clamp (by omega)]
      exact nm_e (nm_r (nI_1 j) (hX post q))
    · rw [wY_digest_9]
      refine br_f h ?_
      rw [nI_add, nI_clamp (by omega)]
      exact ⟨vp_in_nI (by omega) (by decide), nm_e (nm_r (nI_1 j) (hY post q))⟩
theorem i_vc_digest {k : Nat} {u : SX} {v : SY} (I : i_Rel k u v) (hk : k + 4 ≤ 2048) : wpX_digest (fun r => wpY_digest (fun r' => r' = r ∧ i_Rel (k + 4) u v) v) u := by
  obtain ⟨p, a, L, hp, hL, rfl, rfl⟩ := I
  obtain ⟨m, hm, e⟩ := hL p
  have R : i_Rel (k + 4) (nI p, a, L) (nI (p + 1), a, L) := ⟨p, a, L, hp, hL, rfl, rfl⟩
  unfold wpX_digest wpY_digest
  dsimp only
  obtain ⟨r, hX, hY⟩ := pt_dg a L p m (nI (p + 1)) hp hm e 8 0 rfl 0
  exact ⟨9, hX _ (pt_nowY hp e _ rfl _ ⟨9, hY _ ⟨rfl, R⟩⟩)⟩
