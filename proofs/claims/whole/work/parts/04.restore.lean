/-! restore: the cells of the points 0 to n, copied to the new timeline's -/
theorem pt_cX (post : SX → Prop) (s d z : Nat) (f : Int32) (a L : Nat → Int32) (hs : s + z ≤ 1488) (hd : d + z ≤ 1488) (h : post (f, pt_cp a d s z, L)) : ∀ e j : Nat, j + e = z → wX_copyPoints_27 post (nI s) (nI d) (nI z) f (e + 1) (nI j) (pt_cp a d s j) L := by
  intro e
  induction e with
  | zero =>
    intro j hj
    obtain rfl : j = z := by omega
    rw [wX_copyPoints_27]
    exact br_t (nI_le (Nat.le_refl _) (by omega)) h
  | succ e ih =>
    intro j hj
    rw [wX_copyPoints_27]
    refine br_f (nI_ge (by omega) (by omega)) ?_
    rw [nI_add, nI_add, nI_clamp (by omega), nI_clamp (by omega)]
    exact ⟨vp_in_nI (by omega) (by decide), vp_in_nI (by omega) (by decide), nm_e (nm_r (nI_1 j) (ih (j + 1) (by omega)))⟩
theorem pt_cY (post : Int32 → SY → Prop) (t q n : Nat) (a L : Nat → Int32) (ht : t < 6) (hq : q < 6) (hn : n ≤ 30) (h : post (nI q) (nI (q + 1), pt_cp a (248 * q) (248 * t) (8 * n + 8), upd L q (nI n))) : ∀ e j : Nat, j + e = 8 * n + 8 → wY_restore_26 post (nI t) (nI n) (nI q) (e + 1) (nI j) (pt_cp a (248 * q) (248 * t) j) L := by
  intro e
  induction e with
  | zero =>
    intro j hj
    obtain rfl : j = 8 * n + 8 := by omega
    rw [wY_restore_26]
    refine br_t (by rw [pt_len]; exact nI_le (Nat.le_refl _) (by omega)) ⟨vp_in_nI hq (by decide), ?_⟩
    rw [nI_clamp (by omega)]
    refine nm_e (nm_r (nI_1 q) ?_)
    rw [nI_pred]
    exact h
  | succ e ih =>
    intro j hj
    rw [wY_restore_26]
    refine br_f (by rw [pt_len]; exact nI_ge (by omega) (by omega)) ?_
    rw [pt_ixR, pt_ixR, nI_clamp (by omega), nI_clamp (by omega)]
    exact ⟨vp_in_nI (by omega) (by decide), vp_in_nI (by omega) (by decide), nm_e (nm_r (nI_1 j) (ih (j + 1) (by omega)))⟩
theorem pt_copyX {t q n : Nat} {f : Int32} {a L : Nat → Int32} (ht : t < 6) (hq : q < 6) (hn : n ≤ 30) (post : SX → Prop) (h : post (f, pt_cp a (248 * q) (248 * t) (8 * n + 8), L)) : wpX_copyPoints post (f, a, L) (nI t) (nI q) (nI n) := by
  unfold wpX_copyPoints
  dsimp only
  refine pt_cellX t 0 0 (248 * t) rfl _ ?_
  refine pt_cellX q 0 0 (248 * q) rfl _ ?_
  refine nm_r (pt_lenX n) ?_
  exact ⟨8 * n + 8 + 1, pt_cX post (248 * t) (248 * q) (8 * n + 8) f a L (by omega) (by omega) h (8 * n + 8) 0 (by omega)⟩
theorem pt_n5 {p : Nat} (hp : p < 5) : ¬ nI p = 5 := fun e => by
  have := (nI_eq (a := p) (b := 5) (by omega) (by decide)).mp e
  omega
theorem pt_n6 {p : Nat} (hp : p < 6) : ¬ nI p = 6 := fun e => by
  have := (nI_eq (a := p) (b := 6) (by omega) (by decide)).mp e
  omega
theorem i_vc_restore {k : Nat} {u : SX} {v : SY} (I : i_Rel k u v) (hk : k + 4 ≤ 2048) (v1 : Int32) (v2 : Int32) : wpX_restore (fun r u' => wpY_restore (fun r' v' => r' = r ∧ i_Rel (k + 4) u' v') v v1 v2) u v1 v2 := by
  obtain ⟨p, a, L, hp, hL, rfl, rfl⟩ := I
  have R : i_Rel (k + 4) (nI p, a, L) (nI (p + 1), a, L) := ⟨p, a, L, hp, hL, rfl, rfl⟩
  unfold wpX_restore wpY_restore
  dsimp only
  rcases pt_pt a hp hL v1 v2 with ⟨t, n, m, ht, hn, hm, e, rfl, rfl⟩ | ⟨hX, hY⟩
  · by_cases h : p = 5
    · subst h
      exact pt_pX hp ht hn hm e _ (br_f (by decide) (br_t rfl (pt_pY hp ht hn hm e _ (br_f (by decide) (br_t rfl ⟨rfl, R⟩)))))
    · refine pt_pX hp ht hn hm e _ (br_f (by decide) (br_f (pt_n5 (by omega)) (nm_r (nI_1 p) ?_)))
      refine pt_copyX (by omega) (by omega) (by omega) _ ?_
      dsimp only
      refine ⟨vp_in_nI (by omega) (by decide), ?_⟩
      rw [nI_clamp (by omega)]
      refine nm_e ?_
      refine pt_pY hp ht hn hm e _ (br_f (by decide) (br_f (pt_n6 (by omega)) ?_))
      refine ⟨8 * n + 8 + 1, pt_cY _ t (p + 1) n a L (by omega) (by omega) (by omega) ?_ (8 * n + 8) 0 (by omega)⟩
      exact ⟨rfl, p + 1, _, _, by omega, pt_upd hL (p + 1) n (by omega), rfl, rfl⟩
  · exact hX _ (br_t rfl (hY _ (br_t rfl ⟨rfl, R⟩)))
