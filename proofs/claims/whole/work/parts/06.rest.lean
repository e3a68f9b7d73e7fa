/-! crash, backup, flush: no state -/
theorem i_vc_crash {k : Nat} {u : SX} {v : SY} (I : i_Rel k u v) (hk : k + 4 ≤ 2048) : wpX_crash (fun r => wpY_crash (fun r' => r' = r ∧ i_Rel (k + 4) u v) v) u := by
  obtain ⟨p, a, L, hp, hL, rfl, rfl⟩ := I
  exact ⟨rfl, p, a, L, hp, hL, rfl, rfl⟩
theorem i_vc_backup {k : Nat} {u : SX} {v : SY} (I : i_Rel k u v) (hk : k + 4 ≤ 2048) (v1 : Int32) : wpX_backup (fun r => wpY_backup (fun r' => r' = r ∧ i_Rel (k + 4) u v) v v1) u v1 := by
  obtain ⟨p, a, L, hp, hL, rfl, rfl⟩ := I
  have R : i_Rel (k + 4) (nI p, a, L) (nI (p + 1), a, L) := ⟨p, a, L, hp, hL, rfl, rfl⟩
  unfold wpX_backup wpX_isCount wpY_backup
  dsimp only
  rcases pt_split v1 8 with h | ⟨j, h, hj, rfl⟩ | ⟨j, h, rfl⟩
  · exact br_t h (br_t rfl (br_t h ⟨rfl, R⟩))
  · exact br_f (nI_pos hj) (br_t (nI_lt (a := 8) h hj) (br_t rfl (br_f (nI_pos hj) (br_f (nI_ge (a := 8) h hj) ⟨rfl, R⟩))))
  · exact br_f (nI_pos (by omega)) (br_f (nI_nlt (a := 8) h (by decide)) (br_f (by decide) (br_f (nI_pos (by omega)) (br_t (nI_le (b := 8) h (by decide)) ⟨rfl, R⟩))))
theorem i_vc_flush {k : Nat} {u : SX} {v : SY} (I : i_Rel k u v) (hk : k + 4 ≤ 2048) (v1 : Int32) : wpX_flush (fun r => wpY_flush (fun r' => r' = r ∧ i_Rel (k + 4) u v) v v1) u v1 := by
  obtain ⟨p, a, L, hp, hL, rfl, rfl⟩ := I
  have R : i_Rel (k + 4) (nI p, a, L) (nI (p + 1), a, L) := ⟨p, a, L, hp, hL, rfl, rfl⟩
  unfold wpX_flush wpX_isCount wpY_flush
  dsimp only
  rcases pt_split v1 8 with h | ⟨j, h, hj, rfl⟩ | ⟨j, h, rfl⟩
  · exact br_t h (br_t rfl (br_t h ⟨rfl, R⟩))
  · exact br_f (nI_pos hj) (br_t (nI_lt (a := 8) h hj) (br_t rfl (br_f (nI_pos hj) (br_f (nI_ge (a := 8) h hj) ⟨rfl, R⟩))))
  · exact br_f (nI_pos (by omega)) (br_f (nI_nlt (a := 8) h (by decide)) (br_f (by decide) (br_f (nI_pos (by omega)) (br_t (nI_le (b := 8) h (by decide)) ⟨rfl, R⟩))))
