/-! a new point: eight cells copied behind the last ones -/
theorem pt_mX (post : SX → Prop) (s d : Nat) (f : Int32) (a L : Nat → Int32) (hs : s + 8 ≤ 1488) (hd : d + 8 ≤ 1488) (h : post (f, pt_cp a d s 8, L)) : ∀ e j : Nat, j + e = 8 → wX_makePoint_27 post (nI s) (nI d) f (e + 1) (nI j) (pt_cp a d s j) L := by
  intro e
  induction e with
  | zero =>
    intro j hj
    obtain rfl : j = 8 := by omega
    rw [wX_makePoint_27]
    exact br_t (nI_le (a := 8) (b := 8) (by omega) (by decide)) h
  | succ e ih =>
    intro j hj
    rw [wX_makePoint_27]
    refine br_f (nI_ge (b := 8) (by omega) (by decide)) ?_
    rw [nI_add, nI_add, nI_clamp (by omega), nI_clamp (by omega)]
    exact ⟨vp_in_nI (by omega) (by decide), vp_in_nI (by omega) (by decide), nm_e (nm_r (nI_1 j) (ih (j + 1) (by omega)))⟩
theorem pt_mkX {p m : Nat} {a L : Nat → Int32} (hp : p < 6) (hm : m < 30) (hL : L p = nI m) (post : SX → Prop) (h : post (nI p, pt_cp a (248 * p + 8 * m + 8) (248 * p + 8 * m) 8, upd L p (nI (m + 1)))) : wpX_makePoint post (nI p, a, L) := by
  unfold wpX_makePoint
  dsimp only
  refine pt_nowX hp hL 0 (248 * p + 8 * m) rfl _ ?_
  refine ⟨vp_in_nI hp (by decide), vp_in_nI hp (by decide), ?_⟩
  rw [nI_clamp (by omega), hL, nI_1]
  refine nm_e ?_
  refine pt_nowX hp (m := m + 1) pk_us 0 (248 * p + 8 * m + 8) (by omega) _ ?_
  exact ⟨9, pt_mX post (248 * p + 8 * m) (248 * p + 8 * m + 8) (nI p) a _ (by omega) (by omega) h 8 0 rfl⟩
theorem pt_mY (post : SY → Prop) (s p m : Nat) (a L : Nat → Int32) (hp : p < 6) (hL : L p = nI m) (hs : s + 16 ≤ 1488) (h : post (nI (p + 1), pt_cp a (s + 8) s 8, upd L p (nI (m + 1)))) : ∀ e j : Nat, j + e = 8 → wY_goOn_7 post (nI s) (nI (p + 1)) (e + 1) (nI j) (pt_cp a (s + 8) s j) L := by
  intro e
  induction e with
  | zero =>
    intro j hj
    obtain rfl : j = 8 := by omega
    rw [wY_goOn_7]
    refine br_t (nI_le (a := 8) (b := 8) (by omega) (by decide)) ?_
    rw [nI_pred, nI_clamp (by omega), hL, nI_1]
    exact ⟨vp_in_nI hp (by decide), vp_in_nI hp (by decide), nm_e h⟩
  | succ e ih =>
    intro j hj
    rw [wY_goOn_7]
    refine br_f (nI_ge (b := 8) (by omega) (by decide)) ?_
    rw [nI_add, pt_a8, nI_clamp (by omega), nI_clamp (by omega)]
    exact ⟨vp_in_nI (by omega) (by decide), vp_in_nI (by omega) (by decide), nm_e (nm_r (nI_1 j) (ih (j + 1) (by omega)))⟩
theorem pt_mkY {p m : Nat} {a L : Nat → Int32} (hp : p < 6) (hm : m < 30) (hL : L p = nI m) (post : SY → Prop) (h : post (nI (p + 1), pt_cp a (248 * p + 8 * m + 8) (248 * p + 8 * m) 8, upd L p (nI (m + 1)))) : wpY_goOn post (nI (p + 1), a, L) := by
  unfold wpY_goOn
  dsimp only
  refine pt_nowY hp hL (248 * p + 8 * m) rfl _ ?_
  exact ⟨9, pt_mY post (248 * p + 8 * m) p m a L hp hL (by omega) h 8 0 rfl⟩
/-! set -/
theorem pt_setX {p m j : Nat} {a L : Nat → Int32} (hp : p < 6) (hm : m < 30) (hL : L p = nI m) (hj : j < 8) (w : Int32) (post : Int32 → SX → Prop)
    (h : post (nI (m + 1)) (nI p, upd (pt_cp a (248 * p + 8 * m + 8) (248 * p + 8 * m) 8) (248 * p + 8 * m + 8 + j) w, upd L p (nI (m + 1)))) : wpX_set post (nI p, a, L) (nI j) w := by
  unfold wpX_set
  dsimp only
  refine pt_kX hj _ (br_f (by decide) (pt_fX0 hp hL hm _ (br_t rfl (pt_mkX hp hm hL _ ?_))))
  dsimp only
  refine pt_nowX hp (m := m + 1) pk_us j (248 * p + 8 * m + 8 + j) (by omega) _ ?_
  refine ⟨vp_in_nI (by omega) (by decide), ?_⟩
  rw [nI_clamp (by omega), nI_clamp (by omega), pk_us]
  exact nm_e ⟨vp_in_nI hp (by decide), h⟩
theorem pt_setY {p m j : Nat} {a L : Nat → Int32} (hp : p < 6) (hm : m < 30) (hL : L p = nI m) (hj : j < 8) (w : Int32) (post : Int32 → SY → Prop)
    (h : post (nI (m + 1)) (nI (p + 1), upd (pt_cp a (248 * p + 8 * m + 8) (248 * p + 8 * m) 8) (248 * p + 8 * m + 8 + j) w, upd L p (nI (m + 1)))) : wpY_set post (nI (p + 1), a, L) (nI j) w := by
  unfold wpY_set
  dsimp only
  refine pt_kY hj _ (br_f (by decide) (pt_pointY hp hL _ (br_f (pt_n30 hm) (pt_mkY hp hm hL _ ?_))))
  dsimp only
  refine pt_nowY hp (m := m + 1) pk_us (248 * p + 8 * m + 8) (by omega) _ ?_
  rw [nI_add, nI_clamp (by omega)]
  exact ⟨vp_in_nI (by omega) (by decide), nm_e (pt_pointY hp pk_us _ h)⟩
theorem pt_setX0 {a L : Nat → Int32} {f x w : Int32} (hx : ∀ post : Int32 → Prop, post 0 → wpX_isKey post x) (post : Int32 → SX → Prop) (h : post (-1) (f, a, L)) : wpX_set post (f, a, L) x w := by
  unfold wpX_set
  dsimp only
  exact hx _ (br_t rfl h)
theorem pt_setY0 {a L : Nat → Int32} {f x w : Int32} (hx : ∀ (post : Int32 → Prop) (t : Int32) (a L : Nat → Int32), post 0 → wpY_isKey post (t, a, L) x) (post : Int32 → SY → Prop) (h : post (-1) (f, a, L)) : wpY_set post (f, a, L) x w := by
  unfold wpY_set
  dsimp only
  exact hx _ _ _ _ (br_t rfl h)
theorem pt_setX1 {p j : Nat} {a L : Nat → Int32} (hp : p < 6) (hL : L p = nI 30) (hj : j < 8) (w : Int32) (post : Int32 → SX → Prop) (h : post (-2) (nI p, a, L)) : wpX_set post (nI p, a, L) (nI j) w := by
  unfold wpX_set
  dsimp only
  exact pt_kX hj _ (br_f (by decide) (pt_fX1 hp hL _ (br_f (by decide) h)))
theorem pt_setY1 {p j : Nat} {a L : Nat → Int32} (hp : p < 6) (hL : L p = nI 30) (hj : j < 8) (w : Int32) (post : Int32 → SY → Prop) (h : post (-2) (nI (p + 1), a, L)) : wpY_set post (nI (p + 1), a, L) (nI j) w := by
  unfold wpY_set
  dsimp only
  exact pt_kY hj _ (br_f (by decide) (pt_pointY hp hL _ (br_t rfl h)))
theorem i_vc_set {k : Nat} {u : SX} {v : SY} (I : i_Rel k u v) (hk : k + 4 ≤ 2048) (v1 : Int32) (v2 : Int32) : wpX_set (fun r u' => wpY_set (fun r' v' => r' = r ∧ i_Rel (k + 4) u' v') v v1 v2) u v1 v2 := by
  obtain ⟨p, a, L, hp, hL, rfl, rfl⟩ := I
  rcases pt_key v1 with ⟨j, hj, rfl⟩ | ⟨hX, hY⟩
  · obtain ⟨m, hm, e⟩ := hL p
    by_cases h : m = 30
    · subst h
      exact pt_setX1 hp e hj v2 _ (pt_setY1 hp e hj v2 _ ⟨rfl, p, a, L, hp, hL, rfl, rfl⟩)
    · exact pt_setX hp (by omega) e hj v2 _ (pt_setY hp (by omega) e hj v2 _ ⟨rfl, p, _, _, hp, pt_upd hL p (m + 1) (by omega), rfl, rfl⟩)
  · exact pt_setX0 hX _ (pt_setY0 hY _ ⟨rfl, p, a, L, hp, hL, rfl, rfl⟩)
/-! get -/
theorem pt_getX {p m j : Nat} {a L : Nat → Int32} (hp : p < 6) (hm : m ≤ 30) (hL : L p = nI m) (hj : j < 8) (post : Int32 → Prop) (h : post (a (248 * p + 8 * m + j))) : wpX_get post (nI p, a, L) (nI j) := by
  unfold wpX_get
  dsimp only
  refine pt_kX hj _ (br_f (by decide) (pt_nowX hp hL j (248 * p + 8 * m + j) rfl _ ?_))
  rw [nI_clamp (by omega)]
  exact ⟨vp_in_nI (by omega) (by decide), h⟩
theorem pt_getY {p m j : Nat} {a L : Nat → Int32} (hp : p < 6) (hm : m ≤ 30) (hL : L p = nI m) (hj : j < 8) (post : Int32 → Prop) (h : post (a (248 * p + 8 * m + j))) : wpY_get post (nI (p + 1), a, L) (nI j) := by
  unfold wpY_get
  dsimp only
  refine pt_nowY hp hL (248 * p + 8 * m) rfl _ (pt_kY hj _ (br_f (by decide) ?_))
  rw [nI_add, nI_clamp (by omega)]
  exact ⟨vp_in_nI (by omega) (by decide), h⟩
theorem pt_getY0 {p m : Nat} {a L : Nat → Int32} {x : Int32} (hp : p < 6) (hL : L p = nI m) (hx : ∀ (post : Int32 → Prop) (t : Int32) (a L : Nat → Int32), post 0 → wpY_isKey post (t, a, L) x) (post : Int32 → Prop) (h : post 0) : wpY_get post (nI (p + 1), a, L) x := by
  unfold wpY_get
  dsimp only
  exact pt_nowY hp hL (248 * p + 8 * m) rfl _ (hx _ _ _ _ (br_t rfl h))
theorem i_vc_get {k : Nat} {u : SX} {v : SY} (I : i_Rel k u v) (hk : k + 4 ≤ 2048) (v1 : Int32) : wpX_get (fun r => wpY_get (fun r' => r' = r ∧ i_Rel (k + 4) u v) v v1) u v1 := by
  obtain ⟨p, a, L, hp, hL, rfl, rfl⟩ := I
  obtain ⟨m, hm, e⟩ := hL p
  rcases pt_key v1 with ⟨j, hj, rfl⟩ | ⟨hX, hY⟩
  · exact pt_getX hp hm e hj _ (pt_getY hp hm e hj _ ⟨rfl, p, a, L, hp, hL, rfl, rfl⟩)
  · unfold wpX_get
    dsimp only
    exact hX _ (br_t rfl (pt_getY0 hp e hY _ ⟨rfl, p, a, L, hp, hL, rfl, rfl⟩))
/-! add -/
theorem pt_addX {p m j : Nat} {a L : Nat → Int32} (hp : p < 6) (hm : m < 30) (hL : L p = nI m) (hj : j < 8) (w : Int32) (post : Int32 → SX → Prop)
    (h : post (nI (m + 1)) (nI p, upd (pt_cp a (248 * p + 8 * m + 8) (248 * p + 8 * m) 8) (248 * p + 8 * m + 8 + j) (a (248 * p + 8 * m + j) + w), upd L p (nI (m + 1)))) : wpX_add post (nI p, a, L) (nI j) w := by
  unfold wpX_add
  dsimp only
  refine pt_kX hj _ (br_f (by decide) (pt_fX0 hp hL hm _ (br_t rfl (pt_mkX hp hm hL _ ?_))))
  dsimp only
  refine pt_nowX hp (m := m + 1) pk_us j (248 * p + 8 * m + 8 + j) (by omega) _ ?_
  refine ⟨vp_in_nI (by omega) (by decide), vp_in_nI (by omega) (by decide), ?_⟩
  rw [nI_clamp (by omega), nI_clamp (by omega), pk_us, pt_cp_at a _ _ 8 (by omega) j hj]
  exact nm_e ⟨vp_in_nI hp (by decide), h⟩
theorem pt_addX0 {a L : Nat → Int32} {f x w : Int32} (hx : ∀ post : Int32 → Prop, post 0 → wpX_isKey post x) (post : Int32 → SX → Prop) (h : post (-1) (f, a, L)) : wpX_add post (f, a, L) x w := by
  unfold wpX_add
  dsimp only
  exact hx _ (br_t rfl h)
theorem pt_addX1 {p j : Nat} {a L : Nat → Int32} (hp : p < 6) (hL : L p = nI 30) (hj : j < 8) (w : Int32) (post : Int32 → SX → Prop) (h : post (-2) (nI p, a, L)) : wpX_add post (nI p, a, L) (nI j) w := by
  unfold wpX_add
  dsimp only
  exact pt_kX hj _ (br_f (by decide) (pt_fX1 hp hL _ (br_f (by decide) h)))
theorem i_vc_add {k : Nat} {u : SX} {v : SY} (I : i_Rel k u v) (hk : k + 4 ≤ 2048) (v1 : Int32) (v2 : Int32) : wpX_add (fun r u' => wpY_add (fun r' v' => r' = r ∧ i_Rel (k + 4) u' v') v v1 v2) u v1 v2 := by
  obtain ⟨p, a, L, hp, hL, rfl, rfl⟩ := I
  obtain ⟨m, hm, e⟩ := hL p
  unfold wpY_add
  dsimp only
  rcases pt_key v1 with ⟨j, hj, rfl⟩ | ⟨hX, hY⟩
  · by_cases h : m = 30
    · subst h
      exact pt_addX1 hp e hj v2 _ (pt_getY hp hm e hj _ (pt_setY1 hp e hj _ _ ⟨rfl, p, a, L, hp, hL, rfl, rfl⟩))
    · exact pt_addX hp (by omega) e hj v2 _ (pt_getY hp hm e hj _ (pt_setY hp (by omega) e hj _ _ ⟨rfl, p, _, _, hp, pt_upd hL p (m + 1) (by omega), rfl, rfl⟩))
  · exact pt_addX0 hX _ (pt_getY0 hp e hY _ (pt_setY0 hY _ ⟨rfl, p, a, L, hp, hL, rfl, rfl⟩))
/-! exchange -/
theorem pt_excX {p m j l : Nat} {a L : Nat → Int32} (hp : p < 6) (hm : m < 30) (hL : L p = nI m) (hj : j < 8) (hl : l < 8) (post : Int32 → SX → Prop)
    (h : ∀ b : Nat → Int32, b = pt_cp a (248 * p + 8 * m + 8) (248 * p + 8 * m) 8 → post (nI (m + 1)) (nI p, upd (upd b (248 * p + 8 * m + 8 + j) (b (248 * p + 8 * m + 8 + l))) (248 * p + 8 * m + 8 + l) (b (248 * p + 8 * m + 8 + j)), upd L p (nI (m + 1)))) : wpX_exchange post (nI p, a, L) (nI j) (nI l) := by
  have h' := h _ rfl
  unfold wpX_exchange
  dsimp only
  refine pt_kX hj _ (br_f (by decide) (pt_kX hl _ (br_f (by decide) (pt_fX0 hp hL hm _ (br_t rfl (pt_mkX hp hm hL _ ?_))))))
  dsimp only
  refine pt_nowX hp (m := m + 1) pk_us j (248 * p + 8 * m + 8 + j) (by omega) _ ?_
  refine pt_nowX hp (m := m + 1) pk_us l (248 * p + 8 * m + 8 + l) (by omega) _ ?_
  rw [nI_clamp (n := 248 * p + 8 * m + 8 + j) (by omega), nI_clamp (n := 248 * p + 8 * m + 8 + l) (by omega), nI_clamp (n := p) (by omega), pk_us]
  exact ⟨vp_in_nI (by omega) (by decide), nm_e ⟨vp_in_nI (by omega) (by decide), vp_in_nI (by omega) (by decide), nm_e ⟨vp_in_nI (by omega) (by decide), nm_e ⟨vp_in_nI hp (by decide), h'⟩⟩⟩⟩
theorem pt_excY {p m j l : Nat} {a L : Nat → Int32} (hp : p < 6) (hm : m < 30) (hL : L p = nI m) (hj : j < 8) (hl : l < 8) (post : Int32 → SY → Prop)
    (h : ∀ b : Nat → Int32, b = pt_cp a (248 * p + 8 * m + 8) (248 * p + 8 * m) 8 → post (nI (m + 1)) (nI (p + 1), upd (upd b (248 * p + 8 * m + 8 + j) (b (248 * p + 8 * m + 8 + l))) (248 * p + 8 * m + 8 + l) (b (248 * p + 8 * m + 8 + j)), upd L p (nI (m + 1)))) : wpY_exchange post (nI (p + 1), a, L) (nI j) (nI l) := by
  have h' := h _ rfl
  unfold wpY_exchange
  dsimp only
  refine pt_kY hj _ (br_f (by decide) (pt_kY hl _ (br_f (by decide) (pt_pointY hp hL _ (br_f (pt_n30 hm) (pt_mkY hp hm hL _ ?_))))))
  dsimp only
  refine pt_nowY hp (m := m + 1) pk_us (248 * p + 8 * m + 8) (by omega) _ ?_
  rw [nI_add _ j, nI_add _ l, nI_clamp (n := 248 * p + 8 * m + 8 + j) (by omega), nI_clamp (n := 248 * p + 8 * m + 8 + l) (by omega)]
  exact ⟨vp_in_nI (by omega) (by decide), nm_e ⟨vp_in_nI (by omega) (by decide), vp_in_nI (by omega) (by decide), nm_e ⟨vp_in_nI (by omega) (by decide), nm_e (pt_pointY hp pk_us _ h')⟩⟩⟩
theorem i_vc_exchange {k : Nat} {u : SX} {v : SY} (I : i_Rel k u v) (hk : k + 4 ≤ 2048) (v1 : Int32) (v2 : Int32) : wpX_exchange (fun r u' => wpY_exchange (fun r' v' => r' = r ∧ i_Rel (k + 4) u' v') v v1 v2) u v1 v2 := by
  obtain ⟨p, a, L, hp, hL, rfl, rfl⟩ := I
  obtain ⟨m, hm, e⟩ := hL p
  have R : i_Rel (k + 4) (nI p, a, L) (nI (p + 1), a, L) := ⟨p, a, L, hp, hL, rfl, rfl⟩
  rcases pt_key v1 with ⟨j, hj, rfl⟩ | ⟨hX, hY⟩
  · rcases pt_key v2 with ⟨l, hl, rfl⟩ | ⟨hX, hY⟩
    · by_cases h : m = 30
      · subst h
        unfold wpX_exchange wpY_exchange
        dsimp only
        exact pt_kX hj _ (br_f (by decide) (pt_kX hl _ (br_f (by decide) (pt_fX1 hp e _ (br_f (by decide) (pt_kY hj _ (br_f (by decide) (pt_kY hl _ (br_f (by decide) (pt_pointY hp e _ (br_t rfl ⟨rfl, R⟩)))))))))))
      · refine pt_excX hp (by omega) e hj hl _ (fun b hb => pt_excY hp (by omega) e hj hl _ (fun b' hb' => ?_))
        cases hb'.trans hb.symm
        exact ⟨rfl, p, _, _, hp, pt_upd hL p (m + 1) (by omega), rfl, rfl⟩
    · unfold wpX_exchange wpY_exchange
      dsimp only
      exact pt_kX hj _ (br_f (by decide) (hX _ (br_t rfl (pt_kY hj _ (br_f (by decide) (hY _ _ _ _ (br_t rfl ⟨rfl, R⟩)))))))
  · unfold wpX_exchange wpY_exchange
    dsimp only
    exact hX _ (br_t rfl (hY _ _ _ _ (br_t rfl ⟨rfl, R⟩)))
