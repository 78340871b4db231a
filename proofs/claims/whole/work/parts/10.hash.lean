/-! ===== the hash ===== -/
def qb_u1 (x : Int32) : Int32 := (x.toUInt32 >>> ((1 : Int32).toUInt32 &&& Int32.toUInt32 31)).toInt32
def qb_mw (m : Nat → Int32) (c : Nat) : Int32 := qb_u1 (m c) ||| (m (c - 1) <<< ((31 : Int32) &&& 31))
def qb_mv (m : Nat → Int32) (c : Nat) : Int32 := if c = 0 then (if m 3 &&& 1 = 1 then qb_u1 (m 0) ^^^ (-520093696) else qb_u1 (m 0)) else qb_mw m c
def qb_MV (m : Nat → Int32) : Nat → Nat → Int32
  | 0 => m
  | i + 1 => qb_mv (qb_MV m i)
def qb_tb (z : Nat → Int32) (i : Nat) : Int32 := ((z (i / 32)).toUInt32 >>> ((nI (31 - i % 32)).toUInt32 &&& Int32.toUInt32 31)).toInt32 &&& 1
def qb_PR (z m : Nat → Int32) : Nat → Nat → Int32
  | 0 => fun _ => 0
  | i + 1 => fun c => if qb_tb z i = 1 then qb_PR z m i c ^^^ qb_MV m i c else qb_PR z m i c
theorem qb_PRt (z m : Nat → Int32) {i : Nat} (h : qb_tb z i = 1) (c : Nat) : qb_PR z m (i + 1) c = qb_PR z m i c ^^^ qb_MV m i c := if_pos h
theorem qb_PRf (z m : Nat → Int32) {i : Nat} (h : ¬ qb_tb z i = 1) (c : Nat) : qb_PR z m (i + 1) c = qb_PR z m i c := if_neg h
theorem qb_mv_c {m f : Nat → Int32} (h : ∀ c, c < 4 → f c = m c) : ∀ c, c < 4 → qb_mv f c = qb_mv m c := by
  intro c hc
  unfold qb_mv qb_mw
  rw [h 3 (by decide), h 0 (by decide), h c hc, h (c - 1) (by omega)]
/-- what the last part of a move leaves -/
theorem qb_mv_t (m f : Nat → Int32) (h0 : f 0 = m 0) (h1 : ∀ c, 0 < c → c < 4 → f c = qb_mw m c) (h : m 3 &&& 1 = 1) : ∀ c, c < 4 → upd (upd f 0 (qb_u1 (f 0))) 0 (upd f 0 (qb_u1 (f 0)) 0 ^^^ (-520093696)) c = qb_mv m c := by
  intro c hc
  unfold qb_mv
  by_cases z : c = 0
  · subst z; rw [pk_us, pk_us, if_pos rfl, if_pos h, h0]
  · rw [pk_un z, pk_un z, if_neg z]; exact h1 c (by omega) hc
theorem qb_mv_f (m f : Nat → Int32) (h0 : f 0 = m 0) (h1 : ∀ c, 0 < c → c < 4 → f c = qb_mw m c) (h : ¬ m 3 &&& 1 = 1) : ∀ c, c < 4 → upd f 0 (qb_u1 (f 0)) c = qb_mv m c := by
  intro c hc
  unfold qb_mv
  by_cases z : c = 0
  · subst z; rw [pk_us, if_pos rfl, if_neg h, h0]
  · rw [pk_un z, if_neg z]; exact h1 c (by omega) hc
def qb_MI (m : Nat → Int32) (i : Nat) (f : Nat → Int32) : Prop := i ≤ 3 ∧ (∀ c, i < c → c < 4 → f c = qb_mw m c) ∧ (∀ c, c ≤ i → f c = m c)
theorem qb_MIs {m f : Nat → Int32} {i : Nat} (h : qb_MI m (i + 1) f) {v : Int32} (hv : v = qb_mw m (i + 1)) : qb_MI m i (upd f (i + 1) v) := by
  obtain ⟨hi, h1, h2⟩ := h
  refine ⟨by omega, fun c hc h4 => ?_, fun c hc => ?_⟩
  · by_cases z : c = i + 1
    · subst z; rw [pk_us, hv]
    · rw [pk_un z]; exact h1 c (by omega) h4
  · rw [pk_un (by omega)]; exact h2 c (by omega)
theorem qb_i5 : ∀ i, i < 128 → nI i >>> ((5 : Int32) &&& 31) = nI (i / 32) := by decide +kernel
theorem qb_i6 : ∀ i, i < 128 → (31 : Int32) - (nI i &&& 31) = nI (31 - i % 32) := by decide +kernel
theorem qb_i7 : ∀ i, i < 128 → nI i / 32 = nI (i / 32) := by decide +kernel
theorem qb_i8 : ∀ i, i < 128 → (31 : Int32) - (nI i - nI i / 32 * 32) = nI (31 - i % 32) := by decide +kernel
theorem qb_d32 : ¬ (32 : Int32) = 0 := by decide
theorem qx_mv (post : SX → Prop) {a1 a2 a3 a4 a5 a6 a7 a8 a9 : Nat → Int32} (m : Nat → Int32) (hm : ∀ c, c < 4 → a8 c = m c) (H : ∀ f, (∀ c, c < 4 → f c = qb_mv m c) → post (a1, a2, a3, a4, a5, a6, a7, f, a9)) : wpX_moveFactor post (a1, a2, a3, a4, a5, a6, a7, a8, a9) := by
  unfold wpX_moveFactor
  dsimp only
  refine nm_e ?_
  refine ⟨4, pk_loopD (σ := Nat → Int32) (fun n i f => wX_moveFactor_11 post (a8 3 &&& 1) n (nI i) a1 a2 a3 a4 a5 a6 a7 f a9) (fun i f => qb_MI a8 i f) ?_ ?_ 3 a8 ⟨Nat.le_refl 3, fun c h1 h2 => absurd h1 (by omega), fun c _ => rfl⟩⟩
  · rintro n f ⟨_, h1, h2⟩
    refine br_t (nI_le (a := 0) (b := 0) (Nat.le_refl 0) (by decide)) (nm_e ?_)
    by_cases z : a8 3 &&& 1 = 1
    · exact br_t z (nm_e (H _ (fun c hc => (qb_mv_t a8 f (h2 0 (Nat.le_refl 0)) h1 z c hc).trans (qb_mv_c hm c hc))))
    · exact br_f z (H _ (fun c hc => (qb_mv_f a8 f (h2 0 (Nat.le_refl 0)) h1 z c hc).trans (qb_mv_c hm c hc)))
  · rintro n i f h ih
    have hi := h.1
    have hc : (nI (i + 1)).toNatClampNeg = i + 1 := nI_clamp (by omega)
    have hd : (nI i).toNatClampNeg = i := nI_clamp (by omega)
    have e1 : nI (i + 1) - 1 = nI i := nI_pred i
    refine br_f (nI_nle (by omega) (by omega)) ?_
    rw [e1, hc, hd]
    refine ⟨vp_in_nI (by omega) (by decide), vp_in_nI (by omega) (by decide), vp_in_nI (by omega) (by decide), nm_e (nm_r (pk_m1 i) (ih _ (qb_MIs h ?_)))⟩
    rw [h.2.2 (i + 1) (Nat.le_refl _), h.2.2 i (by omega)]
    rfl
theorem qy_m20 (post : SY → Prop) {b1 b2 b3 b4 b5 b6 b7 b8 b9 : Nat → Int32} (m : Nat → Int32) (hm : ∀ c, c < 4 → b8 c = m c) (x1 : Int32) (hx : x1 = 1 ∧ b8 3 &&& 1 = 1 ∨ x1 = 0 ∧ ¬ b8 3 &&& 1 = 1) (H : ∀ f, (∀ c, c < 4 → f c = qb_mv m c) → post (b1, b2, b3, b4, b5, b6, b7, f, b9)) : ∃ n, wY_moveBit_20 post x1 n 3 b1 b2 b3 b4 b5 b6 b7 b8 b9 := by
  refine ⟨4, pk_loopD (σ := Nat → Int32) (fun n i f => wY_moveBit_20 post x1 n (nI i) b1 b2 b3 b4 b5 b6 b7 f b9) (fun i f => qb_MI b8 i f) ?_ ?_ 3 b8 ⟨Nat.le_refl 3, fun c h1 h2 => absurd h1 (by omega), fun c _ => rfl⟩⟩
  · rintro n f ⟨_, h1, h2⟩
    refine br_t (nI_le (a := 0) (b := 0) (Nat.le_refl 0) (by decide)) (nm_e ?_)
    rcases hx with ⟨e, z⟩ | ⟨e, z⟩
    · exact br_f (by rw [e]; decide) (nm_e (H _ (fun c hc => (qb_mv_t b8 f (h2 0 (Nat.le_refl 0)) h1 z c hc).trans (qb_mv_c hm c hc))))
    · exact br_t e (H _ (fun c hc => (qb_mv_f b8 f (h2 0 (Nat.le_refl 0)) h1 z c hc).trans (qb_mv_c hm c hc)))
  · rintro n i f h ih
    have hi := h.1
    have hc : (nI (i + 1)).toNatClampNeg = i + 1 := nI_clamp (by omega)
    have hd : (nI i).toNatClampNeg = i := nI_clamp (by omega)
    have e1 : nI (i + 1) - 1 = nI i := nI_pred i
    refine br_f (nI_nle (by omega) (by omega)) ?_
    rw [e1, hc, hd]
    refine ⟨vp_in_nI (by omega) (by decide), vp_in_nI (by omega) (by decide), vp_in_nI (by omega) (by decide), nm_e (nm_r (pk_m1 i) (ih _ (qb_MIs h ?_)))⟩
    rw [h.2.2 (i + 1) (Nat.le_refl _), h.2.2 i (by omega)]
    rfl
theorem qy_mv (post : SY → Prop) {b1 b2 b3 b4 b5 b6 b7 b8 b9 : Nat → Int32} (m : Nat → Int32) (hm : ∀ c, c < 4 → b8 c = m c) (H : ∀ f, (∀ c, c < 4 → f c = qb_mv m c) → post (b1, b2, b3, b4, b5, b6, b7, f, b9)) : wpY_moveBit post (b1, b2, b3, b4, b5, b6, b7, b8, b9) := by
  unfold wpY_moveBit
  dsimp only
  exact br_c (fun z => qy_m20 post m hm 1 (Or.inl ⟨rfl, z⟩) H) (fun z => qy_m20 post m hm 0 (Or.inr ⟨rfl, z⟩) H)
theorem qx_cl_sum (post : SX → Prop) {a1 a2 a3 a4 a5 a6 a7 a8 a9 : Nat → Int32} (H : ∀ a, (∀ c, c < 4 → a c = 0) → post (a1, a2, a3, a4, a5, a6, a7, a8, a)) : wpX_clear__sum post (a1, a2, a3, a4, a5, a6, a7, a8, a9) := by
  show ∃ n, wX_clear__sum_2 post n 0 a1 a2 a3 a4 a5 a6 a7 a8 a9
  refine pk_loop (σ := Nat → Int32) (fun n i a => wX_clear__sum_2 post n (nI i) a1 a2 a3 a4 a5 a6 a7 a8 a) (fun i a => ∀ c, c < i → a c = 0) 4 0 a9 (by decide) (fun j h => absurd h (Nat.not_lt_zero j)) ?_ ?_
  · intro n a h1
    exact br_t (nI_le (a := 4) (b := 4) (Nat.le_refl 4) (by decide)) (H a h1)
  · intro n i a hi h1 ih
    have hc : (nI i).toNatClampNeg = i := nI_clamp (by omega)
    refine br_f (nI_ge (b := 4) hi (by decide)) ?_
    rw [hc]
    exact ⟨vp_in_nI hi (by decide), nm_e (nm_r (nI_1 i) (ih _ (qb_ul (g := fun _ => 0) h1 rfl)))⟩
theorem qx_cl_hashed (post : SX → Prop) {a1 a2 a3 a4 a5 a6 a7 a8 a9 : Nat → Int32} (H : ∀ a, (∀ c, c < 4 → a c = 0) → post (a1, a2, a3, a4, a, a6, a7, a8, a9)) : wpX_clear__hashed post (a1, a2, a3, a4, a5, a6, a7, a8, a9) := by
  show ∃ n, wX_clear__hashed_2 post n 0 a1 a2 a3 a4 a5 a6 a7 a8 a9
  refine pk_loop (σ := Nat → Int32) (fun n i a => wX_clear__hashed_2 post n (nI i) a1 a2 a3 a4 a a6 a7 a8 a9) (fun i a => ∀ c, c < i → a c = 0) 4 0 a5 (by decide) (fun j h => absurd h (Nat.not_lt_zero j)) ?_ ?_
  · intro n a h1
    exact br_t (nI_le (a := 4) (b := 4) (Nat.le_refl 4) (by decide)) (H a h1)
  · intro n i a hi h1 ih
    have hc : (nI i).toNatClampNeg = i := nI_clamp (by omega)
    refine br_f (nI_ge (b := 4) hi (by decide)) ?_
    rw [hc]
    exact ⟨vp_in_nI hi (by decide), nm_e (nm_r (nI_1 i) (ih _ (qb_ul (g := fun _ => 0) h1 rfl)))⟩
theorem qx_cl_factor (post : SX → Prop) {a1 a2 a3 a4 a5 a6 a7 a8 a9 : Nat → Int32} (H : ∀ a, (∀ c, c < 4 → a c = 0) → post (a1, a2, a3, a4, a5, a6, a7, a, a9)) : wpX_clear__factor post (a1, a2, a3, a4, a5, a6, a7, a8, a9) := by
  show ∃ n, wX_clear__factor_2 post n 0 a1 a2 a3 a4 a5 a6 a7 a8 a9
  refine pk_loop (σ := Nat → Int32) (fun n i a => wX_clear__factor_2 post n (nI i) a1 a2 a3 a4 a5 a6 a7 a a9) (fun i a => ∀ c, c < i → a c = 0) 4 0 a8 (by decide) (fun j h => absurd h (Nat.not_lt_zero j)) ?_ ?_
  · intro n a h1
    exact br_t (nI_le (a := 4) (b := 4) (Nat.le_refl 4) (by decide)) (H a h1)
  · intro n i a hi h1 ih
    have hc : (nI i).toNatClampNeg = i := nI_clamp (by omega)
    refine br_f (nI_ge (b := 4) hi (by decide)) ?_
    rw [hc]
    exact ⟨vp_in_nI hi (by decide), nm_e (nm_r (nI_1 i) (ih _ (qb_ul (g := fun _ => 0) h1 rfl)))⟩
theorem qx_aw_hashed_sum (post : SX → Prop) {a1 a2 a3 a4 a5 a6 a7 a8 a9 : Nat → Int32} (H : ∀ a, (∀ c, c < 4 → a c = a5 c ^^^ a9 c) → post (a1, a2, a3, a4, a, a6, a7, a8, a9)) : wpX_addWords__hashed_sum post (a1, a2, a3, a4, a5, a6, a7, a8, a9) := by
  show ∃ n, wX_addWords__hashed_sum_2 post n 0 a1 a2 a3 a4 a5 a6 a7 a8 a9
  refine pk_loop (σ := Nat → Int32) (fun n i a => wX_addWords__hashed_sum_2 post n (nI i) a1 a2 a3 a4 a a6 a7 a8 a9) (fun i a => (∀ c, c < i → a c = a5 c ^^^ a9 c) ∧ (∀ c, i ≤ c → c < 4 → a c = a5 c)) 4 0 a5 (by decide) ⟨fun j h => absurd h (Nat.not_lt_zero j), fun j _ _ => rfl⟩ ?_ ?_
  · rintro n a ⟨h1, h2⟩
    exact br_t (nI_le (a := 4) (b := 4) (Nat.le_refl 4) (by decide)) (H a h1)
  · rintro n i a hi ⟨h1, h2⟩ ih
    have hc : (nI i).toNatClampNeg = i := nI_clamp (by omega)
    refine br_f (nI_ge (b := 4) hi (by decide)) ?_
    rw [hc, h2 i (Nat.le_refl i) hi]
    exact ⟨vp_in_nI hi (by decide), vp_in_nI hi (by decide), vp_in_nI hi (by decide), nm_e (nm_r (nI_1 i) (ih _ ⟨qb_ul h1 rfl, qb_uh h2⟩))⟩
theorem qx_aw_sum_factor (post : SX → Prop) {a1 a2 a3 a4 a5 a6 a7 a8 a9 : Nat → Int32} (H : ∀ a, (∀ c, c < 4 → a c = a9 c ^^^ a8 c) → post (a1, a2, a3, a4, a5, a6, a7, a8, a)) : wpX_addWords__sum_factor post (a1, a2, a3, a4, a5, a6, a7, a8, a9) := by
  show ∃ n, wX_addWords__sum_factor_2 post n 0 a1 a2 a3 a4 a5 a6 a7 a8 a9
  refine pk_loop (σ := Nat → Int32) (fun n i a => wX_addWords__sum_factor_2 post n (nI i) a1 a2 a3 a4 a5 a6 a7 a8 a) (fun i a => (∀ c, c < i → a c = a9 c ^^^ a8 c) ∧ (∀ c, i ≤ c → c < 4 → a c = a9 c)) 4 0 a9 (by decide) ⟨fun j h => absurd h (Nat.not_lt_zero j), fun j _ _ => rfl⟩ ?_ ?_
  · rintro n a ⟨h1, h2⟩
    exact br_t (nI_le (a := 4) (b := 4) (Nat.le_refl 4) (by decide)) (H a h1)
  · rintro n i a hi ⟨h1, h2⟩ ih
    have hc : (nI i).toNatClampNeg = i := nI_clamp (by omega)
    refine br_f (nI_ge (b := 4) hi (by decide)) ?_
    rw [hc, h2 i (Nat.le_refl i) hi]
    exact ⟨vp_in_nI hi (by decide), vp_in_nI hi (by decide), vp_in_nI hi (by decide), nm_e (nm_r (nI_1 i) (ih _ ⟨qb_ul h1 rfl, qb_uh h2⟩))⟩
theorem qx_aw_hashed_present (post : SX → Prop) {a1 a2 a3 a4 a5 a6 a7 a8 a9 : Nat → Int32} (H : ∀ a, (∀ c, c < 4 → a c = a5 c ^^^ a4 c) → post (a1, a2, a3, a4, a, a6, a7, a8, a9)) : wpX_addWords__hashed_present post (a1, a2, a3, a4, a5, a6, a7, a8, a9) := by
  show ∃ n, wX_addWords__hashed_present_2 post n 0 a1 a2 a3 a4 a5 a6 a7 a8 a9
  refine pk_loop (σ := Nat → Int32) (fun n i a => wX_addWords__hashed_present_2 post n (nI i) a1 a2 a3 a4 a a6 a7 a8 a9) (fun i a => (∀ c, c < i → a c = a5 c ^^^ a4 c) ∧ (∀ c, i ≤ c → c < 4 → a c = a5 c)) 4 0 a5 (by decide) ⟨fun j h => absurd h (Nat.not_lt_zero j), fun j _ _ => rfl⟩ ?_ ?_
  · rintro n a ⟨h1, h2⟩
    exact br_t (nI_le (a := 4) (b := 4) (Nat.le_refl 4) (by decide)) (H a h1)
  · rintro n i a hi ⟨h1, h2⟩ ih
    have hc : (nI i).toNatClampNeg = i := nI_clamp (by omega)
    refine br_f (nI_ge (b := 4) hi (by decide)) ?_
    rw [hc, h2 i (Nat.le_refl i) hi]
    exact ⟨vp_in_nI hi (by decide), vp_in_nI hi (by decide), vp_in_nI hi (by decide), nm_e (nm_r (nI_1 i) (ih _ ⟨qb_ul h1 rfl, qb_uh h2⟩))⟩
theorem qx_m49 (post : SX → Prop) (J : Int32 → (Nat → Int32) → (Nat → Int32) → (Nat → Int32) → (Nat → Int32) → (Nat → Int32) → (Nat → Int32) → (Nat → Int32) → (Nat → Int32) → (Nat → Int32) → Prop) {a1 a2 a3 a4 a5 a6 a7 a8 a9 : Nat → Int32} (i : Nat) (m : Nat → Int32) (hm : ∀ c, c < 4 → a8 c = m c) (H : ∀ f, (∀ c, c < 4 → f c = qb_mv m c) → J (nI (i + 1)) a1 a2 a3 a4 a5 a6 a7 f a9) : wX_multiplyHashByFactor_49 post J (nI i) a1 a2 a3 a4 a5 a6 a7 a8 a9 := by
  unfold wX_multiplyHashByFactor_49
  refine qx_mv _ m hm (fun f hf => ?_)
  exact nm_r (nI_1 i) (H f hf)
theorem qx_mul (post : SX → Prop) {a1 a2 a3 a4 a5 a6 a7 a8 a9 : Nat → Int32} (z m : Nat → Int32) (hz : ∀ c, c < 4 → a5 c = z c) (hm : ∀ c, c < 4 → a8 c = m c) (H : ∀ h f g, (∀ c, c < 4 → h c = qb_PR z m 128 c) → post (a1, a2, a3, a4, h, a6, a7, f, g)) : wpX_multiplyHashByFactor post (a1, a2, a3, a4, a5, a6, a7, a8, a9) := by
  unfold wpX_multiplyHashByFactor
  dsimp only
  refine qx_cl_sum _ (fun g0 h0 => ?_)
  dsimp only
  refine pk_loop (σ := (Nat → Int32) × (Nat → Int32)) (fun n i s => wX_multiplyHashByFactor_9 post n (nI i) a1 a2 a3 a4 a5 a6 a7 s.1 s.2) (fun i s => (∀ c, c < 4 → s.1 c = qb_MV m i c) ∧ (∀ c, c < 4 → s.2 c = qb_PR z m i c)) 128 0 (a8, g0) (by decide) ⟨hm, h0⟩ ?_ ?_
  · rintro n ⟨f, g⟩ ⟨h1, h2⟩
    refine br_t (nI_le (a := 128) (b := 128) (Nat.le_refl 128) (by decide)) (qx_cl_hashed _ (fun h hh => ?_))
    dsimp only
    refine qx_aw_hashed_sum _ (fun h' hh' => ?_)
    refine H h' f g (fun c hc => ?_)
    rw [hh' c hc, hh c hc, Int32.zero_xor]
    exact h2 c hc
  · rintro n i ⟨f, g⟩ hi ⟨h1, h2⟩ ih
    have hd : (nI (i / 32)).toNatClampNeg = i / 32 := nI_clamp (by omega)
    refine br_f (nI_ge (b := 128) hi (by decide)) ?_
    rw [qb_i5 i hi, qb_i6 i hi, hd, hz _ (by omega)]
    refine ⟨vp_in_nI (by omega) (by decide), ?_⟩
    by_cases b : qb_tb z i = 1
    · refine br_t b (qx_aw_sum_factor _ (fun g' hg => ?_))
      dsimp only
      refine qx_m49 _ _ i _ h1 (fun f' hf => ih (f', g') ⟨hf, fun c hc => ?_⟩)
      rw [qb_PRt z m b]
      have e1 := h1 c hc
      have e2 := h2 c hc
      dsimp only at e1 e2
      rw [← e1, ← e2]
      exact hg c hc
    · refine br_f b (qx_m49 _ _ i _ h1 (fun f' hf => ih (f', g) ⟨hf, fun c hc => ?_⟩))
      rw [qb_PRf z m b]
      exact h2 c hc
theorem qx_absorb (post : SX → Prop) {a1 a2 a3 a4 a5 a6 a7 a8 a9 : Nat → Int32} (hT : qb_Tab a1) (H : ∀ h a c f g, (∀ k, k < 4 → h k = qb_PR (fun k => a5 k ^^^ a4 k) (qb_jn (qb_en a3 (qb_ld (fun _ => 0)) 10)) 128 k) → post (a1, a2, a3, a4, h, a, c, f, g)) : wpX_absorb post (a1, a2, a3, a4, a5, a6, a7, a8, a9) := by
  unfold wpX_absorb
  dsimp only
  refine qx_cl_factor _ (fun f0 h0 => ?_)
  dsimp only
  refine qx_en_factor _ hT (fun _ => 0) h0 (fun p a c hp => ?_)
  dsimp only
  refine qx_aw_hashed_present _ (fun h hh => ?_)
  dsimp only
  refine qx_mul _ (fun k => a5 k ^^^ a4 k) _ hh hp (fun h' f g hg => ?_)
  exact H h' a c f g hg
/-! the same for Y -/
theorem qy_ab134 (post : SY → Prop) {b1 b2 b3 b4 b5 b6 b7 b8 b9 : Nat → Int32} (H : ∀ h, (∀ c, c < 4 → h c = b9 c) → post (b1, b2, b3, h, b5, b6, b7, b8, b9)) : ∃ n, wY_absorb_134 post n 0 b1 b2 b3 b4 b5 b6 b7 b8 b9 := by
  refine pk_loop (σ := Nat → Int32) (fun n i a => wY_absorb_134 post n (nI i) b1 b2 b3 a b5 b6 b7 b8 b9) (fun i a => ∀ c, c < i → a c = b9 c) 4 0 b4 (by decide) (fun j h => absurd h (Nat.not_lt_zero j)) ?_ ?_
  · intro n a h1
    exact br_t (nI_le (a := 4) (b := 4) (Nat.le_refl 4) (by decide)) (H a h1)
  · intro n i a hi h1 ih
    have hc : (nI i).toNatClampNeg = i := nI_clamp (by omega)
    refine br_f (nI_ge (b := 4) hi (by decide)) ?_
    rw [hc]
    exact ⟨vp_in_nI hi (by decide), vp_in_nI hi (by decide), nm_e (nm_r (nI_1 i) (ih _ (qb_ul h1 rfl)))⟩
theorem qy_ab73 (post : SY → Prop) (J : Int32 → (Nat → Int32) → (Nat → Int32) → (Nat → Int32) → (Nat → Int32) → (Nat → Int32) → (Nat → Int32) → (Nat → Int32) → (Nat → Int32) → (Nat → Int32) → Prop) {b1 b2 b3 b4 b5 b6 b7 b8 b9 : Nat → Int32} (z m : Nat → Int32) {i : Nat} (hi : i < 128) (hz : ∀ c, c < 4 → b7 c = z c) (hm : ∀ c, c < 4 → b8 c = qb_MV m i c) (hp : ∀ c, c < 4 → b9 c = qb_PR z m i c) (H : ∀ f g, (∀ c, c < 4 → f c = qb_MV m (i + 1) c) → (∀ c, c < 4 → g c = qb_PR z m (i + 1) c) → J (nI (i + 1)) b1 b2 b3 b4 b5 b6 b7 f g) : ∃ n, wY_absorb_73 post J (nI i) n 0 b1 b2 b3 b4 b5 b6 b7 b8 b9 := by
  have hd : (nI (i / 32)).toNatClampNeg = i / 32 := nI_clamp (by omega)
  have hb : (z (i / 32) >>> (nI (31 - i % 32) &&& 31)) &&& 1 = qb_tb z i := qb_bit _ _ (by omega)
  refine pk_loop (σ := Nat → Int32) (fun n k g => wY_absorb_73 post J (nI i) n (nI k) b1 b2 b3 b4 b5 b6 b7 b8 g) (fun k g => (∀ c, c < k → g c = qb_PR z m (i + 1) c) ∧ (∀ c, k ≤ c → c < 4 → g c = qb_PR z m i c)) 4 0 b9 (by decide) ⟨fun j h => absurd h (Nat.not_lt_zero j), fun j _ h => hp j h⟩ ?_ ?_
  · rintro n g ⟨h1, h2⟩
    refine br_t (nI_le (a := 4) (b := 4) (Nat.le_refl 4) (by decide)) (qy_mv _ _ hm (fun f hf => ?_))
    exact nm_r (nI_1 i) (H f g hf h1)
  · rintro n k g hk ⟨h1, h2⟩ ih
    have hc : (nI k).toNatClampNeg = k := nI_clamp (by omega)
    refine br_f (nI_ge (b := 4) hk (by decide)) ⟨qb_d32, ?_⟩
    rw [qb_i8 i hi, qb_i7 i hi, hd, hz _ (by omega), hb, hc, h2 k (Nat.le_refl k) hk, hm k hk]
    refine ⟨vp_in_nI (by omega) (by decide), qb_d32, ?_⟩
    by_cases b : qb_tb z i = 1
    · exact br_t b ⟨vp_in_nI hk (by decide), vp_in_nI hk (by decide), vp_in_nI hk (by decide), nm_e (nm_r (nI_1 k) (ih _ ⟨qb_ul h1 (qb_PRt z m b k).symm, qb_uh h2⟩))⟩
    · refine br_f b (nm_r (nI_1 k) (ih g ⟨fun c h => ?_, fun c h h4 => h2 c (by omega) h4⟩))
      by_cases y : c = k
      · subst y; rw [qb_PRf z m b]; exact h2 c (Nat.le_refl c) hk
      · exact h1 c (by omega)
theorem qy_ab64 (post : SY → Prop) {b1 b2 b3 b4 b5 b6 b7 b8 b9 : Nat → Int32} (z m : Nat → Int32) (hz : ∀ c, c < 4 → b7 c = z c) (hm : ∀ c, c < 4 → b8 c = m c) (hp : ∀ c, c < 4 → b9 c = 0) (H : ∀ h f g, (∀ c, c < 4 → h c = qb_PR z m 128 c) → post (b1, b2, b3, h, b5, b6, b7, f, g)) : ∃ n, wY_absorb_64 post n 0 b1 b2 b3 b4 b5 b6 b7 b8 b9 := by
  refine pk_loop (σ := (Nat → Int32) × (Nat → Int32)) (fun n i s => wY_absorb_64 post n (nI i) b1 b2 b3 b4 b5 b6 b7 s.1 s.2) (fun i s => (∀ c, c < 4 → s.1 c = qb_MV m i c) ∧ (∀ c, c < 4 → s.2 c = qb_PR z m i c)) 128 0 (b8, b9) (by decide) ⟨hm, hp⟩ ?_ ?_
  · rintro n ⟨f, g⟩ ⟨h1, h2⟩
    exact br_t (nI_le (a := 128) (b := 128) (Nat.le_refl 128) (by decide)) (qy_ab134 _ (fun h hh => H h f g (fun c hc => (hh c hc).trans (h2 c hc))))
  · rintro n i ⟨f, g⟩ hi ⟨h1, h2⟩ ih
    exact br_f (nI_ge (b := 128) hi (by decide)) (qy_ab73 _ _ z m hi hz h1 h2 (fun f' g' hf hg => ih (f', g') ⟨hf, hg⟩))
theorem qy_ab14 (post : SY → Prop) {b1 b2 b3 b4 b5 b6 b7 b8 b9 : Nat → Int32} (s : Nat → Nat) (hs : qb_Sq b5 s) (H : ∀ q f g, (∀ c, c < 4 → q c = b4 c ^^^ b3 c) → (∀ c, c < 4 → f c = qb_jn s c) → (∀ c, c < 4 → g c = 0) → ∃ n, wY_absorb_64 post n 0 b1 b2 b3 b4 b5 b6 q f g) : ∃ n, wY_absorb_14 post n 0 b1 b2 b3 b4 b5 b6 b7 b8 b9 := by
  refine pk_loop (σ := (Nat → Int32) × (Nat → Int32) × (Nat → Int32)) (fun n i t => wY_absorb_14 post n (nI i) b1 b2 b3 b4 b5 b6 t.1 t.2.1 t.2.2) (fun i t => (∀ c, c < i → t.1 c = b4 c ^^^ b3 c) ∧ (∀ c, c < i → t.2.1 c = qb_jn s c) ∧ (∀ c, c < i → t.2.2 c = 0)) 4 0 (b7, b8, b9) (by decide) ⟨fun j h => absurd h (Nat.not_lt_zero j), fun j h => absurd h (Nat.not_lt_zero j), fun j h => absurd h (Nat.not_lt_zero j)⟩ ?_ ?_
  · rintro n ⟨q, f, g⟩ ⟨h1, h2, h3⟩
    exact br_t (nI_le (a := 4) (b := 4) (Nat.le_refl 4) (by decide)) (H q f g h1 h2 h3)
  · rintro n i ⟨q, f, g⟩ hi ⟨h1, h2, h3⟩ ih
    have hc : (nI i).toNatClampNeg = i := nI_clamp (by omega)
    refine br_f (nI_ge (b := 4) hi (by decide)) (qy_joined _ s hs hi ?_)
    rw [hc]
    exact ⟨vp_in_nI hi (by decide), nm_e ⟨vp_in_nI hi (by decide), vp_in_nI hi (by decide), vp_in_nI hi (by decide), nm_e ⟨vp_in_nI hi (by decide), nm_e (nm_r (nI_1 i) (ih (upd q i (b4 i ^^^ b3 i), upd f i (qb_jn s i), upd g i 0) ⟨qb_ul h1 rfl, qb_ul h2 rfl, qb_ul (g := fun _ => 0) h3 rfl⟩))⟩⟩⟩
theorem qb_PR_c {z y m : Nat → Int32} (hz : ∀ c, c < 4 → z c = y c) : ∀ i, i ≤ 128 → ∀ c, qb_PR z m i c = qb_PR y m i c := by
  intro i
  induction i with
  | zero => exact fun _ _ => rfl
  | succ i ih =>
    intro hi c
    have e : qb_tb z i = qb_tb y i := by unfold qb_tb; rw [hz (i / 32) (by omega)]
    by_cases b : qb_tb z i = 1
    · rw [qb_PRt z m b, qb_PRt y m (e ▸ b), ih (by omega)]
    · rw [qb_PRf z m b, qb_PRf y m (e ▸ b), ih (by omega)]
theorem qy_absorb (post : SY → Prop) {b1 b2 b3 b4 b5 b6 b7 b8 b9 : Nat → Int32} (hT : qb_Tab b1) (H : ∀ h a c q f g, (∀ k, k < 4 → h k = qb_PR (fun k => b4 k ^^^ b3 k) (qb_jn (qb_en b2 (qb_ld (fun _ => 0)) 10)) 128 k) → post (b1, b2, b3, h, a, c, q, f, g)) : wpY_absorb post (b1, b2, b3, b4, b5, b6, b7, b8, b9) := by
  unfold wpY_absorb
  dsimp only
  refine qy_lay _ (fun _ => 0) (fun a0 h0 => ?_)
  dsimp only
  refine qy_rounds _ hT _ h0 (fun a c h1 => ?_)
  dsimp only
  refine qy_ab14 _ _ h1 (fun q f g hq hf hg => ?_)
  exact qy_ab64 _ (fun k => b4 k ^^^ b3 k) _ hq hf hg (fun h f' g' hh => H h a c q f' g' hh)
