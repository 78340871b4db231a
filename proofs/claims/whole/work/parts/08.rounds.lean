/-! ===== the rounds ===== -/
theorem qb_mgE {s : Nat → Nat} (hs : ∀ k, k < 16 → s k < 256) : ∀ j, j < 16 → qb_mg 2 3 1 1 s j = qb_mc s j := fun _ hj => qb_mcX s hj hs
theorem qb_srX (s : Nat → Nat) : ∀ j, j < 16 → s (qb_rx 1 j) = qb_sr s j := fun j hj => congrArg s (qb_rx1 j hj)
theorem qb_s3X (s : Nat → Nat) : ∀ j, j < 16 → s (qb_rx 3 j) = qb_s3 s j := fun j hj => congrArg s (qb_rx3 j hj)
theorem qb_e1_10 (rk : Nat → Int32) (s : Nat → Nat) : qb_e1 rk 10 s = qb_ak rk 10 (qb_sr (qb_su s)) := rfl
theorem qb_e1_n (rk : Nat → Int32) {q : Nat} (h : q ≠ 10) (s : Nat → Nat) : qb_e1 rk q s = qb_ak rk q (qb_mc (qb_sr (qb_su s))) := by unfold qb_e1; rw [if_neg h]
theorem qb_d1_10 (rk : Nat → Int32) (s : Nat → Nat) : qb_d1 rk 10 s = qb_un (qb_s3 (qb_ak rk 10 s)) := rfl
theorem qb_d1_n (rk : Nat → Int32) {q : Nat} (h : q ≠ 10) (s : Nat → Nat) : qb_d1 rk q s = qb_un (qb_s3 (qb_mi (qb_ak rk q s))) := by unfold qb_d1; rw [if_neg h]
theorem qb_de0 (rk : Nat → Int32) {a : Nat → Int32} {s : Nat → Nat} (h : qb_Sq a s) : qb_Sq a (qb_de rk s (10 - 10)) := by
  show qb_Sq a (qb_de rk s 0)
  exact h
theorem qb_de_s (rk : Nat → Int32) (s : Nat → Nat) {i : Nat} (hi : i ≤ 9) : qb_de rk s (10 - i) = qb_d1 rk (i + 1) (qb_de rk s (10 - (i + 1))) := by
  have e1 : 10 - i = (9 - i) + 1 := by omega
  have e2 : 10 - (i + 1) = 9 - i := by omega
  have e3 : 10 - (9 - i) = i + 1 := by omega
  rw [e1, e2]
  show qb_d1 rk (10 - (9 - i)) (qb_de rk s (9 - i)) = _
  rw [e3]
theorem qx_e45_present (post : SX → Prop) (J : Int32 → (Nat → Int32) → (Nat → Int32) → (Nat → Int32) → (Nat → Int32) → (Nat → Int32) → (Nat → Int32) → (Nat → Int32) → (Nat → Int32) → (Nat → Int32) → Prop) {a1 a2 a3 a4 a5 a6 a7 a8 a9 : Nat → Int32} {q : Nat} (hq : q < 11) (s : Nat → Nat) (hs : qb_Sq a6 s) (H : ∀ a, qb_Sq a (qb_ak a3 q s) → J (nI (q + 1)) a1 a2 a3 a4 a5 a a7 a8 a9) : wX_encryptWords__present_45 post J (nI q) a1 a2 a3 a4 a5 a6 a7 a8 a9 := by
  unfold wX_encryptWords__present_45
  refine qx_ark _ hq s hs (fun a ha => ?_)
  exact nm_r (nI_1 q) (H a ha)
theorem qx_en_present (post : SX → Prop) {a1 a2 a3 a4 a5 a6 a7 a8 a9 : Nat → Int32} (hT : qb_Tab a1) (w : Nat → Int32) (hw : ∀ c, c < 4 → a4 c = w c) (H : ∀ p a c, (∀ k, k < 4 → p k = qb_jn (qb_en a3 (qb_ld w) 10) k) → post (a1, a2, a3, p, a5, a, c, a8, a9)) : wpX_encryptWords__present post (a1, a2, a3, a4, a5, a6, a7, a8, a9) := by
  unfold wpX_encryptWords__present
  dsimp only
  refine qx_ld_present _ w hw (fun a0 h0 => ?_)
  dsimp only
  refine qx_ark (q := 0) _ (by decide) _ h0 (fun a01 h01 => ?_)
  dsimp only
  refine pk_loop (σ := (Nat → Int32) × (Nat → Int32)) (fun n i s => wX_encryptWords__present_12 post n (nI (i + 1)) a1 a2 a3 a4 a5 s.1 s.2 a8 a9) (fun i s => qb_Sq s.1 (qb_en a3 (qb_ld w) i)) 10 0 (a01, a7) (by decide) h01 ?_ ?_
  · rintro n ⟨a, c⟩ h
    refine br_t (nI_lt (a := 10) (b := 11) (by decide) (by decide)) (qx_st_present _ _ h (fun p hp => ?_))
    exact H p a c hp
  · rintro n i ⟨a, c⟩ hi h ih
    have hn : ¬ (10 : Int32) < nI (i + 1) := nI_nlt (a := 10) (b := i + 1) (by omega) (by decide)
    refine br_f hn (qx_rb_substitutes _ hT _ h (fun a2' h2 => ?_))
    dsimp only
    refine qx_sr (t := 1) _ (by decide) _ h2 (fun a3' c3 h3 => ?_)
    have h3' := qb_Sq_c h3 (qb_srX _)
    dsimp only
    by_cases z : i = 9
    · subst z
      exact br_t rfl (qx_e45_present _ _ (by decide) _ h3' (fun a4' h4 => ih (a4', c3) h4))
    · refine br_f (fun y => z (by have := (nI_eq (a := i + 1) (b := 10) (by omega) (by decide)).mp y; omega)) ?_
      refine qx_mg (m0 := 2) (m1 := 3) (m2 := 1) (m3 := 1) _ (by decide) (by decide) (by decide) (by decide) _ h3' (fun a4' c4 h4 => ?_)
      have h4' := qb_Sq_c h4 (qb_mgE (fun k hk => (h3' k hk).2))
      refine qx_e45_present _ _ (by omega) _ h4' (fun a5' h5 => ih (a5', c4) ?_)
      show qb_Sq a5' (qb_e1 a3 (i + 1) (qb_en a3 (qb_ld w) i))
      rw [qb_e1_n a3 (by omega)]
      exact h5
theorem qx_e45_factor (post : SX → Prop) (J : Int32 → (Nat → Int32) → (Nat → Int32) → (Nat → Int32) → (Nat → Int32) → (Nat → Int32) → (Nat → Int32) → (Nat → Int32) → (Nat → Int32) → (Nat → Int32) → Prop) {a1 a2 a3 a4 a5 a6 a7 a8 a9 : Nat → Int32} {q : Nat} (hq : q < 11) (s : Nat → Nat) (hs : qb_Sq a6 s) (H : ∀ a, qb_Sq a (qb_ak a3 q s) → J (nI (q + 1)) a1 a2 a3 a4 a5 a a7 a8 a9) : wX_encryptWords__factor_45 post J (nI q) a1 a2 a3 a4 a5 a6 a7 a8 a9 := by
  unfold wX_encryptWords__factor_45
  refine qx_ark _ hq s hs (fun a ha => ?_)
  exact nm_r (nI_1 q) (H a ha)
theorem qx_en_factor (post : SX → Prop) {a1 a2 a3 a4 a5 a6 a7 a8 a9 : Nat → Int32} (hT : qb_Tab a1) (w : Nat → Int32) (hw : ∀ c, c < 4 → a8 c = w c) (H : ∀ p a c, (∀ k, k < 4 → p k = qb_jn (qb_en a3 (qb_ld w) 10) k) → post (a1, a2, a3, a4, a5, a, c, p, a9)) : wpX_encryptWords__factor post (a1, a2, a3, a4, a5, a6, a7, a8, a9) := by
  unfold wpX_encryptWords__factor
  dsimp only
  refine qx_ld_factor _ w hw (fun a0 h0 => ?_)
  dsimp only
  refine qx_ark (q := 0) _ (by decide) _ h0 (fun a01 h01 => ?_)
  dsimp only
  refine pk_loop (σ := (Nat → Int32) × (Nat → Int32)) (fun n i s => wX_encryptWords__factor_12 post n (nI (i + 1)) a1 a2 a3 a4 a5 s.1 s.2 a8 a9) (fun i s => qb_Sq s.1 (qb_en a3 (qb_ld w) i)) 10 0 (a01, a7) (by decide) h01 ?_ ?_
  · rintro n ⟨a, c⟩ h
    refine br_t (nI_lt (a := 10) (b := 11) (by decide) (by decide)) (qx_st_factor _ _ h (fun p hp => ?_))
    exact H p a c hp
  · rintro n i ⟨a, c⟩ hi h ih
    have hn : ¬ (10 : Int32) < nI (i + 1) := nI_nlt (a := 10) (b := i + 1) (by omega) (by decide)
    refine br_f hn (qx_rb_substitutes _ hT _ h (fun a2' h2 => ?_))
    dsimp only
    refine qx_sr (t := 1) _ (by decide) _ h2 (fun a3' c3 h3 => ?_)
    have h3' := qb_Sq_c h3 (qb_srX _)
    dsimp only
    by_cases z : i = 9
    · subst z
      exact br_t rfl (qx_e45_factor _ _ (by decide) _ h3' (fun a4' h4 => ih (a4', c3) h4))
    · refine br_f (fun y => z (by have := (nI_eq (a := i + 1) (b := 10) (by omega) (by decide)).mp y; omega)) ?_
      refine qx_mg (m0 := 2) (m1 := 3) (m2 := 1) (m3 := 1) _ (by decide) (by decide) (by decide) (by decide) _ h3' (fun a4' c4 h4 => ?_)
      have h4' := qb_Sq_c h4 (qb_mgE (fun k hk => (h3' k hk).2))
      refine qx_e45_factor _ _ (by omega) _ h4' (fun a5' h5 => ih (a5', c4) ?_)
      show qb_Sq a5' (qb_e1 a3 (i + 1) (qb_en a3 (qb_ld w) i))
      rw [qb_e1_n a3 (by omega)]
      exact h5
theorem qx_d36 (post : SX → Prop) (J : Int32 → (Nat → Int32) → (Nat → Int32) → (Nat → Int32) → (Nat → Int32) → (Nat → Int32) → (Nat → Int32) → (Nat → Int32) → (Nat → Int32) → (Nat → Int32) → Prop) {a1 a2 a3 a4 a5 a6 a7 a8 a9 : Nat → Int32} (hO : ∀ x, x < 256 → a2 x = nI (qb_OG x)) (q : Nat) (s : Nat → Nat) (hs : qb_Sq a6 s) (H : ∀ a c, qb_Sq a (qb_un (qb_s3 s)) → J (nI q) a1 a2 a3 a4 a5 a c a8 a9) : wX_decryptWords__present_36 post J (nI (q + 1)) a1 a2 a3 a4 a5 a6 a7 a8 a9 := by
  unfold wX_decryptWords__present_36
  refine qx_sr (t := 3) _ (by decide) s hs (fun a c h => ?_)
  have h' := qb_Sq_c h (qb_s3X s)
  dsimp only
  refine qx_rb_originals _ hO _ h' (fun a2' h2 => ?_)
  exact nm_r (pk_m1 q) (H a2' c h2)
theorem qx_de_present (post : SX → Prop) {a1 a2 a3 a4 a5 a6 a7 a8 a9 : Nat → Int32} (hO : ∀ x, x < 256 → a2 x = nI (qb_OG x)) (w : Nat → Int32) (hw : ∀ c, c < 4 → a4 c = w c) (H : ∀ p a c, (∀ k, k < 4 → p k = qb_jn (qb_ak a3 0 (qb_de a3 (qb_ld w) 10)) k) → post (a1, a2, a3, p, a5, a, c, a8, a9)) : wpX_decryptWords__present post (a1, a2, a3, a4, a5, a6, a7, a8, a9) := by
  unfold wpX_decryptWords__present
  dsimp only
  refine qx_ld_present _ w hw (fun a0 h0 => ?_)
  dsimp only
  refine ⟨11, pk_loopD (σ := (Nat → Int32) × (Nat → Int32)) (fun n i s => wX_decryptWords__present_8 post n (nI i) a1 a2 a3 a4 a5 s.1 s.2 a8 a9) (fun i s => i ≤ 10 ∧ qb_Sq s.1 (qb_de a3 (qb_ld w) (10 - i))) ?_ ?_ 10 (a0, a7) ⟨Nat.le_refl 10, qb_de0 a3 h0⟩⟩
  · rintro n ⟨a, c⟩ ⟨_, h⟩
    refine br_t (nI_lt (a := 0) (b := 1) (by decide) (by decide)) (qx_ark (q := 0) _ (by decide) _ h (fun a2' h2 => ?_))
    dsimp only
    refine qx_st_present _ _ h2 (fun p hp => ?_)
    exact H p a2' c hp
  · rintro n i ⟨a, c⟩ ⟨hi, h⟩ ih
    have hn : ¬ nI (i + 1) < (1 : Int32) := nI_nlt (a := i + 1) (b := 1) (by omega) (by omega)
    refine br_f hn (qx_ark _ (by omega) _ h (fun a2' h2 => ?_))
    dsimp only
    by_cases z : i = 9
    · subst z
      refine br_t rfl (qx_d36 _ _ hO 9 _ h2 (fun a3' c3 h3 => ih (a3', c3) ⟨by decide, ?_⟩))
      show qb_Sq a3' (qb_de a3 (qb_ld w) (10 - 9))
      rw [qb_de_s _ _ (by decide)]
      exact h3
    · refine br_f (fun y => z (by have := (nI_eq (a := i + 1) (b := 10) (by omega) (by decide)).mp y; omega)) ?_
      refine qx_mg (m0 := 14) (m1 := 11) (m2 := 13) (m3 := 9) _ (by decide) (by decide) (by decide) (by decide) _ h2 (fun a4' c4 h4 => ?_)
      refine qx_d36 _ _ hO i _ h4 (fun a5' c5 h5 => ih (a5', c5) ⟨by omega, ?_⟩)
      show qb_Sq a5' (qb_de a3 (qb_ld w) (10 - i))
      rw [qb_de_s _ _ (by omega), qb_d1_n a3 (by omega)]
      exact h5
theorem qy_e31 (post : SY → Prop) (J : Int32 → (Nat → Int32) → (Nat → Int32) → (Nat → Int32) → (Nat → Int32) → (Nat → Int32) → (Nat → Int32) → (Nat → Int32) → (Nat → Int32) → (Nat → Int32) → Prop) {b1 b2 b3 b4 b5 b6 b7 b8 b9 : Nat → Int32} {q : Nat} (hq : q < 11) (s : Nat → Nat) (hs : qb_Sq b5 s) (H : ∀ a, qb_Sq a (qb_ak b2 q s) → J (nI (q + 1)) b1 b2 b3 b4 a b6 b7 b8 b9) : wY_rounds_31 post J (nI q) b1 b2 b3 b4 b5 b6 b7 b8 b9 := by
  unfold wY_rounds_31
  refine qy_ark _ hq s hs (fun a ha => ?_)
  exact nm_r (nI_1 q) (H a ha)
theorem qy_rounds (post : SY → Prop) {b1 b2 b3 b4 b5 b6 b7 b8 b9 : Nat → Int32} (hT : qb_Tab b1) (s : Nat → Nat) (hs : qb_Sq b5 s) (H : ∀ a c, qb_Sq a (qb_en b2 s 10) → post (b1, b2, b3, b4, a, c, b7, b8, b9)) : wpY_rounds post (b1, b2, b3, b4, b5, b6, b7, b8, b9) := by
  unfold wpY_rounds
  dsimp only
  refine qy_ark (q := 0) _ (by decide) _ hs (fun a01 h01 => ?_)
  dsimp only
  refine pk_loop (σ := (Nat → Int32) × (Nat → Int32)) (fun n i t => wY_rounds_7 post n (nI (i + 1)) b1 b2 b3 b4 t.1 t.2 b7 b8 b9) (fun i t => qb_Sq t.1 (qb_en b2 s i)) 10 0 (a01, b6) (by decide) h01 ?_ ?_
  · rintro n ⟨a, c⟩ h
    exact br_t (nI_lt (a := 10) (b := 11) (by decide) (by decide)) (H a c h)
  · rintro n i ⟨a, c⟩ hi h ih
    have hn : ¬ (10 : Int32) < nI (i + 1) := nI_nlt (a := 10) (b := i + 1) (by omega) (by decide)
    refine br_f hn (qy_rb _ hT _ h (fun a2' h2 => ?_))
    dsimp only
    refine qy_sr _ _ h2 (fun a3' c3 h3 => ?_)
    dsimp only
    by_cases z : i = 9
    · subst z
      exact br_t (nI_le (a := 10) (b := 10) (Nat.le_refl 10) (by decide)) (qy_e31 _ _ (by decide) _ h3 (fun a4' h4 => ih (a4', c3) h4))
    · refine br_f (nI_ge (b := 10) (by omega) (by decide)) ?_
      refine qy_mc _ _ h3 (fun a4' c4 h4 => ?_)
      refine qy_e31 _ _ (by omega) _ h4 (fun a5' h5 => ih (a5', c4) ?_)
      show qb_Sq a5' (qb_e1 b2 (i + 1) (qb_en b2 s i))
      rw [qb_e1_n b2 (by omega)]
      exact h5
def qb_ms (s : Nat → Nat) : Nat → Nat → Nat
  | 0 => s
  | k + 1 => qb_mc (qb_ms s k)
def qb_rs (s : Nat → Nat) : Nat → Nat → Nat
  | 0 => s
  | k + 1 => qb_sr (qb_rs s k)
theorem qb_rs3 (s : Nat → Nat) : qb_rs s 3 = qb_s3 s := rfl
theorem qb_ms3 {s : Nat → Nat} (hs : ∀ k, k < 16 → s k < 256) : ∀ j, j < 16 → qb_ms s 3 j = qb_mi s j := fun _ hj => qb_m3 s hj hs
theorem qy_d38 (post : SY → Prop) (J : Int32 → (Nat → Int32) → (Nat → Int32) → (Nat → Int32) → (Nat → Int32) → (Nat → Int32) → (Nat → Int32) → (Nat → Int32) → (Nat → Int32) → (Nat → Int32) → Prop) {b1 b2 b3 b4 b5 b6 b7 b8 b9 : Nat → Int32} (hT : qb_Tab b1) (q : Nat) (s : Nat → Nat) (hs : qb_Sq b5 s) (H : ∀ a c, qb_Sq a (qb_un (qb_s3 s)) → J (nI q) b1 b2 b3 b4 a c b7 b8 b9) : ∃ n, wY_roundsBack_38 post J (nI (q + 1)) n 0 b1 b2 b3 b4 b5 b6 b7 b8 b9 := by
  refine pk_loop (σ := (Nat → Int32) × (Nat → Int32)) (fun n i t => wY_roundsBack_38 post J (nI (q + 1)) n (nI i) b1 b2 b3 b4 t.1 t.2 b7 b8 b9) (fun i t => qb_Sq t.1 (qb_rs s i)) 3 0 (b5, b6) (by decide) hs ?_ ?_
  · rintro n ⟨a, c⟩ h
    refine br_t (nI_le (a := 3) (b := 3) (Nat.le_refl 3) (by decide)) (qy_ub _ hT _ h (fun a2' h2 => ?_))
    exact nm_r (pk_m1 q) (H a2' c h2)
  · rintro n i ⟨a, c⟩ hi h ih
    refine br_f (nI_ge (b := 3) hi (by decide)) (qy_sr _ _ h (fun a2' c2 h2 => ?_))
    exact nm_r (nI_1 i) (ih (a2', c2) h2)
theorem qy_d15 (post : SY → Prop) (J : Int32 → (Nat → Int32) → (Nat → Int32) → (Nat → Int32) → (Nat → Int32) → (Nat → Int32) → (Nat → Int32) → (Nat → Int32) → (Nat → Int32) → (Nat → Int32) → Prop) {b1 b2 b3 b4 b5 b6 b7 b8 b9 : Nat → Int32} {q : Nat} (hq : q < 9) (s : Nat → Nat) (hs : qb_Sq b5 s) (H : ∀ a c, qb_Sq a (qb_mi s) → ∃ n, wY_roundsBack_38 post J (nI (q + 1)) n 0 b1 b2 b3 b4 a c b7 b8 b9) : ∃ n, wY_roundsBack_15 post J (nI (q + 1)) n 0 b1 b2 b3 b4 b5 b6 b7 b8 b9 := by
  refine pk_loop (σ := (Nat → Int32) × (Nat → Int32)) (fun n i t => wY_roundsBack_15 post J (nI (q + 1)) n (nI i) b1 b2 b3 b4 t.1 t.2 b7 b8 b9) (fun i t => qb_Sq t.1 (qb_ms s i)) 3 0 (b5, b6) (by decide) hs ?_ ?_
  · rintro n ⟨a, c⟩ h
    exact br_t (nI_le (a := 3) (b := 3) (Nat.le_refl 3) (by decide)) (H a c (qb_Sq_c h (qb_ms3 (fun k hk => (hs k hk).2))))
  · rintro n i ⟨a, c⟩ hi h ih
    refine br_f (nI_ge (b := 3) hi (by decide)) (br_f (nI_ge (b := 10) (by omega) (by decide)) (qy_mc _ _ h (fun a2' c2 h2 => ?_)))
    exact nm_r (nI_1 i) (ih (a2', c2) h2)
theorem qy_back (post : SY → Prop) {b1 b2 b3 b4 b5 b6 b7 b8 b9 : Nat → Int32} (hT : qb_Tab b1) (s : Nat → Nat) (hs : qb_Sq b5 s) (H : ∀ a c, qb_Sq a (qb_ak b2 0 (qb_de b2 s 10)) → post (b1, b2, b3, b4, a, c, b7, b8, b9)) : wpY_roundsBack post (b1, b2, b3, b4, b5, b6, b7, b8, b9) := by
  unfold wpY_roundsBack
  dsimp only
  refine ⟨11, pk_loopD (σ := (Nat → Int32) × (Nat → Int32)) (fun n i t => wY_roundsBack_3 post n (nI i) b1 b2 b3 b4 t.1 t.2 b7 b8 b9) (fun i t => i ≤ 10 ∧ qb_Sq t.1 (qb_de b2 s (10 - i))) ?_ ?_ 10 (b5, b6) ⟨Nat.le_refl 10, qb_de0 b2 hs⟩⟩
  · rintro n ⟨a, c⟩ ⟨_, h⟩
    refine br_t (nI_lt (a := 0) (b := 1) (by decide) (by decide)) (qy_ark (q := 0) _ (by decide) _ h (fun a2' h2 => ?_))
    exact H a2' c h2
  · rintro n i ⟨a, c⟩ ⟨hi, h⟩ ih
    have hn : ¬ nI (i + 1) < (1 : Int32) := nI_nlt (a := i + 1) (b := 1) (by omega) (by omega)
    refine br_f hn (qy_ark _ (by omega) _ h (fun a2' h2 => ?_))
    dsimp only
    by_cases z : i = 9
    · subst z
      refine ⟨1, br_f (nI_ge (a := 0) (b := 3) (by decide) (by decide)) (br_t (nI_le (a := 10) (b := 10) (Nat.le_refl 10) (by decide)) (qy_d38 _ _ hT 9 _ h2 (fun a3' c3 h3 => ih (a3', c3) ⟨by decide, ?_⟩)))⟩
      show qb_Sq a3' (qb_de b2 s (10 - 9))
      rw [qb_de_s _ _ (by decide)]
      exact h3
    · refine qy_d15 _ _ (by omega) _ h2 (fun a3' c3 h3 => qy_d38 _ _ hT i _ h3 (fun a4' c4 h4 => ih (a4', c4) ⟨by omega, ?_⟩))
      show qb_Sq a4' (qb_de b2 s (10 - i))
      rw [qb_de_s _ _ (by omega), qb_d1_n b2 (by omega)]
      exact h4
theorem qy_encrypt (post : SY → Prop) {b1 b2 b3 b4 b5 b6 b7 b8 b9 : Nat → Int32} (hT : qb_Tab b1) (w : Nat → Int32) (hw : ∀ c, c < 4 → b3 c = w c) (H : ∀ p a c, (∀ k, k < 4 → p k = qb_jn (qb_en b2 (qb_ld w) 10) k) → post (b1, b2, p, b4, a, c, b7, b8, b9)) : wpY_encrypt post (b1, b2, b3, b4, b5, b6, b7, b8, b9) := by
  unfold wpY_encrypt
  dsimp only
  rw [hw 0 (by decide), hw 1 (by decide), hw 2 (by decide), hw 3 (by decide)]
  refine qy_lay _ w (fun a0 h0 => ?_)
  dsimp only
  refine qy_rounds _ hT _ h0 (fun a1' c1 h1 => ?_)
  dsimp only
  refine pk_loop (σ := Nat → Int32) (fun n i p => wY_encrypt_34 post n (nI i) b1 b2 p b4 a1' c1 b7 b8 b9) (fun i p => ∀ k, k < i → p k = qb_jn (qb_en b2 (qb_ld w) 10) k) 4 0 b3 (by decide) (fun j h => absurd h (Nat.not_lt_zero j)) ?_ ?_
  · intro n p hp
    exact br_t (nI_le (a := 4) (b := 4) (Nat.le_refl 4) (by decide)) (H p a1' c1 hp)
  · intro n i p hi hp ih
    have hc : (nI i).toNatClampNeg = i := nI_clamp (by omega)
    refine br_f (nI_ge (b := 4) hi (by decide)) (qy_joined _ _ h1 hi ?_)
    rw [hc]
    exact ⟨vp_in_nI hi (by decide), nm_e (nm_r (nI_1 i) (ih _ (qb_ul hp rfl)))⟩
theorem qy_decrypt (post : SY → Prop) {b1 b2 b3 b4 b5 b6 b7 b8 b9 : Nat → Int32} (hT : qb_Tab b1) (w : Nat → Int32) (hw : ∀ c, c < 4 → b3 c = w c) (H : ∀ p a c, (∀ k, k < 4 → p k = qb_jn (qb_ak b2 0 (qb_de b2 (qb_ld w) 10)) k) → post (b1, b2, p, b4, a, c, b7, b8, b9)) : wpY_decrypt post (b1, b2, b3, b4, b5, b6, b7, b8, b9) := by
  unfold wpY_decrypt
  dsimp only
  rw [hw 0 (by decide), hw 1 (by decide), hw 2 (by decide), hw 3 (by decide)]
  refine qy_lay _ w (fun a0 h0 => ?_)
  dsimp only
  refine qy_back _ hT _ h0 (fun a1' c1 h1 => ?_)
  dsimp only
  refine pk_loop (σ := Nat → Int32) (fun n i p => wY_decrypt_34 post n (nI i) b1 b2 p b4 a1' c1 b7 b8 b9) (fun i p => ∀ k, k < i → p k = qb_jn (qb_ak b2 0 (qb_de b2 (qb_ld w) 10)) k) 4 0 b3 (by decide) (fun j h => absurd h (Nat.not_lt_zero j)) ?_ ?_
  · intro n p hp
    exact br_t (nI_le (a := 4) (b := 4) (Nat.le_refl 4) (by decide)) (H p a1' c1 hp)
  · intro n i p hi hp ih
    have hc : (nI i).toNatClampNeg = i := nI_clamp (by omega)
    refine br_f (nI_ge (b := 4) hi (by decide)) (qy_joined _ _ h1 hi ?_)
    rw [hc]
    exact ⟨vp_in_nI hi (by decide), nm_e (nm_r (nI_1 i) (ih _ (qb_ul hp rfl)))⟩
