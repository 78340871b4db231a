/-! ===== Y: the steps on the square ===== -/
theorem qb_iy1 : ∀ q, q < 11 → ∀ i, i < 16 → (4 : Int32) * nI q + nI i / 4 = nI (4 * q + i / 4) := by decide +kernel
theorem qb_iy2 : ∀ i, i < 16 → nI i - nI i / 4 * 4 = nI (i % 4) := by decide +kernel
theorem qb_iy3 : ∀ i, i < 16 → ((nI i - nI i / 4 * 4) + (4 * ((nI i / 4) + (nI i - nI i / 4 * 4)))) - ((nI i - nI i / 4 * 4) + (4 * ((nI i / 4) + (nI i - nI i / 4 * 4)))) / 16 * 16 = nI (qb_ro i) := by decide +kernel
theorem qb_iy5 : ∀ i, i < 16 → (nI i / 4) * 4 + ((nI i + 1) - (nI i + 1) / 4 * 4) = nI (qb_nx i 1) := by decide +kernel
theorem qb_iy6 : ∀ i, i < 16 → (nI i / 4) * 4 + ((nI i + 2) - (nI i + 2) / 4 * 4) = nI (qb_nx i 2) := by decide +kernel
theorem qb_iy7 : ∀ i, i < 16 → (nI i / 4) * 4 + ((nI i + 3) - (nI i + 3) / 4 * 4) = nI (qb_nx i 3) := by decide +kernel
theorem qb_d4 : ¬ (4 : Int32) = 0 := by decide
theorem qb_d16 : ¬ (16 : Int32) = 0 := by decide
theorem qy_ark (post : SY → Prop) {b1 b2 b3 b4 b5 b6 b7 b8 b9 : Nat → Int32} {q : Nat} (hq : q < 11) (s : Nat → Nat) (hs : qb_Sq b5 s) (H : ∀ a, qb_Sq a (qb_ak b2 q s) → post (b1, b2, b3, b4, a, b6, b7, b8, b9)) : wpY_addKey post (b1, b2, b3, b4, b5, b6, b7, b8, b9) (nI q) := by
  show ∃ n, wY_addKey_2 post (nI q) n 0 b1 b2 b3 b4 b5 b6 b7 b8 b9
  refine pk_loop (σ := Nat → Int32) (fun n i a => wY_addKey_2 post (nI q) n (nI i) b1 b2 b3 b4 a b6 b7 b8 b9) (fun i a => (∀ j, j < i → a j = nI (qb_ak b2 q s j)) ∧ (∀ j, i ≤ j → j < 16 → a j = nI (s j))) 16 0 b5 (by decide) ⟨fun j h => absurd h (Nat.not_lt_zero j), fun j _ h => (hs j h).1⟩ ?_ ?_
  · rintro n a ⟨h1, h2⟩
    exact br_t (nI_le (a := 16) (b := 16) (Nat.le_refl 16) (by decide)) (H a (fun j hj => ⟨h1 j hj, qb_xlt (hs j hj).2 (qb_by_lt _ _)⟩))
  · rintro n i a hi ⟨h1, h2⟩ ih
    have e1 := qb_iy1 q hq i hi
    have e2 := qb_iy2 i hi
    have hc : (nI i).toNatClampNeg = i := nI_clamp (by omega)
    have hd : (nI (4 * q + i / 4)).toNatClampNeg = 4 * q + i / 4 := nI_clamp (by omega)
    refine br_f (nI_ge (b := 16) hi (by decide)) ⟨vp_in_nI hi (by decide), qb_d4, ?_⟩
    rw [e1, e2, hc, hd]
    refine ⟨vp_in_nI (by omega) (by decide), qb_d4, ?_⟩
    unfold wpY_byteOf
    refine ⟨vp_in_nI hi (by decide), nm_r (e' := upd a i (nI (qb_ak b2 q s i))) ?_ (nm_r (nI_1 i) (ih _ ⟨qb_ul h1 rfl, qb_uh h2⟩))⟩
    rw [h2 i (Nat.le_refl i) hi, qb_bY _ (Nat.mod_lt _ (by decide)), nx_xor]
    rfl
theorem qy_rb (post : SY → Prop) {b1 b2 b3 b4 b5 b6 b7 b8 b9 : Nat → Int32} (hT : qb_Tab b1) (s : Nat → Nat) (hs : qb_Sq b5 s) (H : ∀ a, qb_Sq a (qb_su s) → post (b1, b2, b3, b4, a, b6, b7, b8, b9)) : wpY_replaceAll post (b1, b2, b3, b4, b5, b6, b7, b8, b9) := by
  show ∃ n, wY_replaceAll_2 post n 0 b1 b2 b3 b4 b5 b6 b7 b8 b9
  refine pk_loop (σ := Nat → Int32) (fun n i a => wY_replaceAll_2 post n (nI i) b1 b2 b3 b4 a b6 b7 b8 b9) (fun i a => (∀ j, j < i → a j = nI (qb_su s j)) ∧ (∀ j, i ≤ j → j < 16 → a j = nI (s j))) 16 0 b5 (by decide) ⟨fun j h => absurd h (Nat.not_lt_zero j), fun j _ h => (hs j h).1⟩ ?_ ?_
  · rintro n a ⟨h1, h2⟩
    exact br_t (nI_le (a := 16) (b := 16) (Nat.le_refl 16) (by decide)) (H a (fun j hj => ⟨h1 j hj, qb_SB_lt _⟩))
  · rintro n i a hi ⟨h1, h2⟩ ih
    have hc : (nI i).toNatClampNeg = i := nI_clamp (by omega)
    have hb := (hs i hi).2
    have hd : (nI (s i)).toNatClampNeg = s i := nI_clamp (by omega)
    refine br_f (nI_ge (b := 16) hi (by decide)) ⟨vp_in_nI hi (by decide), ?_⟩
    rw [hc, h2 i (Nat.le_refl i) hi, hd, hT _ hb]
    exact ⟨vp_in_nI hb (by decide), vp_in_nI hi (by decide), nm_r (e' := upd a i (nI (qb_su s i))) rfl (nm_r (nI_1 i) (ih _ ⟨qb_ul h1 rfl, qb_uh h2⟩))⟩
theorem qy_or (post : Int32 → Prop) {b1 b2 b3 b4 b5 b6 b7 b8 b9 : Nat → Int32} (hT : qb_Tab b1) {t : Nat} (ht : t < 256) (H : post (nI (qb_OG t))) : ∀ d i : Nat, i + d = qb_OG t → wY_origin_2 post (nI t) b1 b2 b3 b4 b5 b6 b7 b8 b9 (d + 1) (nI i) := by
  have hO := qb_OG_lt t
  intro d
  induction d with
  | zero =>
    intro i hi
    have hi' : i = qb_OG t := hi
    subst hi'
    have hc : (nI (qb_OG t)).toNatClampNeg = qb_OG t := nI_clamp (by omega)
    exact br_f (nI_ge (b := 256) hO (by decide)) ⟨vp_in_nI hO (by decide), br_t (by rw [hc, hT _ hO, qb_SO t ht]) H⟩
  | succ d ih =>
    intro i hi
    have hl : i < 256 := by omega
    have hc : (nI i).toNatClampNeg = i := nI_clamp (by omega)
    have hS := qb_SB_lt i
    have hne : ¬ b1 (nI i).toNatClampNeg = nI t := by
      rw [hc, hT _ hl, nI_eq (by omega) (by omega)]
      intro z
      have z2 := qb_OS i hl
      rw [z] at z2
      omega
    exact br_f (nI_ge (b := 256) hl (by decide)) ⟨vp_in_nI hl (by decide), br_f hne (nm_r (nI_1 i) (ih (i + 1) (by omega)))⟩
theorem qy_origin (post : Int32 → Prop) {b1 b2 b3 b4 b5 b6 b7 b8 b9 : Nat → Int32} (hT : qb_Tab b1) {t : Nat} (ht : t < 256) (H : post (nI (qb_OG t))) : wpY_origin post (b1, b2, b3, b4, b5, b6, b7, b8, b9) (nI t) :=
  ⟨qb_OG t + 1, qy_or post hT ht H (qb_OG t) 0 (Nat.zero_add _)⟩
theorem qy_ub (post : SY → Prop) {b1 b2 b3 b4 b5 b6 b7 b8 b9 : Nat → Int32} (hT : qb_Tab b1) (s : Nat → Nat) (hs : qb_Sq b5 s) (H : ∀ a, qb_Sq a (qb_un s) → post (b1, b2, b3, b4, a, b6, b7, b8, b9)) : wpY_restoreAll post (b1, b2, b3, b4, b5, b6, b7, b8, b9) := by
  show ∃ n, wY_restoreAll_2 post n 0 b1 b2 b3 b4 b5 b6 b7 b8 b9
  refine pk_loop (σ := Nat → Int32) (fun n i a => wY_restoreAll_2 post n (nI i) b1 b2 b3 b4 a b6 b7 b8 b9) (fun i a => (∀ j, j < i → a j = nI (qb_un s j)) ∧ (∀ j, i ≤ j → j < 16 → a j = nI (s j))) 16 0 b5 (by decide) ⟨fun j h => absurd h (Nat.not_lt_zero j), fun j _ h => (hs j h).1⟩ ?_ ?_
  · rintro n a ⟨h1, h2⟩
    exact br_t (nI_le (a := 16) (b := 16) (Nat.le_refl 16) (by decide)) (H a (fun j hj => ⟨h1 j hj, qb_OG_lt _⟩))
  · rintro n i a hi ⟨h1, h2⟩ ih
    have hc : (nI i).toNatClampNeg = i := nI_clamp (by omega)
    refine br_f (nI_ge (b := 16) hi (by decide)) ⟨vp_in_nI hi (by decide), ?_⟩
    rw [hc, h2 i (Nat.le_refl i) hi]
    exact qy_origin _ hT (hs i hi).2 ⟨vp_in_nI hi (by decide), nm_r (e' := upd a i (nI (qb_un s i))) rfl (nm_r (nI_1 i) (ih _ ⟨qb_ul h1 rfl, qb_uh h2⟩))⟩
theorem qy_s43 (post : SY → Prop) {b1 b2 b3 b4 b5 b6 b7 b8 b9 : Nat → Int32} (H : ∀ a, (∀ j, j < 16 → a j = b6 j) → post (b1, b2, b3, b4, a, b6, b7, b8, b9)) : ∃ n, wY_shift_43 post n 0 b1 b2 b3 b4 b5 b6 b7 b8 b9 := by
  refine pk_loop (σ := Nat → Int32) (fun n i a => wY_shift_43 post n (nI i) b1 b2 b3 b4 a b6 b7 b8 b9) (fun i a => ∀ j, j < i → a j = b6 j) 16 0 b5 (by decide) (fun j h => absurd h (Nat.not_lt_zero j)) ?_ ?_
  · intro n a h1
    exact br_t (nI_le (a := 16) (b := 16) (Nat.le_refl 16) (by decide)) (H a h1)
  · intro n i a hi h1 ih
    have hc : (nI i).toNatClampNeg = i := nI_clamp (by omega)
    refine br_f (nI_ge (b := 16) hi (by decide)) ?_
    rw [hc]
    exact ⟨vp_in_nI hi (by decide), vp_in_nI hi (by decide), nm_e (nm_r (nI_1 i) (ih _ (qb_ul h1 rfl)))⟩
theorem qy_sr (post : SY → Prop) {b1 b2 b3 b4 b5 b6 b7 b8 b9 : Nat → Int32} (s : Nat → Nat) (hs : qb_Sq b5 s) (H : ∀ a c, qb_Sq a (qb_sr s) → post (b1, b2, b3, b4, a, c, b7, b8, b9)) : wpY_shift post (b1, b2, b3, b4, b5, b6, b7, b8, b9) := by
  show ∃ n, wY_shift_2 post n 0 b1 b2 b3 b4 b5 b6 b7 b8 b9
  refine pk_loop (σ := Nat → Int32) (fun n i c => wY_shift_2 post n (nI i) b1 b2 b3 b4 b5 c b7 b8 b9) (fun i c => ∀ j, j < i → c j = nI (qb_sr s j)) 16 0 b6 (by decide) (fun j h => absurd h (Nat.not_lt_zero j)) ?_ ?_
  · intro n c h1
    exact br_t (nI_le (a := 16) (b := 16) (Nat.le_refl 16) (by decide)) (qy_s43 _ (fun a ha => H a c (fun j hj => ⟨(ha j hj).trans (h1 j hj), (hs _ (qb_ro_lt j)).2⟩)))
  · intro n i c hi h1 ih
    have hc : (nI i).toNatClampNeg = i := nI_clamp (by omega)
    have hr := qb_ro_lt i
    have hd : (nI (qb_ro i)).toNatClampNeg = qb_ro i := nI_clamp (by omega)
    refine br_f (nI_ge (b := 16) hi (by decide)) ⟨qb_d4, qb_d4, qb_d4, qb_d16, ?_⟩
    rw [qb_iy3 i hi, hc, hd, (hs _ hr).1]
    exact ⟨vp_in_nI hr (by decide), vp_in_nI hi (by decide), nm_e (nm_r (nI_1 i) (ih _ (qb_ul h1 rfl)))⟩
theorem qy_mixed (post : Int32 → Prop) {b1 b2 b3 b4 b5 b6 b7 b8 b9 : Nat → Int32} (s : Nat → Nat) (hs : qb_Sq b6 s) {i : Nat} (hi : i < 16) (H : post (nI (qb_mc s i))) : wpY_mixed post (b1, b2, b3, b4, b5, b6, b7, b8, b9) (nI i) := by
  have hc : (nI i).toNatClampNeg = i := nI_clamp (by omega)
  have g1 := qb_n16 i hi 1 (by decide)
  have g2 := qb_n16 i hi 2 (by decide)
  have g3 := qb_n16 i hi 3 (by decide)
  refine ⟨qb_d4, nm_e ?_⟩
  rw [qb_iy5 i hi, qb_iy6 i hi, qb_iy7 i hi, hc, nI_clamp (n := qb_nx i 1) (by omega), nI_clamp (n := qb_nx i 2) (by omega), nI_clamp (n := qb_nx i 3) (by omega), (hs i hi).1, (hs _ g1).1, (hs _ g2).1, (hs _ g3).1]
  refine ⟨qb_d4, vp_in_nI g1 (by decide), nm_e ⟨qb_d4, vp_in_nI g2 (by decide), nm_e ⟨qb_d4, vp_in_nI g3 (by decide), nm_e ⟨vp_in_nI hi (by decide), qy_times (x := 2) _ (by decide) (hs i hi).2 (qy_times (x := 3) _ (by decide) (hs _ g1).2 ?_)⟩⟩⟩⟩
  rw [nx_xor, nx_xor, nx_xor, qb_mcY s hi (fun k hk => (hs k hk).2)]
  exact H
theorem qy_m28 (post : SY → Prop) {b1 b2 b3 b4 b5 b6 b7 b8 b9 : Nat → Int32} (s : Nat → Nat) (hs : qb_Sq b6 s) (H : ∀ a, qb_Sq a (qb_mc s) → post (b1, b2, b3, b4, a, b6, b7, b8, b9)) : ∃ n, wY_mixColumns_28 post n 0 b1 b2 b3 b4 b5 b6 b7 b8 b9 := by
  refine pk_loop (σ := Nat → Int32) (fun n i a => wY_mixColumns_28 post n (nI i) b1 b2 b3 b4 a b6 b7 b8 b9) (fun i a => ∀ j, j < i → a j = nI (qb_mc s j)) 16 0 b5 (by decide) (fun j h => absurd h (Nat.not_lt_zero j)) ?_ ?_
  · intro n a h1
    exact br_t (nI_le (a := 16) (b := 16) (Nat.le_refl 16) (by decide)) (H a (fun j hj => ⟨h1 j hj, qb_mc_lt s hj (fun k hk => (hs k hk).2)⟩))
  · intro n i a hi h1 ih
    have hc : (nI i).toNatClampNeg = i := nI_clamp (by omega)
    refine br_f (nI_ge (b := 16) hi (by decide)) (qy_mixed _ s hs hi ?_)
    rw [hc]
    exact ⟨vp_in_nI hi (by decide), nm_e (nm_r (nI_1 i) (ih _ (qb_ul h1 rfl)))⟩
theorem qy_mc (post : SY → Prop) {b1 b2 b3 b4 b5 b6 b7 b8 b9 : Nat → Int32} (s : Nat → Nat) (hs : qb_Sq b5 s) (H : ∀ a c, qb_Sq a (qb_mc s) → post (b1, b2, b3, b4, a, c, b7, b8, b9)) : wpY_mixColumns post (b1, b2, b3, b4, b5, b6, b7, b8, b9) := by
  show ∃ n, wY_mixColumns_2 post n 0 b1 b2 b3 b4 b5 b6 b7 b8 b9
  refine pk_loop (σ := Nat → Int32) (fun n i c => wY_mixColumns_2 post n (nI i) b1 b2 b3 b4 b5 c b7 b8 b9) (fun i c => ∀ j, j < i → c j = nI (s j)) 16 0 b6 (by decide) (fun j h => absurd h (Nat.not_lt_zero j)) ?_ ?_
  · intro n c h1
    exact br_t (nI_le (a := 16) (b := 16) (Nat.le_refl 16) (by decide)) (qy_m28 _ s (fun j hj => ⟨h1 j hj, (hs j hj).2⟩) (fun a ha => H a c ha))
  · intro n i c hi h1 ih
    have hc : (nI i).toNatClampNeg = i := nI_clamp (by omega)
    refine br_f (nI_ge (b := 16) hi (by decide)) ?_
    rw [hc, (hs i hi).1]
    exact ⟨vp_in_nI hi (by decide), vp_in_nI hi (by decide), nm_e (nm_r (nI_1 i) (ih _ (qb_ul h1 rfl)))⟩
theorem qb_lay1 (w : Nat → Int32) (a : Nat → Int32) {i : Nat} (hi : i < 4) (h1 : ∀ j, j < i → a j = nI (qb_by (w 0) j) ∧ a (4 + j) = nI (qb_by (w 1) j) ∧ a (8 + j) = nI (qb_by (w 2) j) ∧ a (12 + j) = nI (qb_by (w 3) j)) :
    ∀ j, j < i + 1 → upd (upd (upd (upd a i (nI (qb_by (w 0) i))) (4 + i) (nI (qb_by (w 1) i))) (8 + i) (nI (qb_by (w 2) i))) (12 + i) (nI (qb_by (w 3) i)) j = nI (qb_by (w 0) j)
      ∧ upd (upd (upd (upd a i (nI (qb_by (w 0) i))) (4 + i) (nI (qb_by (w 1) i))) (8 + i) (nI (qb_by (w 2) i))) (12 + i) (nI (qb_by (w 3) i)) (4 + j) = nI (qb_by (w 1) j)
      ∧ upd (upd (upd (upd a i (nI (qb_by (w 0) i))) (4 + i) (nI (qb_by (w 1) i))) (8 + i) (nI (qb_by (w 2) i))) (12 + i) (nI (qb_by (w 3) i)) (8 + j) = nI (qb_by (w 2) j)
      ∧ upd (upd (upd (upd a i (nI (qb_by (w 0) i))) (4 + i) (nI (qb_by (w 1) i))) (8 + i) (nI (qb_by (w 2) i))) (12 + i) (nI (qb_by (w 3) i)) (12 + j) = nI (qb_by (w 3) j) := by
  intro j hj
  by_cases z : j = i
  · subst z
    refine ⟨?_, ?_, ?_, ?_⟩
    · rw [pk_un (by omega), pk_un (by omega), pk_un (by omega), pk_us]
    · rw [pk_un (by omega), pk_un (by omega), pk_us]
    · rw [pk_un (by omega), pk_us]
    · rw [pk_us]
  · obtain ⟨g0, g1, g2, g3⟩ := h1 j (by omega)
    refine ⟨?_, ?_, ?_, ?_⟩
    · rw [pk_un (by omega), pk_un (by omega), pk_un (by omega), pk_un (by omega)]; exact g0
    · rw [pk_un (by omega), pk_un (by omega), pk_un (by omega), pk_un (by omega)]; exact g1
    · rw [pk_un (by omega), pk_un (by omega), pk_un (by omega), pk_un (by omega)]; exact g2
    · rw [pk_un (by omega), pk_un (by omega), pk_un (by omega), pk_un (by omega)]; exact g3
theorem qb_lay2 (w : Nat → Int32) (a : Nat → Int32) (h1 : ∀ j, j < 4 → a j = nI (qb_by (w 0) j) ∧ a (4 + j) = nI (qb_by (w 1) j) ∧ a (8 + j) = nI (qb_by (w 2) j) ∧ a (12 + j) = nI (qb_by (w 3) j)) : qb_Sq a (qb_ld w) := by
  intro j hj
  refine ⟨?_, qb_by_lt _ _⟩
  unfold qb_ld
  have hr : j % 4 < 4 := Nat.mod_lt _ (by decide)
  obtain ⟨g0, g1, g2, g3⟩ := h1 (j % 4) hr
  rcases (by omega : j / 4 = 0 ∧ j = j % 4 ∨ j / 4 = 1 ∧ j = 4 + j % 4 ∨ j / 4 = 2 ∧ j = 8 + j % 4 ∨ j / 4 = 3 ∧ j = 12 + j % 4) with ⟨e, f⟩ | ⟨e, f⟩ | ⟨e, f⟩ | ⟨e, f⟩
  · rw [e, ← g0, ← f]
  · rw [e, ← g1, ← f]
  · rw [e, ← g2, ← f]
  · rw [e, ← g3, ← f]
theorem qy_lay (post : SY → Prop) {b1 b2 b3 b4 b5 b6 b7 b8 b9 : Nat → Int32} (w : Nat → Int32) (H : ∀ a, qb_Sq a (qb_ld w) → post (b1, b2, b3, b4, a, b6, b7, b8, b9)) : wpY_lay post (b1, b2, b3, b4, b5, b6, b7, b8, b9) (w 0) (w 1) (w 2) (w 3) := by
  show ∃ n, wY_lay_3 post (w 0) (w 1) (w 2) (w 3) n 0 b1 b2 b3 b4 b5 b6 b7 b8 b9
  refine pk_loop (σ := Nat → Int32) (fun n i a => wY_lay_3 post (w 0) (w 1) (w 2) (w 3) n (nI i) b1 b2 b3 b4 a b6 b7 b8 b9) (fun i a => ∀ j, j < i → a j = nI (qb_by (w 0) j) ∧ a (4 + j) = nI (qb_by (w 1) j) ∧ a (8 + j) = nI (qb_by (w 2) j) ∧ a (12 + j) = nI (qb_by (w 3) j)) 4 0 b5 (by decide) (fun j h => absurd h (Nat.not_lt_zero j)) ?_ ?_
  · intro n a h1
    exact br_t (nI_le (a := 4) (b := 4) (Nat.le_refl 4) (by decide)) (H a (qb_lay2 w a h1))
  · intro n i a hi h1 ih
    have hc : (nI i).toNatClampNeg = i := nI_clamp (by omega)
    have e4 : (4 : Int32) + nI i = nI (4 + i) := nI_add 4 i
    have e8 : (8 : Int32) + nI i = nI (8 + i) := nI_add 8 i
    have e12 : (12 : Int32) + nI i = nI (12 + i) := nI_add 12 i
    refine br_f (nI_ge (b := 4) hi (by decide)) ?_
    unfold wpY_byteOf
    rw [e4, e8, e12, hc, nI_clamp (n := 4 + i) (by omega), nI_clamp (n := 8 + i) (by omega), nI_clamp (n := 12 + i) (by omega), qb_bY (w 0) hi, qb_bY (w 1) hi, qb_bY (w 2) hi, qb_bY (w 3) hi]
    exact ⟨vp_in_nI (by omega) (by decide), nm_e ⟨vp_in_nI (by omega) (by decide), nm_e ⟨vp_in_nI (by omega) (by decide), nm_e ⟨vp_in_nI (by omega) (by decide), nm_e (nm_r (nI_1 i) (ih _ (qb_lay1 w a hi h1)))⟩⟩⟩⟩
theorem qy_joined (post : Int32 → Prop) {b1 b2 b3 b4 b5 b6 b7 b8 b9 : Nat → Int32} (s : Nat → Nat) (hs : qb_Sq b5 s) {i : Nat} (hi : i < 4) (H : post (qb_jn s i)) : wpY_joined post (b1, b2, b3, b4, b5, b6, b7, b8, b9) (nI i) := by
  have e0 : (4 : Int32) * nI i = nI (4 * i) := pk_mul 4 i
  have e1 : nI (4 * i) + 1 = nI (4 * i + 1) := nI_1 _
  have e2 : nI (4 * i) + 2 = nI (4 * i + 2) := nI_add _ 2
  have e3 : nI (4 * i) + 3 = nI (4 * i + 3) := nI_add _ 3
  unfold wpY_joined
  dsimp only
  rw [e0, e1, e2, e3, nI_clamp (n := 4 * i) (by omega), nI_clamp (n := 4 * i + 1) (by omega), nI_clamp (n := 4 * i + 2) (by omega), nI_clamp (n := 4 * i + 3) (by omega), (hs (4 * i) (by omega)).1, (hs (4 * i + 1) (by omega)).1, (hs (4 * i + 2) (by omega)).1, (hs (4 * i + 3) (by omega)).1]
  exact ⟨vp_in_nI (by omega) (by decide), vp_in_nI (by omega) (by decide), vp_in_nI (by omega) (by decide), vp_in_nI (by omega) (by decide), H⟩
