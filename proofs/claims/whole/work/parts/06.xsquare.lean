/-! ===== X: the steps on the square ===== -/
theorem qb_ix1 : ∀ q, q < 11 → ∀ i, i < 16 → (4 : Int32) * nI q + (nI i >>> ((2 : Int32) &&& 31)) = nI (4 * q + i / 4) := by decide +kernel
theorem qb_ix2 : ∀ i, i < 16 → nI i &&& 3 = nI (i % 4) := by decide +kernel
theorem qb_ix3 : ∀ i, i < 16 → nI i >>> ((2 : Int32) &&& 31) = nI (i / 4) := by decide +kernel
theorem qb_m255 {n : Nat} (h : n < 256) : nI n &&& 255 = nI n := by
  rw [pk_andN (by omega) 8 (by decide), Nat.mod_eq_of_lt h]
def qb_rx (t j : Nat) : Nat := 4 * ((j / 4 + t * (j % 4)) % 4) + j % 4
theorem qb_ix4 : ∀ t, t < 4 → ∀ i, i < 16 → (4 : Int32) * (((nI i >>> ((2 : Int32) &&& 31)) + (nI t * (nI i &&& 3))) &&& 3) + (nI i &&& 3) = nI (qb_rx t i) := by decide +kernel
theorem qb_rx16 : ∀ t, t < 4 → ∀ i, i < 16 → qb_rx t i < 16 := by decide +kernel
theorem qb_rx1 : ∀ i, i < 16 → qb_rx 1 i = qb_ro i := by decide +kernel
theorem qb_rx3 : ∀ i, i < 16 → qb_rx 3 i = qb_ro (qb_ro (qb_ro i)) := by decide +kernel
theorem qb_ix5 : ∀ i, i < 16 → nI i - (nI i &&& 3) + (((nI i &&& 3) + 1) &&& 3) = nI (qb_nx i 1) := by decide +kernel
theorem qb_ix6 : ∀ i, i < 16 → nI i - (nI i &&& 3) + (((nI i &&& 3) + 2) &&& 3) = nI (qb_nx i 2) := by decide +kernel
theorem qb_ix7 : ∀ i, i < 16 → nI i - (nI i &&& 3) + (((nI i &&& 3) + 3) &&& 3) = nI (qb_nx i 3) := by decide +kernel
theorem qx_ark (post : SX → Prop) {a1 a2 a3 a4 a5 a6 a7 a8 a9 : Nat → Int32} {q : Nat} (hq : q < 11) (s : Nat → Nat) (hs : qb_Sq a6 s) (H : ∀ a, qb_Sq a (qb_ak a3 q s) → post (a1, a2, a3, a4, a5, a, a7, a8, a9)) : wpX_addRoundKey post (a1, a2, a3, a4, a5, a6, a7, a8, a9) (nI q) := by
  show ∃ n, wX_addRoundKey_2 post (nI q) n 0 a1 a2 a3 a4 a5 a6 a7 a8 a9
  refine pk_loop (σ := Nat → Int32) (fun n i a => wX_addRoundKey_2 post (nI q) n (nI i) a1 a2 a3 a4 a5 a a7 a8 a9) (fun i a => (∀ j, j < i → a j = nI (qb_ak a3 q s j)) ∧ (∀ j, i ≤ j → j < 16 → a j = nI (s j))) 16 0 a6 (by decide) ⟨fun j h => absurd h (Nat.not_lt_zero j), fun j _ h => (hs j h).1⟩ ?_ ?_
  · rintro n a ⟨h1, h2⟩
    exact br_t (nI_le (a := 16) (b := 16) (Nat.le_refl 16) (by decide)) (H a (fun j hj => ⟨h1 j hj, qb_xlt (hs j hj).2 (qb_by_lt _ _)⟩))
  · rintro n i a hi ⟨h1, h2⟩ ih
    have e1 := qb_ix1 q hq i hi
    have e2 := qb_ix2 i hi
    have hc : (nI i).toNatClampNeg = i := nI_clamp (by omega)
    have hd : (nI (4 * q + i / 4)).toNatClampNeg = 4 * q + i / 4 := nI_clamp (by omega)
    refine br_f (nI_ge (b := 16) hi (by decide)) ⟨vp_in_nI hi (by decide), ?_⟩
    rw [e1, e2, hc, hd]
    refine ⟨vp_in_nI (by omega) (by decide), ?_⟩
    unfold wpX_byteOf
    refine ⟨vp_in_nI hi (by decide), nm_r (e' := upd a i (nI (qb_ak a3 q s i))) ?_ (nm_r (nI_1 i) (ih _ ⟨qb_ul h1 rfl, qb_uh h2⟩))⟩
    rw [h2 i (Nat.le_refl i) hi, qb_bX _ (Nat.mod_lt _ (by decide)), nx_xor]
    rfl
theorem qx_ld_present (post : SX → Prop) {a1 a2 a3 a4 a5 a6 a7 a8 a9 : Nat → Int32} (w : Nat → Int32) (hw : ∀ c, c < 4 → a4 c = w c) (H : ∀ a, qb_Sq a (qb_ld w) → post (a1, a2, a3, a4, a5, a, a7, a8, a9)) : wpX_loadSquare__present post (a1, a2, a3, a4, a5, a6, a7, a8, a9) := by
  show ∃ n, wX_loadSquare__present_2 post n 0 a1 a2 a3 a4 a5 a6 a7 a8 a9
  refine pk_loop (σ := Nat → Int32) (fun n i a => wX_loadSquare__present_2 post n (nI i) a1 a2 a3 a4 a5 a a7 a8 a9) (fun i a => ∀ j, j < i → a j = nI (qb_ld w j)) 16 0 a6 (by decide) (fun j h => absurd h (Nat.not_lt_zero j)) ?_ ?_
  · intro n a h1
    exact br_t (nI_le (a := 16) (b := 16) (Nat.le_refl 16) (by decide)) (H a (fun j hj => ⟨h1 j hj, qb_by_lt _ _⟩))
  · intro n i a hi h1 ih
    have e1 := qb_ix3 i hi
    have e2 := qb_ix2 i hi
    have hc : (nI i).toNatClampNeg = i := nI_clamp (by omega)
    have hd : (nI (i / 4)).toNatClampNeg = i / 4 := nI_clamp (by omega)
    refine br_f (nI_ge (b := 16) hi (by decide)) ?_
    rw [e1, e2, hc, hd, hw _ (by omega)]
    refine ⟨vp_in_nI (by omega) (by decide), ?_⟩
    unfold wpX_byteOf
    refine ⟨vp_in_nI hi (by decide), nm_r (e' := upd a i (nI (qb_ld w i))) ?_ (nm_r (nI_1 i) (ih _ (qb_ul h1 rfl)))⟩
    rw [qb_bX _ (Nat.mod_lt _ (by decide))]
    rfl
theorem qx_st_present (post : SX → Prop) {a1 a2 a3 a4 a5 a6 a7 a8 a9 : Nat → Int32} (s : Nat → Nat) (hs : qb_Sq a6 s) (H : ∀ a, (∀ c, c < 4 → a c = qb_jn s c) → post (a1, a2, a3, a, a5, a6, a7, a8, a9)) : wpX_storeSquare__present post (a1, a2, a3, a4, a5, a6, a7, a8, a9) := by
  show ∃ n, wX_storeSquare__present_2 post n 0 a1 a2 a3 a4 a5 a6 a7 a8 a9
  refine pk_loop (σ := Nat → Int32) (fun n i a => wX_storeSquare__present_2 post n (nI i) a1 a2 a3 a a5 a6 a7 a8 a9) (fun i a => ∀ c, c < i → a c = qb_jn s c) 4 0 a4 (by decide) (fun j h => absurd h (Nat.not_lt_zero j)) ?_ ?_
  · intro n a h1
    exact br_t (nI_le (a := 4) (b := 4) (Nat.le_refl 4) (by decide)) (H a h1)
  · intro n i a hi h1 ih
    have hc : (nI i).toNatClampNeg = i := nI_clamp (by omega)
    have e1 : nI (4 * i) + 1 = nI (4 * i + 1) := nI_1 _
    have e2 : nI (4 * i) + 2 = nI (4 * i + 2) := nI_add _ 2
    have e3 : nI (4 * i) + 3 = nI (4 * i + 3) := nI_add _ 3
    refine br_f (nI_ge (b := 4) hi (by decide)) (nm_r (pk_mul 4 i) ?_)
    rw [e1, e2, e3, hc, nI_clamp (n := 4 * i) (by omega), nI_clamp (n := 4 * i + 1) (by omega), nI_clamp (n := 4 * i + 2) (by omega), nI_clamp (n := 4 * i + 3) (by omega), (hs (4 * i) (by omega)).1, (hs (4 * i + 1) (by omega)).1, (hs (4 * i + 2) (by omega)).1, (hs (4 * i + 3) (by omega)).1]
    exact ⟨vp_in_nI (by omega) (by decide), vp_in_nI (by omega) (by decide), vp_in_nI (by omega) (by decide), vp_in_nI (by omega) (by decide), vp_in_nI hi (by decide), nm_r (e' := upd a i (qb_jn s i)) rfl (nm_r (nI_1 i) (ih _ (qb_ul h1 rfl)))⟩
theorem qx_ld_factor (post : SX → Prop) {a1 a2 a3 a4 a5 a6 a7 a8 a9 : Nat → Int32} (w : Nat → Int32) (hw : ∀ c, c < 4 → a8 c = w c) (H : ∀ a, qb_Sq a (qb_ld w) → post (a1, a2, a3, a4, a5, a, a7, a8, a9)) : wpX_loadSquare__factor post (a1, a2, a3, a4, a5, a6, a7, a8, a9) := by
  show ∃ n, wX_loadSquare__factor_2 post n 0 a1 a2 a3 a4 a5 a6 a7 a8 a9
  refine pk_loop (σ := Nat → Int32) (fun n i a => wX_loadSquare__factor_2 post n (nI i) a1 a2 a3 a4 a5 a a7 a8 a9) (fun i a => ∀ j, j < i → a j = nI (qb_ld w j)) 16 0 a6 (by decide) (fun j h => absurd h (Nat.not_lt_zero j)) ?_ ?_
  · intro n a h1
    exact br_t (nI_le (a := 16) (b := 16) (Nat.le_refl 16) (by decide)) (H a (fun j hj => ⟨h1 j hj, qb_by_lt _ _⟩))
  · intro n i a hi h1 ih
    have e1 := qb_ix3 i hi
    have e2 := qb_ix2 i hi
    have hc : (nI i).toNatClampNeg = i := nI_clamp (by omega)
    have hd : (nI (i / 4)).toNatClampNeg = i / 4 := nI_clamp (by omega)
    refine br_f (nI_ge (b := 16) hi (by decide)) ?_
    rw [e1, e2, hc, hd, hw _ (by omega)]
    refine ⟨vp_in_nI (by omega) (by decide), ?_⟩
    unfold wpX_byteOf
    refine ⟨vp_in_nI hi (by decide), nm_r (e' := upd a i (nI (qb_ld w i))) ?_ (nm_r (nI_1 i) (ih _ (qb_ul h1 rfl)))⟩
    rw [qb_bX _ (Nat.mod_lt _ (by decide))]
    rfl
theorem qx_st_factor (post : SX → Prop) {a1 a2 a3 a4 a5 a6 a7 a8 a9 : Nat → Int32} (s : Nat → Nat) (hs : qb_Sq a6 s) (H : ∀ a, (∀ c, c < 4 → a c = qb_jn s c) → post (a1, a2, a3, a4, a5, a6, a7, a, a9)) : wpX_storeSquare__factor post (a1, a2, a3, a4, a5, a6, a7, a8, a9) := by
  show ∃ n, wX_storeSquare__factor_2 post n 0 a1 a2 a3 a4 a5 a6 a7 a8 a9
  refine pk_loop (σ := Nat → Int32) (fun n i a => wX_storeSquare__factor_2 post n (nI i) a1 a2 a3 a4 a5 a6 a7 a a9) (fun i a => ∀ c, c < i → a c = qb_jn s c) 4 0 a8 (by decide) (fun j h => absurd h (Nat.not_lt_zero j)) ?_ ?_
  · intro n a h1
    exact br_t (nI_le (a := 4) (b := 4) (Nat.le_refl 4) (by decide)) (H a h1)
  · intro n i a hi h1 ih
    have hc : (nI i).toNatClampNeg = i := nI_clamp (by omega)
    have e1 : nI (4 * i) + 1 = nI (4 * i + 1) := nI_1 _
    have e2 : nI (4 * i) + 2 = nI (4 * i + 2) := nI_add _ 2
    have e3 : nI (4 * i) + 3 = nI (4 * i + 3) := nI_add _ 3
    refine br_f (nI_ge (b := 4) hi (by decide)) (nm_r (pk_mul 4 i) ?_)
    rw [e1, e2, e3, hc, nI_clamp (n := 4 * i) (by omega), nI_clamp (n := 4 * i + 1) (by omega), nI_clamp (n := 4 * i + 2) (by omega), nI_clamp (n := 4 * i + 3) (by omega), (hs (4 * i) (by omega)).1, (hs (4 * i + 1) (by omega)).1, (hs (4 * i + 2) (by omega)).1, (hs (4 * i + 3) (by omega)).1]
    exact ⟨vp_in_nI (by omega) (by decide), vp_in_nI (by omega) (by decide), vp_in_nI (by omega) (by decide), vp_in_nI (by omega) (by decide), vp_in_nI hi (by decide), nm_r (e' := upd a i (qb_jn s i)) rfl (nm_r (nI_1 i) (ih _ (qb_ul h1 rfl)))⟩
theorem qx_rb_substitutes (post : SX → Prop) {a1 a2 a3 a4 a5 a6 a7 a8 a9 : Nat → Int32} (hT : ∀ x, x < 256 → a1 x = nI (qb_SB x)) (s : Nat → Nat) (hs : qb_Sq a6 s) (H : ∀ a, qb_Sq a (qb_su s) → post (a1, a2, a3, a4, a5, a, a7, a8, a9)) : wpX_replaceBytes__substitutes post (a1, a2, a3, a4, a5, a6, a7, a8, a9) := by
  show ∃ n, wX_replaceBytes__substitutes_2 post n 0 a1 a2 a3 a4 a5 a6 a7 a8 a9
  refine pk_loop (σ := Nat → Int32) (fun n i a => wX_replaceBytes__substitutes_2 post n (nI i) a1 a2 a3 a4 a5 a a7 a8 a9) (fun i a => (∀ j, j < i → a j = nI (qb_su s j)) ∧ (∀ j, i ≤ j → j < 16 → a j = nI (s j))) 16 0 a6 (by decide) ⟨fun j h => absurd h (Nat.not_lt_zero j), fun j _ h => (hs j h).1⟩ ?_ ?_
  · rintro n a ⟨h1, h2⟩
    exact br_t (nI_le (a := 16) (b := 16) (Nat.le_refl 16) (by decide)) (H a (fun j hj => ⟨h1 j hj, qb_SB_lt _⟩))
  · rintro n i a hi ⟨h1, h2⟩ ih
    have hc : (nI i).toNatClampNeg = i := nI_clamp (by omega)
    have hb := (hs i hi).2
    have hd : (nI (s i)).toNatClampNeg = s i := nI_clamp (by omega)
    refine br_f (nI_ge (b := 16) hi (by decide)) ⟨vp_in_nI hi (by decide), ?_⟩
    rw [hc, h2 i (Nat.le_refl i) hi, qb_m255 hb, hd, hT _ hb]
    exact ⟨vp_in_nI hb (by decide), vp_in_nI hi (by decide), nm_r (e' := upd a i (nI (qb_su s i))) rfl (nm_r (nI_1 i) (ih _ ⟨qb_ul h1 rfl, qb_uh h2⟩))⟩
theorem qx_rb_originals (post : SX → Prop) {a1 a2 a3 a4 a5 a6 a7 a8 a9 : Nat → Int32} (hT : ∀ x, x < 256 → a2 x = nI (qb_OG x)) (s : Nat → Nat) (hs : qb_Sq a6 s) (H : ∀ a, qb_Sq a (qb_un s) → post (a1, a2, a3, a4, a5, a, a7, a8, a9)) : wpX_replaceBytes__originals post (a1, a2, a3, a4, a5, a6, a7, a8, a9) := by
  show ∃ n, wX_replaceBytes__originals_2 post n 0 a1 a2 a3 a4 a5 a6 a7 a8 a9
  refine pk_loop (σ := Nat → Int32) (fun n i a => wX_replaceBytes__originals_2 post n (nI i) a1 a2 a3 a4 a5 a a7 a8 a9) (fun i a => (∀ j, j < i → a j = nI (qb_un s j)) ∧ (∀ j, i ≤ j → j < 16 → a j = nI (s j))) 16 0 a6 (by decide) ⟨fun j h => absurd h (Nat.not_lt_zero j), fun j _ h => (hs j h).1⟩ ?_ ?_
  · rintro n a ⟨h1, h2⟩
    exact br_t (nI_le (a := 16) (b := 16) (Nat.le_refl 16) (by decide)) (H a (fun j hj => ⟨h1 j hj, qb_OG_lt _⟩))
  · rintro n i a hi ⟨h1, h2⟩ ih
    have hc : (nI i).toNatClampNeg = i := nI_clamp (by omega)
    have hb := (hs i hi).2
    have hd : (nI (s i)).toNatClampNeg = s i := nI_clamp (by omega)
    refine br_f (nI_ge (b := 16) hi (by decide)) ⟨vp_in_nI hi (by decide), ?_⟩
    rw [hc, h2 i (Nat.le_refl i) hi, qb_m255 hb, hd, hT _ hb]
    exact ⟨vp_in_nI hb (by decide), vp_in_nI hi (by decide), nm_r (e' := upd a i (nI (qb_un s i))) rfl (nm_r (nI_1 i) (ih _ ⟨qb_ul h1 rfl, qb_uh h2⟩))⟩
theorem qx_ts (post : SX → Prop) {a1 a2 a3 a4 a5 a6 a7 a8 a9 : Nat → Int32} (H : ∀ a, (∀ j, j < 16 → a j = a7 j) → post (a1, a2, a3, a4, a5, a, a7, a8, a9)) : wpX_takeScratch post (a1, a2, a3, a4, a5, a6, a7, a8, a9) := by
  show ∃ n, wX_takeScratch_2 post n 0 a1 a2 a3 a4 a5 a6 a7 a8 a9
  refine pk_loop (σ := Nat → Int32) (fun n i a => wX_takeScratch_2 post n (nI i) a1 a2 a3 a4 a5 a a7 a8 a9) (fun i a => ∀ j, j < i → a j = a7 j) 16 0 a6 (by decide) (fun j h => absurd h (Nat.not_lt_zero j)) ?_ ?_
  · intro n a h1
    exact br_t (nI_le (a := 16) (b := 16) (Nat.le_refl 16) (by decide)) (H a h1)
  · intro n i a hi h1 ih
    have hc : (nI i).toNatClampNeg = i := nI_clamp (by omega)
    refine br_f (nI_ge (b := 16) hi (by decide)) ?_
    rw [hc]
    exact ⟨vp_in_nI hi (by decide), vp_in_nI hi (by decide), nm_e (nm_r (nI_1 i) (ih _ (qb_ul h1 rfl)))⟩
theorem qx_sr (post : SX → Prop) {a1 a2 a3 a4 a5 a6 a7 a8 a9 : Nat → Int32} {t : Nat} (ht : t < 4) (s : Nat → Nat) (hs : qb_Sq a6 s) (H : ∀ a c, qb_Sq a (fun j => s (qb_rx t j)) → post (a1, a2, a3, a4, a5, a, c, a8, a9)) : wpX_shiftRows post (a1, a2, a3, a4, a5, a6, a7, a8, a9) (nI t) := by
  show ∃ n, wX_shiftRows_2 post (nI t) n 0 a1 a2 a3 a4 a5 a6 a7 a8 a9
  refine pk_loop (σ := Nat → Int32) (fun n i c => wX_shiftRows_2 post (nI t) n (nI i) a1 a2 a3 a4 a5 a6 c a8 a9) (fun i c => ∀ j, j < i → c j = nI (s (qb_rx t j))) 16 0 a7 (by decide) (fun j h => absurd h (Nat.not_lt_zero j)) ?_ ?_
  · intro n c h1
    exact br_t (nI_le (a := 16) (b := 16) (Nat.le_refl 16) (by decide)) (qx_ts _ (fun a ha => H a c (fun j hj => ⟨(ha j hj).trans (h1 j hj), (hs _ (qb_rx16 t ht j hj)).2⟩)))
  · intro n i c hi h1 ih
    have hc : (nI i).toNatClampNeg = i := nI_clamp (by omega)
    have hr := qb_rx16 t ht i hi
    have hd : (nI (qb_rx t i)).toNatClampNeg = qb_rx t i := nI_clamp (by omega)
    refine br_f (nI_ge (b := 16) hi (by decide)) (nm_e (nm_e ?_))
    rw [qb_ix4 t ht i hi, hc, hd, (hs _ hr).1]
    exact ⟨vp_in_nI hr (by decide), vp_in_nI hi (by decide), nm_e (nm_r (nI_1 i) (ih _ (qb_ul h1 rfl)))⟩
def qb_mg (m0 m1 m2 m3 : Nat) (s : Nat → Nat) (j : Nat) : Nat := qb_tm (s j) m0 ^^^ qb_tm (s (qb_nx j 1)) m1 ^^^ qb_tm (s (qb_nx j 2)) m2 ^^^ qb_tm (s (qb_nx j 3)) m3
theorem qx_mg (post : SX → Prop) {a1 a2 a3 a4 a5 a6 a7 a8 a9 : Nat → Int32} {m0 m1 m2 m3 : Nat} (k0 : m0 < 256) (k1 : m1 < 256) (k2 : m2 < 256) (k3 : m3 < 256) (s : Nat → Nat) (hs : qb_Sq a6 s) (H : ∀ a c, qb_Sq a (qb_mg m0 m1 m2 m3 s) → post (a1, a2, a3, a4, a5, a, c, a8, a9)) : wpX_mixColumns post (a1, a2, a3, a4, a5, a6, a7, a8, a9) (nI m0) (nI m1) (nI m2) (nI m3) := by
  show ∃ n, wX_mixColumns_3 post (nI m0) (nI m1) (nI m2) (nI m3) n 0 a1 a2 a3 a4 a5 a6 a7 a8 a9
  have hn : ∀ j, j < 16 → ∀ t, t < 4 → s (qb_nx j t) < 256 := fun j hj t ht => (hs _ (qb_n16 j hj t ht)).2
  refine pk_loop (σ := Nat → Int32) (fun n i c => wX_mixColumns_3 post (nI m0) (nI m1) (nI m2) (nI m3) n (nI i) a1 a2 a3 a4 a5 a6 c a8 a9) (fun i c => ∀ j, j < i → c j = nI (qb_mg m0 m1 m2 m3 s j)) 16 0 a7 (by decide) (fun j h => absurd h (Nat.not_lt_zero j)) ?_ ?_
  · intro n c h1
    exact br_t (nI_le (a := 16) (b := 16) (Nat.le_refl 16) (by decide)) (qx_ts _ (fun a ha => H a c (fun j hj => ⟨(ha j hj).trans (h1 j hj), qb_xlt (qb_xlt (qb_xlt (qb_tm_lt (hs j hj).2 _) (qb_tm_lt (hn j hj 1 (by decide)) _)) (qb_tm_lt (hn j hj 2 (by decide)) _)) (qb_tm_lt (hn j hj 3 (by decide)) _)⟩)))
  · intro n i c hi h1 ih
    have hc : (nI i).toNatClampNeg = i := nI_clamp (by omega)
    have g1 := qb_n16 i hi 1 (by decide)
    have g2 := qb_n16 i hi 2 (by decide)
    have g3 := qb_n16 i hi 3 (by decide)
    refine br_f (nI_ge (b := 16) hi (by decide)) (nm_e (nm_e ⟨vp_in_nI hi (by decide), ?_⟩))
    rw [qb_ix5 i hi, qb_ix6 i hi, qb_ix7 i hi, hc, nI_clamp (n := qb_nx i 1) (by omega), nI_clamp (n := qb_nx i 2) (by omega), nI_clamp (n := qb_nx i 3) (by omega), (hs i hi).1, (hs _ g1).1, (hs _ g2).1, (hs _ g3).1]
    refine qx_product _ (hs i hi).2 k0 ⟨vp_in_nI g1 (by decide), qx_product _ (hs _ g1).2 k1 ⟨vp_in_nI g2 (by decide), qx_product _ (hs _ g2).2 k2 ⟨vp_in_nI g3 (by decide), qx_product _ (hs _ g3).2 k3 ⟨vp_in_nI hi (by decide), nm_r (e' := upd c i (nI (qb_mg m0 m1 m2 m3 s i))) ?_ (nm_r (nI_1 i) (ih _ (qb_ul h1 rfl)))⟩⟩⟩⟩
    rw [nx_xor, nx_xor, nx_xor]
    rfl
