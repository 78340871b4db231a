/-! ===== what is owed ===== -/
theorem qy_restart (post : SY → Prop) {b1 b2 b3 b4 b5 b6 b7 b8 b9 : Nat → Int32} (H : ∀ a, (∀ c, c < 4 → a c = 0) → post (b1, b2, b3, a, b5, b6, b7, b8, b9)) : wpY_restart post (b1, b2, b3, b4, b5, b6, b7, b8, b9) := by
  show ∃ n, wY_restart_2 post n 0 b1 b2 b3 b4 b5 b6 b7 b8 b9
  refine pk_loop (σ := Nat → Int32) (fun n i a => wY_restart_2 post n (nI i) b1 b2 b3 a b5 b6 b7 b8 b9) (fun i a => ∀ c, c < i → a c = 0) 4 0 b4 (by decide) (fun j h => absurd h (Nat.not_lt_zero j)) ?_ ?_
  · intro n a h1
    exact br_t (nI_le (a := 4) (b := 4) (Nat.le_refl 4) (by decide)) (H a h1)
  · intro n i a hi h1 ih
    have hc : (nI i).toNatClampNeg = i := nI_clamp (by omega)
    refine br_f (nI_ge (b := 4) hi (by decide)) ?_
    rw [hc]
    exact ⟨vp_in_nI hi (by decide), nm_e (nm_r (nI_1 i) (ih _ (qb_ul (g := fun _ => 0) h1 rfl)))⟩
def i_Rel (k : Nat) (u : SX) (v : SY) : Prop := qb_Tab u.1 ∧ (∀ x, x < 256 → u.2.1 x = nI (qb_OG x)) ∧ qb_Tab v.1 ∧ u.2.2.1 = v.2.1 ∧ (∀ c, c < 4 → u.2.2.2.1 c = v.2.2.1 c) ∧ (∀ c, c < 4 → u.2.2.2.2.1 c = v.2.2.2.1 c)
theorem i_up {k : Nat} {u : SX} {v : SY} (h : i_Rel k u v) : i_Rel (k + 5) u v := h
theorem i_vc0 : wpX_init (fun u => wpY_init (fun v => i_Rel 0 u v)) := by
  unfold wpX_init
  refine qx_fill _ (fun t q ht ho => ?_)
  dsimp only
  refine qx_ek _ ht ?_
  dsimp only
  refine qy_init _ (fun t' ht' => ?_)
  exact ⟨ht, ho, ht', rfl, fun _ _ => rfl, fun _ _ => rfl⟩
theorem i_vc_key {k : Nat} {u : SX} {v : SY} (I : i_Rel k u v) (hk : k + 5 ≤ 2560) (v1 : Int32) (v2 : Int32) (v3 : Int32) (v4 : Int32) : wpX_key (fun u' => wpY_key (fun v' => i_Rel (k + 5) u' v') v v1 v2 v3 v4) u v1 v2 v3 v4 := by
  obtain ⟨a1, a2, a3, a4, a5, a6, a7, a8, a9⟩ := u
  obtain ⟨b1, b2, b3, b4, b5, b6, b7, b8, b9⟩ := v
  obtain ⟨hT, hO, hY, he, hp, hh⟩ := I
  dsimp only at hT hO hY he hp hh
  subst he
  unfold wpX_key
  dsimp only
  refine nm_e (nm_e (nm_e (nm_e (qx_ek _ hT ?_))))
  dsimp only
  unfold wpY_key
  dsimp only
  refine nm_e (nm_e (nm_e (nm_e (qy_ek _ hY ?_))))
  exact ⟨hT, hO, hY, rfl, hp, hh⟩
theorem i_vc_block {k : Nat} {u : SX} {v : SY} (I : i_Rel k u v) (hk : k + 5 ≤ 2560) (v1 : Int32) (v2 : Int32) (v3 : Int32) (v4 : Int32) : wpX_block (fun u' => wpY_block (fun v' => i_Rel (k + 5) u' v') v v1 v2 v3 v4) u v1 v2 v3 v4 := by
  obtain ⟨a1, a2, a3, a4, a5, a6, a7, a8, a9⟩ := u
  obtain ⟨b1, b2, b3, b4, b5, b6, b7, b8, b9⟩ := v
  obtain ⟨hT, hO, hY, he, hp, hh⟩ := I
  dsimp only at hT hO hY he hp hh
  subst he
  unfold wpX_block
  dsimp only
  refine nm_e (nm_e (nm_e (nm_e ?_)))
  unfold wpY_block
  dsimp only
  refine nm_e (nm_e (nm_e (nm_e ?_)))
  exact ⟨hT, hO, hY, rfl, qb_uv (qb_uv (qb_uv (qb_uv hp 0 rfl) 1 rfl) 2 rfl) 3 rfl, hh⟩
theorem i_vc_mix {k : Nat} {u : SX} {v : SY} (I : i_Rel k u v) (hk : k + 5 ≤ 2560) (v1 : Int32) (v2 : Int32) (v3 : Int32) (v4 : Int32) : wpX_mix (fun u' => wpY_mix (fun v' => i_Rel (k + 5) u' v') v v1 v2 v3 v4) u v1 v2 v3 v4 := by
  obtain ⟨a1, a2, a3, a4, a5, a6, a7, a8, a9⟩ := u
  obtain ⟨b1, b2, b3, b4, b5, b6, b7, b8, b9⟩ := v
  obtain ⟨hT, hO, hY, he, hp, hh⟩ := I
  dsimp only at hT hO hY he hp hh
  subst he
  unfold wpX_mix
  dsimp only
  refine nm_e (nm_e (nm_e (nm_e ?_)))
  unfold wpY_mix
  dsimp only
  unfold wpY_block
  dsimp only
  refine nm_e (nm_e (nm_e (nm_e ?_)))
  refine ⟨hT, hO, hY, rfl, qb_uv (qb_uv (qb_uv (qb_uv hp 0 ?_) 1 ?_) 2 ?_) 3 ?_, hh⟩
  · rw [hp 0 (by decide)]
  · rw [pk_un (by decide), hp 1 (by decide)]
  · rw [pk_un (by decide), pk_un (by decide), hp 2 (by decide)]
  · rw [pk_un (by decide), pk_un (by decide), pk_un (by decide), hp 3 (by decide)]
theorem i_vc_encrypt {k : Nat} {u : SX} {v : SY} (I : i_Rel k u v) (hk : k + 5 ≤ 2560) : wpX_encrypt (fun u' => wpY_encrypt (fun v' => i_Rel (k + 5) u' v') v) u := by
  obtain ⟨a1, a2, a3, a4, a5, a6, a7, a8, a9⟩ := u
  obtain ⟨b1, b2, b3, b4, b5, b6, b7, b8, b9⟩ := v
  obtain ⟨hT, hO, hY, he, hp, hh⟩ := I
  dsimp only at hT hO hY he hp hh
  subst he
  unfold wpX_encrypt
  dsimp only
  refine qx_en_present _ hT b3 hp (fun p a c h => ?_)
  dsimp only
  refine qy_encrypt _ hY b3 (fun _ _ => rfl) (fun p' a' c' h' => ?_)
  exact ⟨hT, hO, hY, rfl, fun j hj => (h j hj).trans (h' j hj).symm, hh⟩
theorem i_vc_decrypt {k : Nat} {u : SX} {v : SY} (I : i_Rel k u v) (hk : k + 5 ≤ 2560) : wpX_decrypt (fun u' => wpY_decrypt (fun v' => i_Rel (k + 5) u' v') v) u := by
  obtain ⟨a1, a2, a3, a4, a5, a6, a7, a8, a9⟩ := u
  obtain ⟨b1, b2, b3, b4, b5, b6, b7, b8, b9⟩ := v
  obtain ⟨hT, hO, hY, he, hp, hh⟩ := I
  dsimp only at hT hO hY he hp hh
  subst he
  unfold wpX_decrypt
  dsimp only
  refine qx_de_present _ hO b3 hp (fun p a c h => ?_)
  dsimp only
  refine qy_decrypt _ hY b3 (fun _ _ => rfl) (fun p' a' c' h' => ?_)
  exact ⟨hT, hO, hY, rfl, fun j hj => (h j hj).trans (h' j hj).symm, hh⟩
theorem i_vc_next {k : Nat} {u : SX} {v : SY} (I : i_Rel k u v) (hk : k + 5 ≤ 2560) : wpX_next (fun u' => wpY_next (fun v' => i_Rel (k + 5) u' v') v) u := by
  obtain ⟨a1, a2, a3, a4, a5, a6, a7, a8, a9⟩ := u
  obtain ⟨b1, b2, b3, b4, b5, b6, b7, b8, b9⟩ := v
  obtain ⟨hT, hO, hY, he, hp, hh⟩ := I
  dsimp only at hT hO hY he hp hh
  subst he
  unfold wpX_next
  dsimp only
  refine nm_e ?_
  unfold wpY_next
  dsimp only
  refine nm_e ?_
  exact ⟨hT, hO, hY, rfl, qb_uv hp 3 (by rw [hp 3 (by decide)]), hh⟩
theorem i_vc_word {k : Nat} {u : SX} {v : SY} (I : i_Rel k u v) (hk : k + 5 ≤ 2560) (v1 : Int32) : wpX_word (fun r => wpY_word (fun r' => r' = r ∧ i_Rel (k + 5) u v) v v1) u v1 := by
  obtain ⟨a1, a2, a3, a4, a5, a6, a7, a8, a9⟩ := u
  obtain ⟨b1, b2, b3, b4, b5, b6, b7, b8, b9⟩ := v
  obtain ⟨hT, hO, hY, he, hp, hh⟩ := I
  dsimp only at hT hO hY he hp hh
  subst he
  obtain ⟨j, hj, e⟩ := qb_a3 v1
  have hc : (nI j).toNatClampNeg = j := nI_clamp (by omega)
  unfold wpX_word
  dsimp only
  unfold wpY_word
  dsimp only
  rw [e, hc]
  exact ⟨vp_in_nI hj (by decide), vp_in_nI hj (by decide), (hp j hj).symm, hT, hO, hY, rfl, hp, hh⟩
theorem i_vc_hash {k : Nat} {u : SX} {v : SY} (I : i_Rel k u v) (hk : k + 5 ≤ 2560) (v1 : Int32) : wpX_hash (fun r => wpY_hash (fun r' => r' = r ∧ i_Rel (k + 5) u v) v v1) u v1 := by
  obtain ⟨a1, a2, a3, a4, a5, a6, a7, a8, a9⟩ := u
  obtain ⟨b1, b2, b3, b4, b5, b6, b7, b8, b9⟩ := v
  obtain ⟨hT, hO, hY, he, hp, hh⟩ := I
  dsimp only at hT hO hY he hp hh
  subst he
  obtain ⟨j, hj, e⟩ := qb_a3 v1
  have hc : (nI j).toNatClampNeg = j := nI_clamp (by omega)
  unfold wpX_hash
  dsimp only
  unfold wpY_hash
  dsimp only
  rw [e, hc]
  exact ⟨vp_in_nI hj (by decide), vp_in_nI hj (by decide), (hh j hj).symm, hT, hO, hY, rfl, hp, hh⟩
theorem i_vc_absorb {k : Nat} {u : SX} {v : SY} (I : i_Rel k u v) (hk : k + 5 ≤ 2560) : wpX_absorb (fun u' => wpY_absorb (fun v' => i_Rel (k + 5) u' v') v) u := by
  obtain ⟨a1, a2, a3, a4, a5, a6, a7, a8, a9⟩ := u
  obtain ⟨b1, b2, b3, b4, b5, b6, b7, b8, b9⟩ := v
  obtain ⟨hT, hO, hY, he, hp, hh⟩ := I
  dsimp only at hT hO hY he hp hh
  subst he
  have hz : ∀ c, c < 4 → (fun k => a5 k ^^^ a4 k) c = (fun k => b4 k ^^^ b3 k) c := by
    intro c hc
    show a5 c ^^^ a4 c = b4 c ^^^ b3 c
    rw [hh c hc, hp c hc]
  refine qx_absorb _ hT (fun h a c f g hg => ?_)
  refine qy_absorb _ hY (fun h' a' c' q' f' g' hg' => ?_)
  exact ⟨hT, hO, hY, rfl, hp, fun j hj => ((hg j hj).trans (qb_PR_c hz 128 (Nat.le_refl 128) j)).trans (hg' j hj).symm⟩
theorem i_vc_restart {k : Nat} {u : SX} {v : SY} (I : i_Rel k u v) (hk : k + 5 ≤ 2560) : wpX_restart (fun u' => wpY_restart (fun v' => i_Rel (k + 5) u' v') v) u := by
  obtain ⟨a1, a2, a3, a4, a5, a6, a7, a8, a9⟩ := u
  obtain ⟨b1, b2, b3, b4, b5, b6, b7, b8, b9⟩ := v
  obtain ⟨hT, hO, hY, he, hp, hh⟩ := I
  dsimp only at hT hO hY he hp hh
  subst he
  unfold wpX_restart
  dsimp only
  refine qx_cl_hashed _ (fun h h1 => ?_)
  dsimp only
  refine qy_restart _ (fun h' h2 => ?_)
  exact ⟨hT, hO, hY, rfl, hp, fun j hj => (h1 j hj).trans (h2 j hj).symm⟩
theorem i_vc_roundKey {k : Nat} {u : SX} {v : SY} (I : i_Rel k u v) (hk : k + 5 ≤ 2560) (v1 : Int32) (v2 : Int32) : wpX_roundKey (fun r => wpY_roundKey (fun r' => r' = r ∧ i_Rel (k + 5) u v) v v1 v2) u v1 v2 := by
  obtain ⟨a1, a2, a3, a4, a5, a6, a7, a8, a9⟩ := u
  obtain ⟨b1, b2, b3, b4, b5, b6, b7, b8, b9⟩ := v
  obtain ⟨hT, hO, hY, he, hp, hh⟩ := I
  dsimp only at hT hO hY he hp hh
  subst he
  obtain ⟨l, hl, e⟩ := qb_a3 v2
  unfold wpX_roundKey
  dsimp only
  unfold wpY_roundKey
  dsimp only
  unfold wX_roundKey_12 wY_roundKey_12
  rw [e]
  rcases qb_rk v1 with ⟨z, j, hj, ej⟩ | ⟨z, j, hj, ej⟩
  · have e2 : (4 : Int32) * nI j + nI l = nI (4 * j + l) := (congrArg (· + nI l) (pk_mul 4 j)).trans (nI_add _ _)
    have hc : (nI (4 * j + l)).toNatClampNeg = 4 * j + l := nI_clamp (by omega)
    refine ⟨by decide, nm_e (br_t z ?_)⟩
    rw [ej, e2, hc]
    rw [ej] at z
    exact ⟨vp_in_nI (by omega) (by decide), by decide, nm_e (br_t z ⟨by rw [e2]; exact vp_in_nI (by omega) (by decide), by rw [e2, hc], hT, hO, hY, rfl, hp, hh⟩)⟩
  · have e2 : (4 : Int32) * nI j + nI l = nI (4 * j + l) := (congrArg (· + nI l) (pk_mul 4 j)).trans (nI_add _ _)
    have hc : (nI (4 * j + l)).toNatClampNeg = 4 * j + l := nI_clamp (by omega)
    refine ⟨by decide, nm_e (br_f z (nm_r ej ?_))⟩
    rw [e2, hc]
    refine ⟨vp_in_nI (by omega) (by decide), by decide, nm_e (br_f z (nm_r ej ?_))⟩
    rw [e2, hc]
    exact ⟨vp_in_nI (by omega) (by decide), rfl, hT, hO, hY, rfl, hp, hh⟩
