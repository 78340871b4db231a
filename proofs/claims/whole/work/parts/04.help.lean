/-! ===== writes, indices ===== -/
theorem qb_ul {a g : Nat → Int32} {i : Nat} {v : Int32} (h : ∀ j, j < i → a j = g j) (e : v = g i) : ∀ j, j < i + 1 → upd a i v j = g j := by
  intro j hj
  by_cases z : j = i
  · subst z; rw [pk_us, e]
  · rw [pk_un z]; exact h j (by omega)
theorem qb_uh {a g : Nat → Int32} {i N : Nat} {v : Int32} (h : ∀ j, i ≤ j → j < N → a j = g j) : ∀ j, i + 1 ≤ j → j < N → upd a i v j = g j := by
  intro j hj hN
  rw [pk_un (by omega)]; exact h j (by omega) hN
theorem qb_ge (e : Nat) (he : e < 2 ^ 31) {x : Int32} (hx : x = nI e) : x ≤ nI e := by rw [hx]; exact nI_le (Nat.le_refl e) he
theorem qb_nge {i e : Nat} (h : i < e) (he : e < 2 ^ 31) : ¬ nI e ≤ nI i := nI_ge h he
theorem qb_SqB {a : Nat → Int32} {s : Nat → Nat} (h : qb_Sq a s) : ∀ k, k < 16 → s k < 256 := fun k hk => (h k hk).2
theorem qb_SqV {a : Nat → Int32} {s : Nat → Nat} (h : qb_Sq a s) : ∀ k, k < 16 → a k = nI (s k) := fun k hk => (h k hk).1
