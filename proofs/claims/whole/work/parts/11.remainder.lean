theorem qb_uv {a b : Nat → Int32} (h : ∀ c, c < 4 → a c = b c) (i : Nat) {v w : Int32} (e : v = w) : ∀ c, c < 4 → upd a i v c = upd b i w c := by
  intro c hc
  by_cases z : c = i
  · subst z; rw [pk_us, pk_us, e]
  · rw [pk_un z, pk_un z]; exact h c hc
theorem qb_a3 (x : Int32) : ∃ j : Nat, j < 4 ∧ x &&& 3 = nI j := pk_andE x 2 (by decide)
theorem qb_rk (q : Int32) : (0 ≤ q - q / 11 * 11 ∧ ∃ j : Nat, j < 11 ∧ q - q / 11 * 11 = nI j) ∨ (¬ 0 ≤ q - q / 11 * 11 ∧ ∃ j : Nat, j < 11 ∧ q - q / 11 * 11 + 11 = nI j) := by
  have h := rem_toInt q 11
  have e11 : (11 : Int32).toInt = 11 := by decide
  have e0 : (0 : Int32).toInt = 0 := by decide
  have hb := tmod_bounds (a := q.toInt) (M := 11) (by decide)
  rw [e11] at h
  rw [← h] at hb
  generalize q - q / 11 * 11 = x at hb ⊢
  by_cases z : 0 ≤ x
  · refine Or.inl ⟨z, ?_⟩
    obtain ⟨j, hj, e⟩ := nI_of (x := x) (Int32.not_lt.mpr z)
    refine ⟨j, ?_, e⟩
    rw [e, nI_toInt hj] at hb
    omega
  · refine Or.inr ⟨z, ?_⟩
    have hn : x.toInt < 0 := by
      rw [Int32.le_iff_toInt_le, e0] at z
      omega
    have hs : (x + 11).toInt = x.toInt + 11 := by
      rw [Int32.toInt_add, e11]
      exact Int.bmod_eq_of_le (by omega) (by omega)
    have hp : ¬ x + 11 < 0 := by
      rw [Int32.lt_iff_toInt_lt, e0, hs]
      omega
    obtain ⟨j, hj, e⟩ := nI_of hp
    refine ⟨j, ?_, e⟩
    rw [e, nI_toInt hj] at hs
    omega
