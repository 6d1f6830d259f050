/-! numbers of the print: a value or none (0: none, x + 1: x), values in a state, one value set, the begin's bits -/
def ot_rv (x : Nat) : Int32 := nI x - 1
theorem ot_rv0 : ot_rv 0 = -1 := by decide
theorem ot_rvs (q : Nat) : ot_rv (q + 1) = nI q := nI_pred q
theorem ot_rvp {x : Nat} (h : x ≠ 0) : ot_rv x = nI (x - 1) := by
  obtain ⟨q, rfl⟩ : ∃ q, x = q + 1 := ⟨x - 1, by omega⟩
  exact ot_rvs q
theorem ot_rvm : ∀ x, x < 6 → (ot_rv x = -1 ↔ x = 0) := by decide +kernel
theorem ot_rvn : ∀ x, x < 6 → (ot_rv x < 0 ↔ x = 0) := by decide +kernel
theorem ot_rvg : ∀ x, x < 6 → (0 ≤ ot_rv x ↔ x ≠ 0) := by decide +kernel
theorem ot_rve : ∀ x, x < 6 → ∀ y, y < 6 → (ot_rv x = nI y ↔ x = y + 1) := by decide +kernel
theorem ot_2v (v : Nat) : 2 * nI v = nI (2 * v) := pk_mul 2 v
theorem ot_4v (v : Nat) : nI v * 4 = nI (v * 4) := pk_mul v 4
theorem ot_val {s v : Nat} (hs : s < 1024) (hv : v < 5) : (nI s >>> ((2 * nI v) &&& 31)) &&& 3 = nI (ot_vl s v) := by
  rw [ot_2v, pk_shrN (by omega) _ (2 * v) (s_l (2 * v) (by omega)), pk_andN (by have := Nat.div_le_self s (2 ^ (2 * v)); omega) 2 (by decide)]
  unfold ot_vl
  rw [show (2 : Nat) ^ (2 * v) = 4 ^ v from Nat.pow_mul 2 2 v]
theorem ot_set0 : ∀ t, t < 1024 → ∀ e, e < 4 → (nI t &&& (((3 : Int32) <<< (nI 0 &&& 31)) ^^^ (-1))) ||| (nI e <<< (nI 0 &&& 31)) = nI (t - t / 1 % 4 * 1 + e * 1) := by decide +kernel
theorem ot_set1 : ∀ t, t < 1024 → ∀ e, e < 4 → (nI t &&& (((3 : Int32) <<< (nI 2 &&& 31)) ^^^ (-1))) ||| (nI e <<< (nI 2 &&& 31)) = nI (t - t / 4 % 4 * 4 + e * 4) := by decide +kernel
theorem ot_set2 : ∀ t, t < 1024 → ∀ e, e < 4 → (nI t &&& (((3 : Int32) <<< (nI 4 &&& 31)) ^^^ (-1))) ||| (nI e <<< (nI 4 &&& 31)) = nI (t - t / 16 % 4 * 16 + e * 16) := by decide +kernel
theorem ot_set3 : ∀ t, t < 1024 → ∀ e, e < 4 → (nI t &&& (((3 : Int32) <<< (nI 6 &&& 31)) ^^^ (-1))) ||| (nI e <<< (nI 6 &&& 31)) = nI (t - t / 64 % 4 * 64 + e * 64) := by decide +kernel
theorem ot_set4 : ∀ t, t < 1024 → ∀ e, e < 4 → (nI t &&& (((3 : Int32) <<< (nI 8 &&& 31)) ^^^ (-1))) ||| (nI e <<< (nI 8 &&& 31)) = nI (t - t / 256 % 4 * 256 + e * 256) := by decide +kernel
theorem ot_set {t v e : Nat} (ht : t < 1024) (hv : v < 5) (he : e < 4) : (nI t &&& (((3 : Int32) <<< ((2 * nI v) &&& 31)) ^^^ (-1))) ||| (nI e <<< ((2 * nI v) &&& 31)) = nI (ot_st t v e) := by
  have h : v = 0 ∨ v = 1 ∨ v = 2 ∨ v = 3 ∨ v = 4 := by omega
  rw [ot_2v]
  rcases h with rfl | rfl | rfl | rfl | rfl
  · exact ot_set0 t ht e he
  · exact ot_set1 t ht e he
  · exact ot_set2 t ht e he
  · exact ot_set3 t ht e he
  · exact ot_set4 t ht e he
theorem ot_or0 : ∀ a, a < 1 → ∀ b, b < 4 → nI a ||| (nI b <<< (nI 0 &&& 31)) = nI (a + b * 1) := by decide +kernel
theorem ot_or1 : ∀ a, a < 4 → ∀ b, b < 4 → nI a ||| (nI b <<< (nI 2 &&& 31)) = nI (a + b * 4) := by decide +kernel
theorem ot_or2 : ∀ a, a < 16 → ∀ b, b < 4 → nI a ||| (nI b <<< (nI 4 &&& 31)) = nI (a + b * 16) := by decide +kernel
theorem ot_or3 : ∀ a, a < 64 → ∀ b, b < 4 → nI a ||| (nI b <<< (nI 6 &&& 31)) = nI (a + b * 64) := by decide +kernel
theorem ot_or4 : ∀ a, a < 256 → ∀ b, b < 4 → nI a ||| (nI b <<< (nI 8 &&& 31)) = nI (a + b * 256) := by decide +kernel
theorem ot_or {a v b : Nat} (ha : a < 4 ^ v) (hv : v < 5) (hb : b < 4) : nI a ||| (nI b <<< ((2 * nI v) &&& 31)) = nI (a + b * 4 ^ v) := by
  have h : v = 0 ∨ v = 1 ∨ v = 2 ∨ v = 3 ∨ v = 4 := by omega
  rw [ot_2v]
  rcases h with rfl | rfl | rfl | rfl | rfl
  · exact ot_or0 a ha b hb
  · exact ot_or1 a ha b hb
  · exact ot_or2 a ha b hb
  · exact ot_or3 a ha b hb
  · exact ot_or4 a ha b hb
theorem ot_pw : ∀ n, n < 6 → (1 : Int32) <<< ((2 * nI n) &&& 31) = nI (4 ^ n) := by decide +kernel
theorem ot_p2 : ∀ n, n < 11 → (1 : Int32) <<< (nI n &&& 31) = nI (2 ^ n) := by decide +kernel
theorem ot_nn {q : Nat} (h : q < 2 ^ 31) : ¬ nI q = -1 ∧ ¬ nI q < 0 ∧ 0 ≤ nI q := by
  refine ⟨fun e => ?_, nI_pos h, nI_pos' h⟩
  have a := nI_pos h
  rw [e] at a
  exact a (by decide)
