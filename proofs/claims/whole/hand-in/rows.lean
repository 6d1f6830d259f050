section
/-! rows of kit/rows and of the example large-2, as they are given for pasting -/
theorem pk_us {f : Nat → Int32} {k : Nat} {x : Int32} : upd f k x k = x := if_pos rfl
theorem pk_un {f : Nat → Int32} {k j : Nat} {x : Int32} (h : j ≠ k) : upd f k x j = f j := if_neg h
theorem pk_sub {a b : Nat} (h : b ≤ a) : nI a - nI b = nI (a - b) := by
  obtain ⟨c, rfl⟩ : ∃ c, a = c + b := ⟨a - b, by omega⟩
  rw [← nI_add, Int32.add_sub_cancel, Nat.add_sub_cancel]
theorem pk_m1 (n : Nat) : nI (n + 1) + (-1) = nI n := by
  rw [← nI_1, Int32.add_assoc, show (1 : Int32) + (-1) = 0 from rfl, Int32.add_zero]
theorem pk_mul (a b : Nat) : nI a * nI b = nI (a * b) := (Int32.ofNat_mul a b).symm
theorem pk_div {a d : Nat} (ha : a < 2 ^ 31) (h0 : 0 < d) (hd : d < 2 ^ 31) : nI a / nI d = nI (a / d) := by
  apply Int32.toInt_inj.mp
  rw [lg_idiv_nonneg (by rw [nI_toInt ha]; omega) (by rw [nI_toInt hd]; omega), nI_toInt ha, nI_toInt hd, nI_toInt (Nat.lt_of_le_of_lt (Nat.div_le_self a d) ha)]
  first | rfl | exact (Int.natCast_ediv _ _).symm
theorem pk_rem {a d : Nat} (ha : a < 2 ^ 31) (h0 : 0 < d) (hd : d < 2 ^ 31) : nI a - nI a / nI d * nI d = nI (a % d) := by
  rw [pk_div ha h0 hd, pk_mul, pk_sub (Nat.div_mul_le_self a d)]
  exact congrArg nI (by have := Nat.div_add_mod' a d; omega)
theorem pk_le {x y : Int32} {A B : Prop} (a b : Nat) (f : a ≤ b → A) (g : b < a → B) (hx : x = nI a := by rfl) (hy : y = nI b := by rfl) (ha : a < 2 ^ 31 := by omega) (hb : b < 2 ^ 31 := by omega) : (x ≤ y → A) ∧ (¬ x ≤ y → B) := by
  subst hx hy
  rw [nI_leI ha hb]
  exact ⟨f, fun z => g (by omega)⟩
theorem pk_lt {x y : Int32} {A B : Prop} (a b : Nat) (f : a < b → A) (g : b ≤ a → B) (hx : x = nI a := by rfl) (hy : y = nI b := by rfl) (ha : a < 2 ^ 31 := by omega) (hb : b < 2 ^ 31 := by omega) : (x < y → A) ∧ (¬ x < y → B) := by
  subst hx hy
  rw [nI_ltI ha hb]
  exact ⟨f, fun z => g (by omega)⟩
theorem pk_eq {x y : Int32} {A B : Prop} (a b : Nat) (f : a = b → A) (g : a ≠ b → B) (hx : x = nI a := by rfl) (hy : y = nI b := by rfl) (ha : a < 2 ^ 31 := by omega) (hb : b < 2 ^ 31 := by omega) : (x = y → A) ∧ (¬ x = y → B) := by
  subst hx hy
  rw [nI_eq ha hb]
  exact ⟨f, g⟩
theorem pk_in {x : Int32} (n N : Nat) (h : n < N) (hx : x = nI n := by rfl) (hN : N < 2 ^ 31 := by omega) : vp_in x N := by
  subst hx
  exact vp_in_nI h hN
theorem pk_cl {x : Int32} (n : Nat) (hx : x = nI n := by rfl) (h : n < 2 ^ 31 := by omega) : x.toNatClampNeg = n := by
  subst hx
  exact nI_clamp h
theorem pk_tn {n : Nat} (h : n < 2 ^ 32) : (nI n).toBitVec.toNat = n := Nat.mod_eq_of_lt h
theorem pk_and (x : Int32) {m : Int32} (k : Nat) (hm : m.toBitVec.toNat = 2 ^ k - 1) : x &&& m = nI (x.toBitVec.toNat % 2 ^ k) := by
  apply Int32.toBitVec_inj.mp
  apply BitVec.eq_of_toNat_eq
  rw [Int32.toBitVec_and, BitVec.toNat_and, hm, Nat.and_two_pow_sub_one_eq_mod]
  show _ = (BitVec.ofNat 32 _).toNat
  rw [BitVec.toNat_ofNat]
  exact (Nat.mod_eq_of_lt (Nat.lt_of_le_of_lt (Nat.mod_le _ _) x.toBitVec.isLt)).symm
theorem pk_andN {n : Nat} (h : n < 2 ^ 32) {m : Int32} (k : Nat) (hm : m.toBitVec.toNat = 2 ^ k - 1) : nI n &&& m = nI (n % 2 ^ k) := by
  rw [pk_and _ k hm, pk_tn h]
theorem pk_shl (a s : Int32) (k : Nat) (hs : (s.toBitVec.smod 32).toNat = k) : (a <<< s).toBitVec.toNat = a.toBitVec.toNat * 2 ^ k % 2 ^ 32 := by
  show (a.toBitVec <<< (s.toBitVec.smod 32).toNat).toNat = _
  rw [hs, BitVec.toNat_shiftLeft, Nat.shiftLeft_eq]
theorem pk_shlN {n : Nat} (s : Int32) (k : Nat) (hs : (s.toBitVec.smod 32).toNat = k) (h : n * 2 ^ k < 2 ^ 32) : nI n <<< s = nI (n * 2 ^ k) := by
  apply Int32.toBitVec_inj.mp
  apply BitVec.eq_of_toNat_eq
  have hn : n < 2 ^ 32 := Nat.lt_of_le_of_lt (Nat.le_mul_of_pos_right n (Nat.two_pow_pos k)) h
  rw [pk_shl _ _ k hs, pk_tn hn, pk_tn h, Nat.mod_eq_of_lt h]
theorem pk_shr (a s : Int32) (k : Nat) (hs : (s.toBitVec.smod 32).toNat = k) : (a >>> s).toInt = a.toInt >>> k := by
  show (a.toBitVec.sshiftRight (s.toBitVec.smod 32).toNat).toInt = _
  rw [hs, BitVec.toInt_sshiftRight]
  rfl
theorem pk_shrN {n : Nat} (h : n < 2 ^ 31) (s : Int32) (k : Nat) (hs : (s.toBitVec.smod 32).toNat = k) : nI n >>> s = nI (n / 2 ^ k) := by
  apply Int32.toInt_inj.mp
  have h2 : n / 2 ^ k ≤ n := Nat.div_le_self _ _
  rw [pk_shr _ _ k hs, nI_toInt h, nI_toInt (by omega), Int.shiftRight_eq_div_pow]
  rfl
theorem pk_least (P : Nat → Prop) (h : ∃ k, P k) : ∃ k, P k ∧ ∀ j, j < k → ¬ P j := by
  obtain ⟨k, hk⟩ := h
  induction k using Nat.strongRecOn with
  | ind k ih =>
    by_cases e : ∃ j, j < k ∧ P j
    · obtain ⟨j, hj, pj⟩ := e
      exact ih j hj pj
    · exact ⟨k, hk, fun j hj pj => e ⟨j, hj, pj⟩⟩
theorem pk_ix (x : Int32) {n : Nat} (hn : n < 2 ^ 31) : x < 0 ∨ nI n ≤ x ∨ ∃ j : Nat, j < n ∧ x = nI j := by
  by_cases h : x < 0
  · exact Or.inl h
  · obtain ⟨j, hj, rfl⟩ := nI_of h
    by_cases h2 : j < n
    · exact Or.inr (Or.inr ⟨j, h2, rfl⟩)
    · exact Or.inr (Or.inl (nI_le (by omega) hj))
def bt (x : Int32) (i : Nat) : Bool := x.toBitVec.getLsbD i
theorem b_ext {x y : Int32} (h : ∀ i, i < 32 → bt x i = bt y i) : x = y := Int32.toBitVec_inj.mp (BitVec.eq_of_getLsbD_eq (fun i hi => h i hi))
theorem b_or (x y : Int32) (i : Nat) : bt (x ||| y) i = (bt x i || bt y i) := by unfold bt; rw [Int32.toBitVec_or, BitVec.getLsbD_or]
theorem b_and (x y : Int32) (i : Nat) : bt (x &&& y) i = (bt x i && bt y i) := by unfold bt; rw [Int32.toBitVec_and, BitVec.getLsbD_and]
theorem b_big {x : Int32} {i : Nat} (h : 32 ≤ i) : bt x i = false := BitVec.getLsbD_of_ge _ _ h
theorem b_0 (i : Nat) : bt 0 i = false := BitVec.getLsbD_zero
theorem s_l : ∀ n, n < 32 → ((nI n &&& 31).toBitVec.smod 32).toNat = n := by decide +kernel
theorem b_shl (n : Nat) (hn : n < 32) (x : Int32) {i : Nat} (hi : i < 32) : bt (x <<< (nI n &&& 31)) i = (decide (n ≤ i) && bt x (i - n)) := by
  unfold bt
  rw [Int32.toBitVec_shiftLeft]
  show (x.toBitVec <<< ((nI n &&& 31).toBitVec.smod 32).toNat).getLsbD i = _
  rw [s_l n hn, BitVec.getLsbD_shiftLeft]
  rcases Nat.lt_or_ge i n with h | h
  · simp [h, Nat.not_le.mpr h]
  · simp [hi, h, Nat.not_lt.mpr h]
theorem b_sshr (n : Nat) (hn : n < 32) (x : Int32) {i : Nat} (hi : i < 32) : bt (x >>> (nI n &&& 31)) i = if n + i < 32 then bt x (n + i) else bt x 31 := by
  unfold bt
  rw [Int32.toBitVec_shiftRight]
  show (x.toBitVec.sshiftRight ((nI n &&& 31).toBitVec.smod 32).toNat).getLsbD i = _
  rw [s_l n hn, BitVec.getLsbD_sshiftRight, BitVec.msb_eq_getLsbD_last]
  simp [hi]
theorem nx_and (a b : Nat) : nI a &&& nI b = nI (a &&& b) := by
  apply Int32.toBitVec_inj.1
  show BitVec.ofNat 32 a &&& BitVec.ofNat 32 b = BitVec.ofNat 32 (a &&& b)
  apply BitVec.eq_of_getLsbD_eq
  intro i hi
  simp [hi]
noncomputable def b01 (P : Prop) : Nat := @ite Nat P (Classical.propDecidable P) 1 0
theorem b01_t {P : Prop} (h : P) : b01 P = 1 := by unfold b01; rw [if_pos h]
theorem b01_f {P : Prop} (h : ¬ P) : b01 P = 0 := by unfold b01; rw [if_neg h]
theorem b01_le (P : Prop) : b01 P ≤ 1 := by
  rcases Classical.em P with h | h
  · rw [b01_t h]; omega
  · rw [b01_f h]; omega
theorem b01_mono {P Q : Prop} (h : P → Q) : b01 P ≤ b01 Q := by
  rcases Classical.em P with hp | hp
  · rw [b01_t hp, b01_t (h hp)]; omega
  · rw [b01_f hp]; omega
noncomputable def cn (P : Nat → Prop) : Nat → Nat
  | 0 => 0
  | k + 1 => cn P k + b01 (P k)
theorem cn_mono {P Q : Nat → Prop} : ∀ {N : Nat}, (∀ k, k < N → P k → Q k) → cn P N ≤ cn Q N
  | 0, _ => Nat.le_refl _
  | N + 1, h => by
    have a := cn_mono (P := P) (Q := Q) (N := N) (fun k hk => h k (by omega))
    have b := b01_mono (h N (by omega))
    simp only [cn]; omega
theorem cn_lt {P Q : Nat → Prop} {a : Nat} (hp : ¬ P a) (hq : Q a) : ∀ {N : Nat}, (∀ k, k < N → P k → Q k) → a < N → cn P N < cn Q N
  | 0, _, h => by omega
  | N + 1, h, ha => by
    simp only [cn]
    rcases Nat.lt_or_ge a N with z | z
    · have x := cn_lt hp hq (N := N) (fun k hk => h k (by omega)) z
      have b := b01_mono (h N (by omega))
      omega
    · have e : a = N := by omega
      subst e
      have x := cn_mono (P := P) (Q := Q) (N := a) (fun k hk => h k (by omega))
      rw [b01_t hq, b01_f hp]; omega
theorem cn_le (P : Nat → Prop) : ∀ N, cn P N ≤ N
  | 0 => Nat.le_refl _
  | N + 1 => by have := cn_le P N; have := b01_le (P N); simp only [cn]; omega
theorem cn_eq {P Q : Nat → Prop} {N : Nat} (h : ∀ k, k < N → (P k ↔ Q k)) : cn P N = cn Q N :=
  Nat.le_antisymm (cn_mono fun k hk => (h k hk).mp) (cn_mono fun k hk => (h k hk).mpr)
theorem cn_add {P : Nat → Prop} {a : Nat} (hp : ¬ P a) : ∀ {N : Nat}, a < N → cn (fun k => P k ∨ k = a) N = cn P N + 1
  | 0, h => by omega
  | N + 1, h => by
    simp only [cn]
    rcases Nat.lt_or_ge a N with z | z
    · rw [cn_add hp z]
      have : b01 (P N ∨ N = a) = b01 (P N) := Nat.le_antisymm (b01_mono fun q => q.elim id (fun e => by omega)) (b01_mono Or.inl)
      omega
    · have e : a = N := by omega
      subst e
      rw [cn_eq (P := fun k => P k ∨ k = a) (Q := P) (fun k hk => ⟨fun q => q.elim id (fun e => by omega), Or.inl⟩), b01_t (Or.inr rfl), b01_f hp]
end
section
/-! the mathematics: counting, states, reach, ways, bounds; no printed predicate -/
theorem ot_cn1 {P : Nat → Prop} {N k : Nat} (hk : k < N) (hp : P k) : 0 < cn P N := by
  have := cn_lt (P := fun _ => False) (Q := P) (a := k) (fun z => z) hp (N := N) (fun _ _ z => z.elim) hk
  omega
theorem ot_cn0 {P : Nat → Prop} {N : Nat} (h : cn P N = 0) {k : Nat} (hk : k < N) : ¬ P k := by
  intro hp
  have := ot_cn1 hk hp
  omega
theorem ot_cnlt {P : Nat → Prop} {N k : Nat} (hk : k < N) (hp : ¬ P k) : cn P N < N := by
  have a := cn_lt (P := P) (Q := fun _ => True) (a := k) hp trivial (N := N) (fun _ _ _ => trivial) hk
  have b := cn_le (fun _ => True) N
  omega
theorem ot_cnF : ∀ N, cn (fun _ => False) N = 0
  | 0 => rfl
  | N + 1 => by simp only [cn]; rw [ot_cnF N, b01_f (fun z => z)]
theorem ot_cnup {P : Nat → Prop} {N M : Nat} (h : ∀ k, P k → k < N) (hM : N ≤ M) : cn P M = cn P N := by
  obtain ⟨e, rfl⟩ : ∃ e, M = N + e := ⟨M - N, by omega⟩
  clear hM
  induction e with
  | zero => rfl
  | succ e ih =>
    show cn P (N + e) + b01 (P (N + e)) = _
    rw [ih, b01_f (fun z => by have := h _ z; omega)]
    rfl
def ot_up (w : Nat → Nat) (s x : Nat) : Nat → Nat := fun j => if j = s then x else w j
theorem ot_us {w : Nat → Nat} {s x : Nat} : ot_up w s x s = x := if_pos rfl
theorem ot_un {w : Nat → Nat} {s x j : Nat} (h : j ≠ s) : ot_up w s x j = w j := if_neg h
theorem ot_ule {w : Nat → Nat} {s x : Nat} (h : x ≤ w s) (j : Nat) : ot_up w s x j ≤ w j := by
  rcases Classical.em (j = s) with e | e
  · rw [e, ot_us]; exact h
  · rw [ot_un e]; exact Nat.le_refl _
/-! states -/
def ot_vl (s v : Nat) : Nat := s / 4 ^ v % 4
def ot_st (s v e : Nat) : Nat := s - ot_vl s v * 4 ^ v + e * 4 ^ v
theorem ot_vl4 (s v : Nat) : ot_vl s v < 4 := Nat.mod_lt _ (by decide)
theorem ot_st_same {s v e : Nat} (hv : v < 5) (he : e < 4) : ot_vl (ot_st s v e) v = e := by
  have h : v = 0 ∨ v = 1 ∨ v = 2 ∨ v = 3 ∨ v = 4 := by omega
  rcases h with rfl | rfl | rfl | rfl | rfl <;> simp only [ot_vl, ot_st, Nat.reducePow] <;> omega
theorem ot_st_other {s v u e : Nat} (hv : v < 5) (hu : u < 5) (he : e < 4) (huv : u ≠ v) : ot_vl (ot_st s v e) u = ot_vl s u := by
  have h : v = 0 ∨ v = 1 ∨ v = 2 ∨ v = 3 ∨ v = 4 := by omega
  have k : u = 0 ∨ u = 1 ∨ u = 2 ∨ u = 3 ∨ u = 4 := by omega
  rcases h with rfl | rfl | rfl | rfl | rfl <;> rcases k with rfl | rfl | rfl | rfl | rfl <;> simp only [ot_vl, ot_st, Nat.reducePow] <;> omega
theorem ot_st_lt {n s v e : Nat} (hn : n ≤ 5) (hv : v < n) (he : e < 4) (hs : s < 4 ^ n) : ot_st s v e < 4 ^ n := by
  have h : v = 0 ∨ v = 1 ∨ v = 2 ∨ v = 3 ∨ v = 4 := by omega
  have k : n = 1 ∨ n = 2 ∨ n = 3 ∨ n = 4 ∨ n = 5 := by omega
  rcases k with rfl | rfl | rfl | rfl | rfl <;> rcases h with rfl | rfl | rfl | rfl | rfl <;> simp only [ot_vl, ot_st, Nat.reducePow] at hs ⊢ <;> omega
def ot_ok (n d s : Nat) : Prop := s < 4 ^ n ∧ ∀ v, v < n → ot_vl s v < d
theorem ot_4n {n : Nat} (hn : n ≤ 5) : 4 ^ n ≤ 1024 := Nat.pow_le_pow_right (n := 4) (by decide) hn
theorem ot_4p (n : Nat) : 0 < 4 ^ n := Nat.pow_pos (by decide)
theorem ot_ok_lt {n d s : Nat} (hn : n ≤ 5) (h : ot_ok n d s) : s < 1024 := Nat.lt_of_lt_of_le h.1 (ot_4n hn)
def ot_nx (ef : Nat → Nat) (o s : Nat) : Nat → Nat
  | 0 => s
  | v + 1 => if ef (5 * o + v) = 0 then ot_nx ef o s v else ot_st (ot_nx ef o s v) v (ef (5 * o + v) - 1)
theorem ot_nx_0 {ef : Nat → Nat} {o s v : Nat} (h : ef (5 * o + v) = 0) : ot_nx ef o s (v + 1) = ot_nx ef o s v := if_pos h
theorem ot_nx_1 {ef : Nat → Nat} {o s v : Nat} (h : ef (5 * o + v) ≠ 0) : ot_nx ef o s (v + 1) = ot_st (ot_nx ef o s v) v (ef (5 * o + v) - 1) := if_neg h
theorem ot_nx_ok {n d o s : Nat} {ef : Nat → Nat} (hn : n ≤ 5) (hd : d ≤ 4) (he : ∀ j, ef j ≤ d) (h : ot_ok n d s) : ∀ v, v ≤ n → ot_ok n d (ot_nx ef o s v) := by
  intro v
  induction v with
  | zero => intro _; exact h
  | succ v ih =>
    intro hv
    have ih := ih (by omega)
    have e := he (5 * o + v)
    rcases Classical.em (ef (5 * o + v) = 0) with z | z
    · rw [ot_nx_0 z]; exact ih
    · rw [ot_nx_1 z]
      refine ⟨ot_st_lt hn hv (by omega) ih.1, fun u hu => ?_⟩
      rcases Classical.em (u = v) with q | q
      · rw [q, ot_st_same (by omega) (by omega)]; omega
      · rw [ot_st_other (by omega) (by omega) (by omega) q]; exact ih.2 u hu
def ot_bs (be : Nat → Nat) : Nat → Nat
  | 0 => 0
  | v + 1 => ot_bs be v + be v * 4 ^ v
theorem ot_bs1 {a b k v : Nat} (hk : k < 5) (hv : v < k) : ot_vl (a + b * 4 ^ k) v = ot_vl a v := by
  have h : v = 0 ∨ v = 1 ∨ v = 2 ∨ v = 3 := by omega
  have q : k = 1 ∨ k = 2 ∨ k = 3 ∨ k = 4 := by omega
  rcases q with rfl | rfl | rfl | rfl <;> rcases h with rfl | rfl | rfl | rfl <;> simp only [ot_vl, Nat.reducePow] <;> omega
theorem ot_bs2 {a b k : Nat} (hk : k < 5) (ha : a < 4 ^ k) (hb : b < 4) : ot_vl (a + b * 4 ^ k) k = b ∧ a + b * 4 ^ k < 4 ^ (k + 1) := by
  have q : k = 0 ∨ k = 1 ∨ k = 2 ∨ k = 3 ∨ k = 4 := by omega
  rcases q with rfl | rfl | rfl | rfl | rfl <;> simp only [ot_vl, Nat.reducePow, Nat.reduceAdd] at ha ⊢ <;> omega
theorem ot_bs_ok {d : Nat} {be : Nat → Nat} (hd : d ≤ 4) (hb : ∀ v, v < 5 → be v < d) : ∀ n, n ≤ 5 → ot_ok n d (ot_bs be n) := by
  intro n
  induction n with
  | zero => intro _; exact ⟨show 0 < 4 ^ 0 by decide, fun v hv => by omega⟩
  | succ k ih =>
    intro hk
    have ih := ih (by omega)
    have b := hb k (by omega)
    have z := ot_bs2 (k := k) (by omega) ih.1 (b := be k) (by omega)
    refine ⟨z.2, fun v hv => ?_⟩
    show ot_vl (ot_bs be k + be k * 4 ^ k) v < d
    rcases Classical.em (v = k) with q | q
    · rw [q, z.1]; exact b
    · rw [ot_bs1 (by omega) (by omega)]; exact ih.2 v (by omega)
/-! what an operator needs, the goal, reach -/
def ot_ap (n : Nat) (ne : Nat → Nat) (o s : Nat) : Prop := ∀ v, v < n → ne (5 * o + v) = 0 ∨ ne (5 * o + v) = ot_vl s v + 1
def ot_gl (n : Nat) (go : Nat → Nat) (s : Nat) : Prop := ∀ v, v < n → go v = 0 ∨ go v = ot_vl s v + 1
def ot_E (n m : Nat) (ne ef : Nat → Nat) (bo : Nat → Prop) (s t : Nat) : Prop := ∃ o, o < m ∧ ¬ bo o ∧ ot_ap n ne o s ∧ t = ot_nx ef o s n
def ot_R (s0 : Nat) (br : Nat → Prop) (E : Nat → Nat → Prop) (s : Nat) : Prop := ∀ P : Nat → Prop, (¬ br s0 → P s0) → (∀ s t, P s → E s t → ¬ br t → P t) → P s
theorem ot_R0 {s0 : Nat} {br : Nat → Prop} {E : Nat → Nat → Prop} (h : ¬ br s0) : ot_R s0 br E s0 := fun _ h0 _ => h0 h
theorem ot_Rs {s0 s t : Nat} {br : Nat → Prop} {E : Nat → Nat → Prop} (h : ot_R s0 br E s) (e : E s t) (hb : ¬ br t) : ot_R s0 br E t := fun P h0 hs => hs s t (h P h0 hs) e hb
theorem ot_Rok {n d m : Nat} {ne ef : Nat → Nat} {s0 s : Nat} {br bo : Nat → Prop} (hn : n ≤ 5) (hd : d ≤ 4) (he : ∀ j, ef j ≤ d) (h0 : ot_ok n d s0) (h : ot_R s0 br (ot_E n m ne ef bo) s) : ot_ok n d s :=
  h (ot_ok n d) (fun _ => h0) (fun s t hs ⟨o, _, _, _, e⟩ _ => by rw [e]; exact ot_nx_ok hn hd he hs n (Nat.le_refl _))
/-! ways: E o s t, costs co, ends g; a table w of 1024 * cost + length, 1000000000 is infinite -/
def ot_W (E : Nat → Nat → Nat → Prop) (co : Nat → Nat) (g : Nat → Prop) : Nat → Nat → Nat → Prop
  | 0, s, C => g s ∧ C = 0
  | L + 1, s, C => ∃ o t C', E o s t ∧ ot_W E co g L t C' ∧ C = C' + co o
def ot_I (E : Nat → Nat → Nat → Prop) (co : Nat → Nat) (g : Nat → Prop) (w : Nat → Nat) : Prop :=
  ∀ s, w s ≠ 1000000000 → ∃ C L, w s = 1024 * C + L ∧ C ≤ 9 * L ∧ L ≤ cn (fun u => w u < w s) 1024 ∧ s < 1024 ∧ ot_W E co g L s C
theorem ot_relax {E : Nat → Nat → Nat → Prop} {co : Nat → Nat} {g : Nat → Prop} {w : Nat → Nat} (h : ot_I E co g w) {o s t : Nat} (hco : co o ≤ 9) (hs : s < 1024) (he : E o s t) (ht : w t ≠ 1000000000) (hl : w t + (1024 * co o + 1) < w s) : ot_I E co g (ot_up w s (w t + (1024 * co o + 1))) := by
  have hle := ot_ule (w := w) (s := s) (Nat.le_of_lt hl)
  have hts : t ≠ s := fun e => by rw [e] at hl; omega
  intro s' hs'
  rcases Classical.em (s' = s) with e | e
  · subst e
    obtain ⟨C, L, e1, hC, hL, ht1, hW⟩ := h t ht
    refine ⟨C + co o, L + 1, ?_, by omega, ?_, hs, ⟨o, t, C, he, hW, rfl⟩⟩
    · rw [ot_us]; omega
    · have := cn_lt (P := fun u => w u < w t) (Q := fun u => ot_up w s' (w t + (1024 * co o + 1)) u < ot_up w s' (w t + (1024 * co o + 1)) s') (a := t) (Nat.lt_irrefl _) (by show ot_up _ _ _ t < _; rw [ot_us, ot_un hts]; omega) (N := 1024) (fun u _ hu => by have := hle u; show ot_up _ _ _ u < _; rw [ot_us]; omega) ht1
      omega
  · rw [ot_un e] at hs'
    obtain ⟨C, L, e1, hC, hL, ht1, hW⟩ := h s' hs'
    refine ⟨C, L, by rw [ot_un e]; exact e1, hC, ?_, ht1, hW⟩
    refine Nat.le_trans hL (cn_mono fun u _ hu => ?_)
    have := hle u
    show ot_up _ _ _ u < _
    rw [ot_un e]
    exact Nat.lt_of_le_of_lt this hu
theorem ot_Ib {E : Nat → Nat → Nat → Prop} {co : Nat → Nat} {g : Nat → Prop} {w : Nat → Nat} (h : ot_I E co g w) {s : Nat} (hs : w s ≠ 1000000000) : ∃ C L, w s = 1024 * C + L ∧ C ≤ 9 * L ∧ L ≤ 1023 ∧ s < 1024 ∧ ot_W E co g L s C := by
  obtain ⟨C, L, e1, hC, hL, ht1, hW⟩ := h s hs
  have := ot_cnlt (P := fun u => w u < w s) ht1 (Nat.lt_irrefl _)
  exact ⟨C, L, e1, hC, by omega, ht1, hW⟩
def ot_S (E : Nat → Nat → Nat → Prop) (co : Nat → Nat) (g : Nat → Prop) (w : Nat → Nat) : Prop :=
  (∀ s, w s ≤ 1000000000) ∧ (∀ s, g s → w s = 0) ∧ ∀ o s t, E o s t → w t ≠ 1000000000 → w s ≤ w t + (1024 * co o + 1)
theorem ot_lb {E : Nat → Nat → Nat → Prop} {co : Nat → Nat} {g : Nat → Prop} {w : Nat → Nat} (h : ot_S E co g w) : ∀ L s C, ot_W E co g L s C → w s ≤ 1024 * C + L := by
  intro L
  induction L with
  | zero => intro s C hw; rw [h.2.1 s hw.1]; omega
  | succ L ih =>
    intro s C hw
    obtain ⟨o, t, C', he, hw', e⟩ := hw
    have a := ih t C' hw'
    rcases Classical.em (w t = 1000000000) with z | z
    · have := h.1 s; omega
    · have := h.2.2 o s t he z; omega
def ot_Q (E : Nat → Nat → Nat → Prop) (co : Nat → Nat) (g : Nat → Prop) (r : Nat) (w : Nat → Nat) : Prop := ∀ L s C, L ≤ r → ot_W E co g L s C → w s ≤ 1024 * C + L
theorem ot_Q0 {E : Nat → Nat → Nat → Prop} {co : Nat → Nat} {g : Nat → Prop} {w : Nat → Nat} (h : ∀ s, g s → w s = 0) : ot_Q E co g 0 w := by
  intro L s C hL hw
  have : L = 0 := by omega
  subst this
  rw [h s hw.1]; omega
theorem ot_Qs {E : Nat → Nat → Nat → Prop} {co : Nat → Nat} {g : Nat → Prop} {r : Nat} {w w' : Nat → Nat} (h : ot_Q E co g r w) (hle : ∀ s, w' s ≤ w s) (hI : ∀ s, w s ≤ 1000000000) (hst : ∀ o s t, E o s t → w t ≠ 1000000000 → w' s ≤ w t + (1024 * co o + 1)) : ot_Q E co g (r + 1) w' := by
  intro L s C hL hw
  cases L with
  | zero => exact Nat.le_trans (hle s) (h 0 s C (Nat.zero_le _) hw)
  | succ L =>
    obtain ⟨o, t, C', he, hw', e⟩ := hw
    have a := h L t C' (by omega) hw'
    rcases Classical.em (w t = 1000000000) with z | z
    · have := hI s; have := hle s; omega
    · have := hst o s t he z; omega
theorem ot_Qe {E : Nat → Nat → Nat → Prop} {co : Nat → Nat} {g : Nat → Prop} {r : Nat} {w : Nat → Nat} (h : ot_Q E co g r w) (hr : 1023 ≤ r) (hI : ot_I E co g w) (hi : ∀ s, w s ≤ 1000000000) (hc : ∀ o, co o ≤ 9) (hE : ∀ o s t, E o s t → s < 1024) : ot_S E co g w := by
  refine ⟨hi, fun s hs => ?_, fun o s t he ht => ?_⟩
  · have := h 0 s 0 (Nat.zero_le _) ⟨hs, rfl⟩; omega
  · rcases Nat.lt_or_ge (w t + (1024 * co o + 1)) (w s) with z | z
    · have a := ot_relax hI (hc o) (hE o s t he) he ht z
      have n0 : ot_up w s (w t + (1024 * co o + 1)) s ≠ 1000000000 := by rw [ot_us]; have := hi s; omega
      obtain ⟨C, L, e1, _, hL, _, hW⟩ := ot_Ib a n0
      have := h L s C (by omega) hW
      rw [ot_us] at e1
      omega
    · exact z
theorem ot_Wmono {E E' : Nat → Nat → Nat → Prop} {co : Nat → Nat} {g g' : Nat → Prop} (D : Nat → Prop) (hE : ∀ o s t, D s → E o s t → E' o s t ∧ D t) (hg : ∀ s, D s → g s → g' s) : ∀ L s C, D s → ot_W E co g L s C → ot_W E' co g' L s C := by
  intro L
  induction L with
  | zero => intro s C hd hw; exact ⟨hg s hd hw.1, hw.2⟩
  | succ L ih =>
    intro s C hd hw
    obtain ⟨o, t, C', he, hw', e⟩ := hw
    have q := hE o s t hd he
    exact ⟨o, t, C', q.1, ih t C' q.2 hw', e⟩
/-- a way's table is one: the first's ways are the second's -/
theorem ot_wle {E E' : Nat → Nat → Nat → Prop} {co : Nat → Nat} {g g' : Nat → Prop} {w w' : Nat → Nat} (D : Nat → Prop) (hE : ∀ o s t, D s → E o s t → E' o s t ∧ D t) (hg : ∀ s, D s → g s → g' s) (h : ot_I E co g w) (h' : ot_S E' co g' w') {s : Nat} (hs : D s) : w' s ≤ w s := by
  rcases Classical.em (w s = 1000000000) with z | z
  · rw [z]; exact h'.1 s
  · obtain ⟨C, L, e1, _, _, _, hW⟩ := ot_Ib h z
    have := ot_lb h' L s C (ot_Wmono D hE hg L s C hs hW)
    omega
/-! bounds: Z begins at 0, H p c Q: p costs c and the greatest of Q -/
def ot_D (Z : Nat → Prop) (H : Nat → Nat → (Nat → Prop) → Prop) (p k : Nat) : Prop := ∀ P : Nat → Nat → Prop, (∀ p k, Z p → P p k) → (∀ p c Q k, H p c Q → (∀ q, Q q → P q k) → P p (k + c)) → (∀ p k, P p k → P p (k + 1)) → P p k
theorem ot_Dz {Z : Nat → Prop} {H : Nat → Nat → (Nat → Prop) → Prop} {p : Nat} (k : Nat) (h : Z p) : ot_D Z H p k := fun _ h1 _ _ => h1 p k h
theorem ot_Dh {Z : Nat → Prop} {H : Nat → Nat → (Nat → Prop) → Prop} {p c k : Nat} {Q : Nat → Prop} (h : H p c Q) (hq : ∀ q, Q q → ot_D Z H q k) : ot_D Z H p (k + c) := fun P h1 h2 h3 => h2 p c Q k h (fun q z => hq q z P h1 h2 h3)
theorem ot_Dm {Z : Nat → Prop} {H : Nat → Nat → (Nat → Prop) → Prop} {p k k' : Nat} (h : ot_D Z H p k) (hk : k ≤ k') : ot_D Z H p k' := by
  obtain ⟨e, rfl⟩ : ∃ e, k' = k + e := ⟨k' - k, by omega⟩
  clear hk
  induction e with
  | zero => exact h
  | succ e ih => exact fun P h1 h2 h3 => h3 p (k + e) (ih P h1 h2 h3)
def ot_U (Z : Nat → Prop) (H : Nat → Nat → (Nat → Prop) → Prop) (b : Nat → Nat) (p : Nat) : Prop := ∃ k, ot_D Z H p k ∧ k < b p
theorem ot_rd {Z : Nat → Prop} {H : Nat → Nat → (Nat → Prop) → Prop} {b b' : Nat → Nat} {M : Nat} (hle : ∀ p, b' p ≤ b p) (hz : ∀ p, Z p → b p = 0) (hst : ∀ p c Q k, H p c Q → (∀ q, Q q → b q ≤ k) → b' p ≤ k + c) (hM : ∀ p c Q, H p c Q → p < M) (hu : ∃ p, ot_U Z H b p) : cn (ot_U Z H b') M < cn (ot_U Z H b) M := by
  rcases Classical.em (∃ a, a < M ∧ ot_U Z H b a ∧ ¬ ot_U Z H b' a) with ⟨a, ha, h1, h2⟩ | hno
  · exact cn_lt h2 h1 (fun p _ ⟨k, hk, hl⟩ => ⟨k, hk, Nat.lt_of_lt_of_le hl (hle p)⟩) ha
  · exfalso
    have hex : ∃ k, ∃ p, ot_D Z H p k ∧ k < b p := by
      obtain ⟨p, k, h1, h2⟩ := hu
      exact ⟨k, p, h1, h2⟩
    obtain ⟨m, ⟨p0, hd, hl⟩, hmin⟩ := pk_least _ hex
    have key := hd (fun p k => ot_D Z H p k ∧ (ot_U Z H b p → m < k)) (fun p k hp => ⟨ot_Dz k hp, fun ⟨j, _, hj⟩ => by rw [hz p hp] at hj; omega⟩)
      (fun p c Q k hH hq => ⟨ot_Dh hH (fun q z => (hq q z).1), fun hU => by
        rcases Classical.em (∃ q, Q q ∧ ot_U Z H b q) with ⟨q, z1, z2⟩ | hn
        · have := (hq q z1).2 z2; omega
        · have hb : ∀ q, Q q → b q ≤ k := fun q z => by
            rcases Nat.lt_or_ge k (b q) with y | y
            · exact absurd ⟨q, z, k, (hq q z).1, y⟩ hn
            · exact y
          have h1 := hst p c Q k hH hb
          rcases Classical.em (ot_U Z H b' p) with hU' | hU'
          · obtain ⟨j, hj1, hj2⟩ := hU'
            have h2 := hle p
            have h3 : ¬ j < m := fun y => hmin j y ⟨p, hj1, by omega⟩
            omega
          · exact absurd ⟨p, hM p c Q hH, hU, hU'⟩ hno⟩)
      (fun p k ⟨h1, h2⟩ => ⟨ot_Dm h1 (Nat.le_succ k), fun z => by have := h2 z; omega⟩)
    have := key.2 ⟨m, hd, hl⟩
    omega
def ot_LB (Z : Nat → Prop) (H : Nat → Nat → (Nat → Prop) → Prop) (b : Nat → Nat) : Prop := ∀ p k, ot_D Z H p k → b p ≤ k
theorem ot_LBs {Z : Nat → Prop} {H : Nat → Nat → (Nat → Prop) → Prop} {b : Nat → Nat} (hz : ∀ p, Z p → b p = 0) (hst : ∀ p c Q k, H p c Q → (∀ q, Q q → b q ≤ k) → b p ≤ k + c) : ot_LB Z H b :=
  fun p k h => h (fun p k => b p ≤ k) (fun p k hp => by rw [hz p hp]; exact Nat.zero_le _) (fun p c Q k hH hq => hst p c Q k hH hq) (fun p k h => Nat.le_succ_of_le h)
theorem ot_LB0 {Z : Nat → Prop} {H : Nat → Nat → (Nat → Prop) → Prop} {b : Nat → Nat} (h : ¬ ∃ p, ot_U Z H b p) : ot_LB Z H b := by
  intro p k hd
  rcases Nat.lt_or_ge k (b p) with y | y
  · exact absurd ⟨p, k, hd, y⟩ h
  · exact y
/-- what is finite is derived and is small; dm: the places that count -/
def ot_J (Z : Nat → Prop) (H : Nat → Nat → (Nat → Prop) → Prop) (dm : Nat → Prop) (I : Nat) (b : Nat → Nat) : Prop := ∀ p, dm p → b p < I → ot_D Z H p (b p) ∧ b p ≤ 9 * cn (fun u => b u < b p) 400
theorem ot_Jup {Z : Nat → Prop} {H : Nat → Nat → (Nat → Prop) → Prop} {dm : Nat → Prop} {I : Nat} {b : Nat → Nat} (h : ot_J Z H dm I b) {p M c z : Nat} (hD : ot_D Z H p (M + c)) (hc : c ≤ 9) (hl : M + c < b p) (hI : b p ≤ I) (hM : M = 0 ∨ ∃ q, q < 400 ∧ dm q ∧ b q = M) (hz : z < 400 ∧ b z = 0) : ot_J Z H dm I (ot_up b p (M + c)) := by
  have hle := ot_ule (w := b) (s := p) (Nat.le_of_lt hl)
  intro p' hd hp'
  rcases Classical.em (p' = p) with e | e
  · subst e
    rw [ot_us]
    refine ⟨hD, ?_⟩
    rcases Nat.eq_zero_or_pos c with c0 | c0
    · subst c0
      rcases hM with m0 | ⟨q, hq, hdq, e⟩
      · subst m0; exact Nat.zero_le _
      · have := (h q hdq (by omega)).2
        refine Nat.le_trans (by omega : M + 0 ≤ 9 * cn (fun u => b u < b q) 400) (Nat.mul_le_mul_left 9 (cn_mono fun u _ hu => ?_))
        have := hle u
        show ot_up _ _ _ u < _
        omega
    · rcases hM with m0 | ⟨q, hq, hdq, e⟩
      · subst m0
        have z1 : z ≠ p' := fun y => by rw [y] at hz; omega
        have := ot_cn1 (P := fun u => ot_up b p' (0 + c) u < 0 + c) hz.1 (by show ot_up _ _ _ z < _; rw [ot_un z1, hz.2]; omega)
        omega
      · have q1 : q ≠ p' := fun y => by rw [y] at e; omega
        have a := (h q hdq (by omega)).2
        have := cn_lt (P := fun u => b u < b q) (Q := fun u => ot_up b p' (M + c) u < M + c) (a := q) (Nat.lt_irrefl _) (by show ot_up _ _ _ q < _; rw [ot_un q1]; omega) (N := 400) (fun u _ hu => by have := hle u; show ot_up _ _ _ u < _; omega) hq
        omega
  · rw [ot_un e] at hp' ⊢
    have a := h p' hd hp'
    refine ⟨a.1, Nat.le_trans a.2 (Nat.mul_le_mul_left 9 (cn_mono fun u _ hu => ?_))⟩
    exact Nat.lt_of_le_of_lt (hle u) hu
theorem ot_Jb {Z : Nat → Prop} {H : Nat → Nat → (Nat → Prop) → Prop} {dm : Nat → Prop} {I : Nat} {b : Nat → Nat} (h : ot_J Z H dm I b) {p : Nat} (hd : dm p) (hp : b p < I) : ot_D Z H p (b p) ∧ b p ≤ 3600 := by
  have a := h p hd hp
  have := cn_le (fun u => b u < b p) 400
  exact ⟨a.1, by omega⟩
/-- the two tables of bounds tell the same -/
theorem ot_beq {Z : Nat → Prop} {H : Nat → Nat → (Nat → Prop) → Prop} {dm : Nat → Prop} {b b' : Nat → Nat} (h : ot_J Z H dm 1000000000 b) (hl : ot_LB Z H b) (h' : ∀ p, dm p → b' p < 1000000 → ot_D Z H p (b' p)) (hl' : ot_LB Z H b') {p : Nat} (hd : dm p) : (b p < 1000000000 → b' p = b p ∧ b p ≤ 3600) ∧ (¬ b p < 1000000000 → ¬ b' p < 1000000) := by
  constructor
  · intro z
    have a := ot_Jb h hd z
    have c := hl' p _ a.1
    have e := hl p _ (h' p hd (by omega))
    omega
  · intro z y
    have e := hl p _ (h' p hd y)
    omega
/-! pairs of facts -/
def ot_rs (n : Nat) (ne ef : Nat → Nat) (o f g q : Nat) : Prop := (∃ v, v < n ∧ ne (5 * o + v) ≠ 0 ∧ q = 4 * v + (ne (5 * o + v) - 1)) ∨ (q = f ∧ ef (5 * o + f / 4) = 0) ∨ (q = g ∧ ef (5 * o + g / 4) = 0)
def ot_bg (ef : Nat → Nat) (o f g : Nat) : Prop := (ef (5 * o + f / 4) = 0 ∨ ef (5 * o + f / 4) = f % 4 + 1) ∧ (ef (5 * o + g / 4) = 0 ∨ ef (5 * o + g / 4) = g % 4 + 1) ∧ (ef (5 * o + f / 4) = f % 4 + 1 ∨ ef (5 * o + g / 4) = g % 4 + 1)
def ot_H (n m : Nat) (ne ef co : Nat → Nat) (pr : Prop) (p c : Nat) (Q : Nat → Prop) : Prop := ∃ o f g, o < m ∧ f < 4 * n ∧ g < 4 * n ∧ p = 20 * f + g ∧ (pr ∨ f = g) ∧ (f = g ∨ f / 4 ≠ g / 4) ∧ ot_bg ef o f g ∧ c = co o ∧ Q = fun q => ∃ a b, ot_rs n ne ef o f g a ∧ ot_rs n ne ef o f g b ∧ (pr ∨ a = b) ∧ q = 20 * a + b
def ot_Z (n : Nat) (be : Nat → Nat) (pr : Prop) (p : Nat) : Prop := ∃ v u, v < n ∧ u < n ∧ (pr ∨ v = u) ∧ p = 20 * (4 * v + be v) + (4 * u + be u)
def ot_dm (pr : Prop) (p : Nat) : Prop := ∃ f g, f < 20 ∧ g < 20 ∧ (pr ∨ f = g) ∧ p = 20 * f + g
theorem ot_bgs {ef : Nat → Nat} {o f g : Nat} (h : ot_bg ef o f g) : ot_bg ef o g f := ⟨h.2.1, h.1, h.2.2.symm⟩
theorem ot_rss {n : Nat} {ne ef : Nat → Nat} {o f g q : Nat} (h : ot_rs n ne ef o f g q) : ot_rs n ne ef o g f q := h.elim Or.inl (fun z => Or.inr z.symm)
theorem ot_rs20 {n d : Nat} {ne ef : Nat → Nat} {o f g q : Nat} (hn : n ≤ 5) (hd : d ≤ 4) (hne : ∀ j, ne j ≤ d) (hf : f < 4 * n) (hg : g < 4 * n) (h : ot_rs n ne ef o f g q) : q < 4 * n := by
  rcases h with ⟨v, hv, h0, e⟩ | ⟨e, _⟩ | ⟨e, _⟩
  · have := hne (5 * o + v); omega
  · omega
  · omega
theorem ot_Dsym {n m d : Nat} {ne ef co be : Nat → Nat} {pr : Prop} (hn : n ≤ 5) (hd : d ≤ 4) (hne : ∀ j, ne j ≤ d) (hbe : ∀ v, v < 5 → be v < d) {f g k : Nat} (hf : f < 20) (hg : g < 20) (h : ot_D (ot_Z n be pr) (ot_H n m ne ef co pr) (20 * f + g) k) : ot_D (ot_Z n be pr) (ot_H n m ne ef co pr) (20 * g + f) k := by
  refine h (fun p k => ∀ f g, f < 20 → g < 20 → p = 20 * f + g → ot_D (ot_Z n be pr) (ot_H n m ne ef co pr) (20 * g + f) k) ?_ ?_ ?_ f g hf hg rfl
  · intro p k hz f g hf hg e
    obtain ⟨v, u, hv, hu, hp, e'⟩ := hz
    have b1 := hbe v (by omega)
    have b2 := hbe u (by omega)
    exact ot_Dz k ⟨u, v, hu, hv, hp.elim Or.inl (fun z => Or.inr z.symm), by omega⟩
  · intro p c Q k hH hq f g hf hg e
    obtain ⟨o, f', g', ho, hf', hg', e', hp, hx, hb, hc, hQ⟩ := hH
    have e1 : f' = f := by omega
    have e2 : g' = g := by omega
    subst e1 e2 hQ
    refine ot_Dh (Q := fun q => ∃ a b, ot_rs n ne ef o g' f' a ∧ ot_rs n ne ef o g' f' b ∧ (pr ∨ a = b) ∧ q = 20 * a + b) ⟨o, g', f', ho, hg', hf', rfl, hp.elim Or.inl (fun z => Or.inr z.symm), hx.elim (fun z => Or.inl z.symm) (fun z => Or.inr (fun y => z y.symm)), ot_bgs hb, hc, rfl⟩ ?_
    rintro q ⟨a, b, ha, hb', hab, rfl⟩
    have a1 := ot_rs20 hn hd hne hg' hf' ha
    have b1 := ot_rs20 hn hd hne hg' hf' hb'
    exact hq (20 * b + a) ⟨b, a, ot_rss hb', ot_rss ha, hab.elim Or.inl (fun z => Or.inr z.symm), rfl⟩ b a (by omega) (by omega) rfl
  · intro p k h f g hf hg e
    exact ot_Dm (h f g hf hg e) (Nat.le_succ k)
theorem ot_D400 {n m d : Nat} {ne ef co be : Nat → Nat} {pr : Prop} (hn : n ≤ 5) (hd : d ≤ 4) (hbe : ∀ v, v < 5 → be v < d) {p k : Nat} (h : ot_D (ot_Z n be pr) (ot_H n m ne ef co pr) p k) : p < 400 := by
  refine h (fun p _ => p < 400) ?_ ?_ ?_
  · rintro p k ⟨v, u, hv, hu, hp, e'⟩
    have b1 := hbe v (by omega)
    have b2 := hbe u (by omega)
    omega
  · rintro p c Q k ⟨o, f', g', ho, hf', hg', e', _⟩ _
    omega
  · exact fun p k h => h
theorem ot_H400 {n m : Nat} {ne ef co : Nat → Nat} {pr : Prop} (hn : n ≤ 5) {p c : Nat} {Q : Nat → Prop} (h : ot_H n m ne ef co pr p c Q) : p < 400 := by
  obtain ⟨o, f', g', ho, hf', hg', e', _⟩ := h
  omega
/-! plans without taking back -/
def ot_nd (n : Nat) (ne : Nat → Nat) (h : Nat → Prop) (o : Nat) : Prop := ∀ v, v < n → ne (5 * o + v) ≠ 0 → h (4 * v + (ne (5 * o + v) - 1))
def ot_cl (n m : Nat) (ne ef : Nat → Nat) (ch h : Nat → Prop) : Prop := ∀ o, o < m → ch o → ot_nd n ne h o → ∀ v, v < n → ef (5 * o + v) ≠ 0 → h (4 * v + (ef (5 * o + v) - 1))
def ot_F (n m : Nat) (ne ef be : Nat → Nat) (ch : Nat → Prop) (f : Nat) : Prop := ∀ P : Nat → Prop, (∀ v, v < n → P (4 * v + be v)) → ot_cl n m ne ef ch P → P f
def ot_rj (n m : Nat) (ne ef be : Nat → Nat) (ch : Nat → Prop) (j : Nat) (h : Nat → Prop) : Prop := (∀ v, v < n → h (4 * v + be v)) ∧ (∀ f, h f → ot_F n m ne ef be ch f) ∧ (ot_cl n m ne ef ch h ∨ j + 1 ≤ cn (fun o => ch o ∧ ot_nd n ne h o) m)
theorem ot_F0 {n m : Nat} {ne ef be : Nat → Nat} {ch : Nat → Prop} {v : Nat} (hv : v < n) : ot_F n m ne ef be ch (4 * v + be v) := fun _ h0 _ => h0 v hv
theorem ot_Fcl {n m : Nat} {ne ef be : Nat → Nat} {ch : Nat → Prop} : ot_cl n m ne ef ch (ot_F n m ne ef be ch) := fun o ho hc hn v hv he P h0 hP => hP o ho hc (fun u hu hz => hn u hu hz P h0 hP) v hv he
theorem ot_rj0 {n m : Nat} {ne ef be : Nat → Nat} {ch h : Nat → Prop} (h1 : ∀ v, v < n → h (4 * v + be v)) (h2 : ∀ f, h f → ot_F n m ne ef be ch f) : ot_rj n m ne ef be ch 0 h := by
  refine ⟨h1, h2, ?_⟩
  rcases Classical.em (∃ o, o < m ∧ ch o ∧ ot_nd n ne h o) with ⟨o, ho, hc, hn⟩ | hno
  · exact Or.inr (ot_cn1 (P := fun o => ch o ∧ ot_nd n ne h o) ho ⟨hc, hn⟩)
  · exact Or.inl (fun o ho hc hn => absurd ⟨o, ho, hc, hn⟩ hno)
theorem ot_rjs {n m j : Nat} {ne ef be : Nat → Nat} {ch h h' : Nat → Prop} (hj : ot_rj n m ne ef be ch j h) (hm : ∀ f, h f → h' f) (h2 : ∀ f, h' f → ot_F n m ne ef be ch f) (h3 : ∀ o, o < m → ch o → ot_nd n ne h o → ∀ v, v < n → ef (5 * o + v) ≠ 0 → h' (4 * v + (ef (5 * o + v) - 1))) : ot_rj n m ne ef be ch (j + 1) h' := by
  refine ⟨fun v hv => hm _ (hj.1 v hv), h2, ?_⟩
  rcases hj.2.2 with hc | hc
  · refine Or.inl (fun o ho hch hn v hv he => hm _ (hc o ho hch (fun u hu hz => ?_) v hv he))
    exact h2 _ (hn u hu hz) h hj.1 hc
  · rcases Classical.em (∃ o, o < m ∧ (ch o ∧ ot_nd n ne h' o) ∧ ¬ (ch o ∧ ot_nd n ne h o)) with ⟨o, ho, y1, y2⟩ | hno
    · have := cn_lt (P := fun o => ch o ∧ ot_nd n ne h o) (Q := fun o => ch o ∧ ot_nd n ne h' o) y2 y1 (N := m) (fun k _ ⟨z1, z2⟩ => ⟨z1, fun u hu hz => hm _ (z2 u hu hz)⟩) ho
      exact Or.inr (by omega)
    · refine Or.inl (fun o ho hch hn v hv he => ?_)
      rcases Classical.em (ot_nd n ne h o) with y | y
      · exact h3 o ho hch y v hv he
      · exact absurd ⟨o, ho, ⟨hch, hn⟩, fun z => y z.2⟩ hno
theorem ot_rje {n m j : Nat} {ne ef be : Nat → Nat} {ch h : Nat → Prop} (hj : ot_rj n m ne ef be ch j h) (hm : m ≤ j) (f : Nat) : h f ↔ ot_F n m ne ef be ch f := by
  refine ⟨hj.2.1 f, fun hf => ?_⟩
  rcases hj.2.2 with hc | hc
  · exact hf h hj.1 hc
  · have := cn_le (fun o => ch o ∧ ot_nd n ne h o) m
    omega
end
section
/-! numbers of the print: a value or none (0: none, x + 1: x), values in a state, one value set, the begin's bits -/
def ot_rv (x : Nat) : Int32 := nI x - 1
theorem ot_rv0 : ot_rv 0 = -1 := by decide
theorem ot_rvs (q : Nat) : ot_rv (q + 1) = nI q := nI_pred q
theorem ot_rvp {x : Nat} (h : x ≠ 0) : ot_rv x = nI (x - 1) := by
  obtain ⟨q, rfl⟩ : ∃ q, x = q + 1 := ⟨x - 1, by omega⟩
  exact ot_rvs q
theorem ot_rvm : ∀ x, x < 6 → (ot_rv x = -1 ↔ x = 0) := by decide +kernel
theorem ot_rvn : ∀ x, x < 6 → (ot_rv x < 0 ↔ x = 0) := by decide +kernel
theorem ot_rvg : ∀ x, x < 6 → (0 ≤ ot_rv x ↔ x ≠ 0) := by decide +kernel
theorem ot_rve : ∀ x, x < 6 → ∀ y, y < 6 → (ot_rv x = nI y ↔ x = y + 1) := by decide +kernel
theorem ot_2v (v : Nat) : 2 * nI v = nI (2 * v) := pk_mul 2 v
theorem ot_4v (v : Nat) : nI v * 4 = nI (v * 4) := pk_mul v 4
theorem ot_val {s v : Nat} (hs : s < 1024) (hv : v < 5) : (nI s >>> ((2 * nI v) &&& 31)) &&& 3 = nI (ot_vl s v) := by
  rw [ot_2v, pk_shrN (by omega) _ (2 * v) (s_l (2 * v) (by omega)), pk_andN (by have := Nat.div_le_self s (2 ^ (2 * v)); omega) 2 (by decide)]
  unfold ot_vl
  rw [show (2 : Nat) ^ (2 * v) = 4 ^ v from Nat.pow_mul 2 2 v]
theorem ot_set0 : ∀ t, t < 1024 → ∀ e, e < 4 → (nI t &&& (((3 : Int32) <<< (nI 0 &&& 31)) ^^^ (-1))) ||| (nI e <<< (nI 0 &&& 31)) = nI (t - t / 1 % 4 * 1 + e * 1) := by decide +kernel
theorem ot_set1 : ∀ t, t < 1024 → ∀ e, e < 4 → (nI t &&& (((3 : Int32) <<< (nI 2 &&& 31)) ^^^ (-1))) ||| (nI e <<< (nI 2 &&& 31)) = nI (t - t / 4 % 4 * 4 + e * 4) := by decide +kernel
theorem ot_set2 : ∀ t, t < 1024 → ∀ e, e < 4 → (nI t &&& (((3 : Int32) <<< (nI 4 &&& 31)) ^^^ (-1))) ||| (nI e <<< (nI 4 &&& 31)) = nI (t - t / 16 % 4 * 16 + e * 16) := by decide +kernel
theorem ot_set3 : ∀ t, t < 1024 → ∀ e, e < 4 → (nI t &&& (((3 : Int32) <<< (nI 6 &&& 31)) ^^^ (-1))) ||| (nI e <<< (nI 6 &&& 31)) = nI (t - t / 64 % 4 * 64 + e * 64) := by decide +kernel
theorem ot_set4 : ∀ t, t < 1024 → ∀ e, e < 4 → (nI t &&& (((3 : Int32) <<< (nI 8 &&& 31)) ^^^ (-1))) ||| (nI e <<< (nI 8 &&& 31)) = nI (t - t / 256 % 4 * 256 + e * 256) := by decide +kernel
theorem ot_set {t v e : Nat} (ht : t < 1024) (hv : v < 5) (he : e < 4) : (nI t &&& (((3 : Int32) <<< ((2 * nI v) &&& 31)) ^^^ (-1))) ||| (nI e <<< ((2 * nI v) &&& 31)) = nI (ot_st t v e) := by
  have h : v = 0 ∨ v = 1 ∨ v = 2 ∨ v = 3 ∨ v = 4 := by omega
  rw [ot_2v]
  rcases h with rfl | rfl | rfl | rfl | rfl
  · exact ot_set0 t ht e he
  · exact ot_set1 t ht e he
  · exact ot_set2 t ht e he
  · exact ot_set3 t ht e he
  · exact ot_set4 t ht e he
theorem ot_or0 : ∀ a, a < 1 → ∀ b, b < 4 → nI a ||| (nI b <<< (nI 0 &&& 31)) = nI (a + b * 1) := by decide +kernel
theorem ot_or1 : ∀ a, a < 4 → ∀ b, b < 4 → nI a ||| (nI b <<< (nI 2 &&& 31)) = nI (a + b * 4) := by decide +kernel
theorem ot_or2 : ∀ a, a < 16 → ∀ b, b < 4 → nI a ||| (nI b <<< (nI 4 &&& 31)) = nI (a + b * 16) := by decide +kernel
theorem ot_or3 : ∀ a, a < 64 → ∀ b, b < 4 → nI a ||| (nI b <<< (nI 6 &&& 31)) = nI (a + b * 64) := by decide +kernel
theorem ot_or4 : ∀ a, a < 256 → ∀ b, b < 4 → nI a ||| (nI b <<< (nI 8 &&& 31)) = nI (a + b * 256) := by decide +kernel
theorem ot_or {a v b : Nat} (ha : a < 4 ^ v) (hv : v < 5) (hb : b < 4) : nI a ||| (nI b <<< ((2 * nI v) &&& 31)) = nI (a + b * 4 ^ v) := by
  have h : v = 0 ∨ v = 1 ∨ v = 2 ∨ v = 3 ∨ v = 4 := by omega
  rw [ot_2v]
  rcases h with rfl | rfl | rfl | rfl | rfl
  · exact ot_or0 a ha b hb
  · exact ot_or1 a ha b hb
  · exact ot_or2 a ha b hb
  · exact ot_or3 a ha b hb
  · exact ot_or4 a ha b hb
theorem ot_pw : ∀ n, n < 6 → (1 : Int32) <<< ((2 * nI n) &&& 31) = nI (4 ^ n) := by decide +kernel
theorem ot_p2 : ∀ n, n < 11 → (1 : Int32) <<< (nI n &&& 31) = nI (2 ^ n) := by decide +kernel
theorem ot_nn {q : Nat} (h : q < 2 ^ 31) : ¬ nI q = -1 ∧ ¬ nI q < 0 ∧ 0 ≤ nI q := by
  refine ⟨fun e => ?_, nI_pos h, nI_pos' h⟩
  have a := nI_pos h
  rw [e] at a
  exact a (by decide)
end
section
/-! searches: sums, the list of the met, what it gives at its end -/
def ot_sm (w : Nat → Nat) : Nat → Nat
  | 0 => 0
  | k + 1 => ot_sm w k + w k
theorem ot_smle {w w' : Nat → Nat} (h : ∀ s, w' s ≤ w s) : ∀ N, ot_sm w' N ≤ ot_sm w N
  | 0 => Nat.le_refl _
  | N + 1 => Nat.add_le_add (ot_smle h N) (h N)
theorem ot_smlt {w w' : Nat → Nat} (h : ∀ s, w' s ≤ w s) {a : Nat} (ha : w' a < w a) : ∀ N, a < N → ot_sm w' N < ot_sm w N
  | 0, z => by omega
  | N + 1, z => by
    simp only [ot_sm]
    have b := h N
    rcases Nat.lt_or_ge a N with y | y
    · have := ot_smlt h ha N y; omega
    · have e : a = N := by omega
      subst e
      have := ot_smle h a; omega
theorem ot_split (P A : Nat → Prop) : ∀ N, cn P N = cn (fun s => P s ∧ A s) N + cn (fun s => P s ∧ ¬ A s) N
  | 0 => rfl
  | N + 1 => by
    simp only [cn]
    have := ot_split P A N
    rcases Classical.em (P N) with p | p
    · rcases Classical.em (A N) with a | a
      · rw [b01_t p, b01_t ⟨p, a⟩, b01_f (fun z => z.2 a)]; omega
      · rw [b01_t p, b01_f (fun z => a z.2), b01_t ⟨p, a⟩]; omega
    · rw [b01_f p, b01_f (fun z => p z.1), b01_f (fun z => p z.1)]; omega
theorem ot_cnupd {a : Nat → Int32} {s N : Nat} (hs : s < N) (h : ¬ a s = 1) : cn (fun k => upd a s 1 k = 1) N = cn (fun k => a k = 1) N + 1 := by
  rw [← cn_add (P := fun k => a k = 1) h hs]
  refine cn_eq fun k _ => ?_
  rcases Classical.em (k = s) with e | e
  · subst e; rw [pk_us]; exact ⟨fun _ => Or.inr rfl, fun _ => rfl⟩
  · rw [pk_un e]; exact ⟨Or.inl, fun z => z.elim id (fun y => absurd y e)⟩
/-- the list of the met so far -/
def ot_BF (R : Nat → Prop) (k : Nat) (od sn : Nat → Int32) (f : Nat → Nat) : Prop :=
  (∀ i, i < k → od i = nI (f i) ∧ f i < 1024 ∧ sn (f i) = 1 ∧ R (f i)) ∧ (∀ s, s < 1024 → sn s = 0 ∨ (sn s = 1 ∧ ∃ i, i < k ∧ f i = s)) ∧ cn (fun s => sn s = 1) 1024 = k ∧ ∀ i j, i < k → j < k → f i = f j → i = j
theorem ot_01 : ¬ (0 : Int32) = 1 := by decide
theorem ot_BFlt {R : Nat → Prop} {k : Nat} {od sn : Nat → Int32} {f : Nat → Nat} (h : ot_BF R k od sn f) {s : Nat} (hs : s < 1024) (h0 : sn s = 0) : k < 1024 := by
  have := ot_cnlt (P := fun s => sn s = 1) hs (fun z => ot_01 (h0.symm.trans z))
  have := h.2.2.1
  omega
theorem ot_BFle {R : Nat → Prop} {k : Nat} {od sn : Nat → Int32} {f : Nat → Nat} (h : ot_BF R k od sn f) : k ≤ 1024 := by
  have := cn_le (fun s => sn s = 1) 1024
  have := h.2.2.1
  omega
theorem ot_BFs {R : Nat → Prop} {k : Nat} {od sn : Nat → Int32} {f : Nat → Nat} (h : ot_BF R k od sn f) {s : Nat} (hs : s < 1024) (h0 : sn s = 0) (hR : R s) : ot_BF R (k + 1) (upd od k (nI s)) (upd sn s 1) (ot_up f k s) := by
  have hn : ∀ i, i < k → f i ≠ s := fun i hi e => by
    have := (h.1 i hi).2.2.1
    rw [e, h0] at this
    exact ot_01 this
  refine ⟨fun i hi => ?_, fun t ht => ?_, ?_, fun i j hi hj e => ?_⟩
  · rcases Classical.em (i = k) with e | e
    · subst e; rw [pk_us, ot_us]; exact ⟨rfl, hs, pk_us, hR⟩
    · have a := h.1 i (by omega)
      rw [pk_un e, ot_un e, pk_un (hn i (by omega))]
      exact a
  · rcases Classical.em (t = s) with e | e
    · subst e; exact Or.inr ⟨pk_us, k, by omega, ot_us⟩
    · rw [pk_un e]
      rcases h.2.1 t ht with z | ⟨z, i, hi, y⟩
      · exact Or.inl z
      · exact Or.inr ⟨z, i, by omega, by rw [ot_un (by omega)]; exact y⟩
  · rw [ot_cnupd hs (fun z => ot_01 (h0.symm.trans z)), h.2.2.1]
  · rcases Classical.em (i = k) with a | a
    · rcases Classical.em (j = k) with b | b
      · omega
      · exfalso
        rw [a, ot_us, ot_un b] at e
        exact hn j (by omega) e.symm
    · rcases Classical.em (j = k) with b | b
      · exfalso
        rw [b, ot_us, ot_un a] at e
        exact hn i (by omega) e
      · rw [ot_un a, ot_un b] at e
        exact h.2.2.2 i j (by omega) (by omega) e
/-- a state's move by an operator, as it is written down -/
def ot_Mv (n : Nat) (ne ef : Nat → Nat) (bo : Nat → Prop) (mv : Nat → Int32) (s o : Nat) : Prop := (¬ bo o → ot_ap n ne o s → mv (10 * s + o) = nI (ot_nx ef o s n)) ∧ (¬ (¬ bo o ∧ ot_ap n ne o s) → mv (10 * s + o) = -1)
def ot_Cl (n : Nat) (ne ef : Nat → Nat) (bo br : Nat → Prop) (sn : Nat → Int32) (s o : Nat) : Prop := ¬ bo o → ot_ap n ne o s → ¬ br (ot_nx ef o s n) → sn (ot_nx ef o s n) = 1
/-- what a search leaves: the met are those of R, each once, with their moves -/
def ot_XF (n m : Nat) (ne ef : Nat → Nat) (bo R : Nat → Prop) (k : Nat) (od mv : Nat → Int32) (f : Nat → Nat) : Prop :=
  (∀ i, i < k → od i = nI (f i) ∧ f i < 1024 ∧ R (f i)) ∧ (∀ s, R s → s < 1024 ∧ ∃ i, i < k ∧ f i = s) ∧ (∀ i j, i < k → j < k → f i = f j → i = j) ∧ k = cn R 1024 ∧ ∀ s, R s → ∀ q, q < m → ot_Mv n ne ef bo mv s q
theorem ot_XFof {n m d : Nat} {ne ef : Nat → Nat} {bo br : Nat → Prop} {s0 k : Nat} {od sn mv : Nat → Int32} {f : Nat → Nat} (hn : n ≤ 5) (hd : d ≤ 4) (he : ∀ j, ef j ≤ d) (h0 : ot_ok n d s0) (h : ot_BF (ot_R s0 br (ot_E n m ne ef bo)) k od sn f) (hc : ∀ i, i < k → ∀ q, q < m → ot_Cl n ne ef bo br sn (f i) q ∧ ot_Mv n ne ef bo mv (f i) q) (hs : ¬ br s0 → sn s0 = 1) : ot_XF n m ne ef bo (ot_R s0 br (ot_E n m ne ef bo)) k od mv f := by
  have all : ∀ s, ot_R s0 br (ot_E n m ne ef bo) s → s < 1024 ∧ sn s = 1 := fun s hR =>
    ⟨ot_ok_lt hn (ot_Rok hn hd he h0 hR), (hR (fun s => sn s = 1 ∧ ot_ok n d s) (fun z => ⟨hs z, h0⟩) (fun s t ⟨h1, h2⟩ ⟨o, ho, hb, ha, e⟩ hbr => by
      rcases h.2.1 s (ot_ok_lt hn h2) with z | ⟨_, i, hi, y⟩
      · exact absurd (z.symm.trans h1) ot_01
      · have := (hc i hi o ho).1
        rw [y] at this
        subst e
        exact ⟨this hb ha hbr, ot_nx_ok hn hd he h2 n (Nat.le_refl _)⟩)).1⟩
  have mem : ∀ s, ot_R s0 br (ot_E n m ne ef bo) s → ∃ i, i < k ∧ f i = s := fun s hR => by
    rcases h.2.1 s (all s hR).1 with z | ⟨_, y⟩
    · exact absurd (z.symm.trans (all s hR).2) ot_01
    · exact y
  refine ⟨fun i hi => ⟨(h.1 i hi).1, (h.1 i hi).2.1, (h.1 i hi).2.2.2⟩, fun s hR => ⟨(all s hR).1, mem s hR⟩, h.2.2.2, ?_, fun s hR q hq => ?_⟩
  · rw [← h.2.2.1]
    refine cn_eq fun s hs => ⟨fun z => ?_, fun z => (all s z).2⟩
    rcases h.2.1 s hs with y | ⟨_, i, hi, y⟩
    · exact absurd (y.symm.trans z) ot_01
    · rw [← y]; exact (h.1 i hi).2.2.2
  · obtain ⟨i, hi, e⟩ := mem s hR
    have := (hc i hi q hq).2
    rw [e] at this
    exact this
/-- counting over the list is counting over the states -/
theorem ot_cnt {f : Nat → Nat} {k : Nat} (hl : ∀ i, i < k → f i < 1024) (hi : ∀ i j, i < k → j < k → f i = f j → i = j) (A : Nat → Prop) : ∀ i, i < k → cn (fun s => ∃ j, j < i + 1 ∧ f j = s ∧ A s) 1024 = cn (fun s => ∃ j, j < i ∧ f j = s ∧ A s) 1024 + b01 (A (f i)) := by
  intro i hik
  rcases Classical.em (A (f i)) with a | a
  · rw [b01_t a, ← cn_add (P := fun s => ∃ j, j < i ∧ f j = s ∧ A s) (a := f i) (fun ⟨j, hj, e, _⟩ => by have := hi j i (by omega) hik e; omega) (hl i hik)]
    refine cn_eq fun s _ => ⟨fun ⟨j, hj, e, z⟩ => ?_, fun z => ?_⟩
    · rcases Classical.em (j = i) with q | q
      · subst q; exact Or.inr e.symm
      · exact Or.inl ⟨j, by omega, e, z⟩
    · rcases z with ⟨j, hj, e, z⟩ | z
      · exact ⟨j, by omega, e, z⟩
      · exact ⟨i, by omega, z.symm, by rw [z]; exact a⟩
  · have h1 : ∀ s, s < 1024 → ((∃ j, j < i + 1 ∧ f j = s ∧ A s) ↔ (∃ j, j < i ∧ f j = s ∧ A s)) := fun s _ => by
      constructor
      · intro ⟨j, hj, e, z⟩
        rcases Classical.em (j = i) with q | q
        · subst q; rw [← e] at z; exact absurd z a
        · exact ⟨j, by omega, e, z⟩
      · intro ⟨j, hj, e, z⟩
        exact ⟨j, by omega, e, z⟩
    have h2 := cn_eq h1
    have h3 := b01_f a
    rw [h2, h3]
    exact (Nat.add_zero _).symm
theorem ot_cnt0 {f : Nat → Nat} (A : Nat → Prop) : cn (fun s => ∃ j, j < 0 ∧ f j = s ∧ A s) 1024 = 0 := by
  refine Eq.trans (cn_eq fun s _ => ⟨fun ⟨j, hj, _⟩ => ?_, fun z => z.elim⟩) (ot_cnF 1024)
  omega
theorem ot_cnte {R : Nat → Prop} {f : Nat → Nat} {k : Nat} (h1 : ∀ i, i < k → R (f i)) (h2 : ∀ s, R s → ∃ i, i < k ∧ f i = s) (A : Nat → Prop) : cn (fun s => ∃ j, j < k ∧ f j = s ∧ A s) 1024 = cn (fun s => R s ∧ A s) 1024 :=
  cn_eq fun s _ => ⟨fun ⟨j, hj, e, z⟩ => ⟨by rw [← e]; exact h1 j hj, z⟩, fun ⟨r, z⟩ => by obtain ⟨i, hi, e⟩ := h2 s r; exact ⟨i, hi, e, z⟩⟩
end
section
/-! the component: the task that both keep, values, begin, needs and goal, next state -/
def ot_T (n d m : Nat) (co ne ef be go : Nat → Nat) (aC aN aE aB aG : Nat → Int32) : Prop :=
  ((1 ≤ n ∧ n ≤ 5) ∧ (2 ≤ d ∧ d ≤ 4) ∧ m ≤ 10) ∧ ((∀ j, j < 10 → aC j = nI (co j)) ∧ ∀ j, co j ≤ 9) ∧ ((∀ j, j < 50 → aN j = ot_rv (ne j)) ∧ ∀ j, ne j ≤ d) ∧ ((∀ j, j < 50 → aE j = ot_rv (ef j)) ∧ ∀ j, ef j ≤ d) ∧ ((∀ j, j < 5 → aB j = nI (be j)) ∧ ∀ j, be j < d) ∧ ((∀ j, j < 5 → aG j = ot_rv (go j)) ∧ ∀ j, go j ≤ d)
section
variable {n d m : Nat} {co ne ef be go : Nat → Nat} {aC aN aE aB aG od sn mv rm bd ls ah : Nat → Int32} {mt lc : Int32}
theorem ot_s0 (T : ot_T n d m co ne ef be go aC aN aE aB aG) : ot_ok n d (ot_bs be n) := by
  obtain ⟨⟨⟨hn1, hn⟩, ⟨hd1, hd⟩, hm⟩, ⟨hC, hco⟩, ⟨hN, hne⟩, ⟨hE, hef⟩, ⟨hB, hbe⟩, ⟨hG, hgo⟩⟩ := T
  exact ot_bs_ok hd (fun v _ => hbe v) n hn
theorem ot_s0k (T : ot_T n d m co ne ef be go aC aN aE aB aG) {k : Nat} (hk : k ≤ n) : ot_bs be k < 4 ^ k := by
  obtain ⟨⟨⟨hn1, hn⟩, ⟨hd1, hd⟩, hm⟩, ⟨hC, hco⟩, ⟨hN, hne⟩, ⟨hE, hef⟩, ⟨hB, hbe⟩, ⟨hG, hgo⟩⟩ := T
  exact (ot_bs_ok hd (fun v _ => hbe v) k (by omega)).1
theorem ox_val {s v : Nat} {post : Int32 → Prop} (hs : s < 1024) (hv : v < 5) (h : post (nI (ot_vl s v))) : wpX_valueIn post (nI s) (nI v) := by
  unfold wpX_valueIn
  rw [ot_val hs hv]
  exact h
theorem ox_begin (T : ot_T n d m co ne ef be go aC aN aE aB aG) {post : Int32 → Prop} (h : post (nI (ot_bs be n))) : wpX_beginState post (nI n, nI d, nI m, mt, lc, aC, aN, aE, aB, aG, od, sn, mv, rm, bd, ls, ah) := by
  have hs := fun k (hk : k ≤ n) => ot_s0k T hk
  obtain ⟨⟨⟨hn1, hn⟩, ⟨hd1, hd⟩, hm⟩, ⟨hC, hco⟩, ⟨hN, hne⟩, ⟨hE, hef⟩, ⟨hB, hbe⟩, ⟨hG, hgo⟩⟩ := T
  refine loop_0 (σ := Unit) (fun k v _ => wX_beginState_4 post (nI n) (nI d) (nI m) mt lc aC aN aE aB aG od sn mv rm bd ls ah k (nI (ot_bs be v)) (nI v)) (fun _ _ => True) n () trivial ?_ ?_
  · intro k _ _
    exact br_t (nI_le (Nat.le_refl _) (by omega)) h
  · intro k v _ hv _ ih
    refine br_f (nI_ge hv (by omega)) ⟨vp_in_nI (by omega) (by omega), nm_r (e' := nI (ot_bs be (v + 1))) ?_ (nm_r (nI_1 v) (ih () trivial))⟩
    have b := hbe v
    rw [nI_clamp (by omega), hB v (by omega)]
    exact ot_or (hs v (by omega)) (by omega) (by omega)
theorem ox_hasN (T : ot_T n d m co ne ef be go aC aN aE aB aG) {s o : Nat} (hs : s < 1024) (ho : o < 10) {x3 : Int32} (e3 : x3 = nI (5 * o)) {post : Int32 → Prop} (h1 : ot_ap n ne o s → post 1) (h0 : ¬ ot_ap n ne o s → post 0) : wpX_hasAll__needs post (nI n, nI d, nI m, mt, lc, aC, aN, aE, aB, aG, od, sn, mv, rm, bd, ls, ah) (nI s) x3 := by
  subst e3
  obtain ⟨⟨⟨hn1, hn⟩, ⟨hd1, hd⟩, hm⟩, ⟨hC, hco⟩, ⟨hN, hne⟩, ⟨hE, hef⟩, ⟨hB, hbe⟩, ⟨hG, hgo⟩⟩ := T
  refine loop_0 (σ := Unit) (fun k v _ => wX_hasAll__needs_3 post (nI s) (nI (5 * o)) (nI n) (nI d) (nI m) mt lc aC aN aE aB aG od sn mv rm bd ls ah k (nI v)) (fun v _ => ∀ u, u < v → ne (5 * o + u) = 0 ∨ ne (5 * o + u) = ot_vl s u + 1) n () (fun u hu => by omega) ?_ ?_
  · intro k _ hI
    exact br_t (nI_le (Nat.le_refl _) (by omega)) (h1 hI)
  · intro k v _ hv hI ih
    have b := hne (5 * o + v)
    have v4 := ot_vl4 s v
    refine br_f (nI_ge hv (by omega)) ⟨by rw [nI_add]; exact vp_in_nI (by omega) (by omega), nm_r (e' := ot_rv (ne (5 * o + v))) (by rw [nI_add, nI_clamp (by omega), hN _ (by omega)]) ?_⟩
    rcases Classical.em (ne (5 * o + v) = 0) with z | z
    · exact br_t ((ot_rvm _ (by omega)).mpr z) (nm_r (nI_1 v) (ih () (lt_s hI (Or.inl z))))
    · refine br_f (fun y => z ((ot_rvm _ (by omega)).mp y)) (ox_val hs (by omega) ?_)
      rcases Classical.em (ne (5 * o + v) = ot_vl s v + 1) with y | y
      · exact br_t ((ot_rve _ (by omega) _ (by omega)).mpr y) (nm_r (nI_1 v) (ih () (lt_s hI (Or.inr y))))
      · exact br_f (fun q => y ((ot_rve _ (by omega) _ (by omega)).mp q)) (h0 fun q => (q v hv).elim z y)
theorem ox_hasG (T : ot_T n d m co ne ef be go aC aN aE aB aG) {s : Nat} (hs : s < 1024) {post : Int32 → Prop} (h1 : ot_gl n go s → post 1) (h0 : ¬ ot_gl n go s → post 0) : wpX_hasAll__goals post (nI n, nI d, nI m, mt, lc, aC, aN, aE, aB, aG, od, sn, mv, rm, bd, ls, ah) (nI s) 0 := by
  obtain ⟨⟨⟨hn1, hn⟩, ⟨hd1, hd⟩, hm⟩, ⟨hC, hco⟩, ⟨hN, hne⟩, ⟨hE, hef⟩, ⟨hB, hbe⟩, ⟨hG, hgo⟩⟩ := T
  refine loop_0 (σ := Unit) (fun k v _ => wX_hasAll__goals_3 post (nI s) 0 (nI n) (nI d) (nI m) mt lc aC aN aE aB aG od sn mv rm bd ls ah k (nI v)) (fun v _ => ∀ u, u < v → go u = 0 ∨ go u = ot_vl s u + 1) n () (fun u hu => by omega) ?_ ?_
  · intro k _ hI
    exact br_t (nI_le (Nat.le_refl _) (by omega)) (h1 hI)
  · intro k v _ hv hI ih
    have b := hgo v
    have v4 := ot_vl4 s v
    have e0 : (0 : Int32) + nI v = nI v := Int32.zero_add _
    refine br_f (nI_ge hv (by omega)) ⟨by rw [e0]; exact vp_in_nI (by omega) (by omega), nm_r (e' := ot_rv (go v)) (by rw [e0, nI_clamp (by omega), hG _ (by omega)]) ?_⟩
    rcases Classical.em (go v = 0) with z | z
    · exact br_t ((ot_rvm _ (by omega)).mpr z) (nm_r (nI_1 v) (ih () (lt_s hI (Or.inl z))))
    · refine br_f (fun y => z ((ot_rvm _ (by omega)).mp y)) (ox_val hs (by omega) ?_)
      rcases Classical.em (go v = ot_vl s v + 1) with y | y
      · exact br_t ((ot_rve _ (by omega) _ (by omega)).mpr y) (nm_r (nI_1 v) (ih () (lt_s hI (Or.inr y))))
      · exact br_f (fun q => y ((ot_rve _ (by omega) _ (by omega)).mp q)) (h0 fun q => (q v hv).elim z y)
theorem ox_after (T : ot_T n d m co ne ef be go aC aN aE aB aG) {s o : Nat} (hs : ot_ok n d s) (ho : o < 10) {post : Int32 → Prop} (h : post (nI (ot_nx ef o s n))) : wpX_stateAfter post (nI n, nI d, nI m, mt, lc, aC, aN, aE, aB, aG, od, sn, mv, rm, bd, ls, ah) (nI s) (nI o) := by
  obtain ⟨⟨⟨hn1, hn⟩, ⟨hd1, hd⟩, hm⟩, ⟨hC, hco⟩, ⟨hN, hne⟩, ⟨hE, hef⟩, ⟨hB, hbe⟩, ⟨hG, hgo⟩⟩ := T
  refine loop_0 (σ := Unit) (fun k v _ => wX_stateAfter_5 post (nI o) (nI n) (nI d) (nI m) mt lc aC aN aE aB aG od sn mv rm bd ls ah k (nI (ot_nx ef o s v)) (nI v)) (fun _ _ => True) n () trivial ?_ ?_
  · intro k _ _
    exact br_t (nI_le (Nat.le_refl _) (by omega)) h
  · intro k v _ hv _ ih
    have b := hef (5 * o + v)
    have e5 : nI o * 5 + nI v = nI (5 * o + v) := by rw [show nI o * 5 = nI (o * 5) from pk_mul o 5, nI_add, Nat.mul_comm]
    have hx := ot_ok_lt hn (ot_nx_ok (o := o) hn hd hef hs v (by omega))
    refine br_f (nI_ge hv (by omega)) ⟨by rw [e5]; exact vp_in_nI (by omega) (by omega), nm_r (e' := ot_rv (ef (5 * o + v))) (by rw [e5, nI_clamp (by omega), hE _ (by omega)]) ?_⟩
    rcases Classical.em (ef (5 * o + v) = 0) with z | z
    · refine br_t ((ot_rvm _ (by omega)).mpr z) (nm_r (nI_1 v) ?_)
      have := ih () trivial
      rw [ot_nx_0 z] at this
      exact this
    · refine br_f (fun y => z ((ot_rvm _ (by omega)).mp y)) (nm_r (e' := nI (ot_nx ef o s (v + 1))) ?_ (nm_r (nI_1 v) (ih () trivial)))
      rw [ot_rvp z, ot_nx_1 z]
      exact ot_set hx (by omega) (by omega)
/-- a barred fact, or none -/
def ot_bf (p : Int32) (br : Nat → Prop) : Prop := (p = -1 ∧ ∀ s, ¬ br s) ∨ ∃ f, f < 20 ∧ p = nI f ∧ ∀ s, br s ↔ ot_vl s (f / 4) = f % 4
theorem ox_meet {s k : Nat} {p1 : Int32} {br : Nat → Prop} (hs : s < 1024) (hb : ot_bf p1 br) (hsn : sn s = 0 ∨ sn s = 1) (hk : sn s = 0 → k < 1024) {post : SX → Prop} (h1 : sn s = 1 ∨ br s → post (nI n, nI d, nI m, nI k, lc, aC, aN, aE, aB, aG, od, sn, mv, rm, bd, ls, ah)) (h2 : sn s = 0 → ¬ br s → post (nI n, nI d, nI m, nI (k + 1), lc, aC, aN, aE, aB, aG, upd od k (nI s), upd sn s 1, mv, rm, bd, ls, ah)) : wpX_meet post (nI n, nI d, nI m, nI k, lc, aC, aN, aE, aB, aG, od, sn, mv, rm, bd, ls, ah) (nI s) p1 := by
  have c : (nI s).toNatClampNeg = s := nI_clamp (by omega)
  have i : vp_in (nI s) 1024 := vp_in_nI hs (by omega)
  rcases hsn with z | z
  · have ck : (nI k).toNatClampNeg = k := nI_clamp (by have := hk z; omega)
    have ik : vp_in (nI k) 1024 := vp_in_nI (hk z) (by omega)
    have fin : ¬ br s → wX_meet_29 post (nI s) (nI n) (nI d) (nI m) (nI k) lc aC aN aE aB aG od sn mv rm bd ls ah := fun y => by
      unfold wX_meet_29
      refine ⟨i, nm_r (e' := upd sn s 1) (by rw [c]; rfl) ⟨ik, nm_r (e' := upd od k (nI s)) (by rw [ck]) (nm_r (nI_1 k) (h2 z y))⟩⟩
    refine ⟨i, br_t (by rw [c]; exact z) ?_⟩
    rcases hb with ⟨e, hn⟩ | ⟨f, hf, e, hb⟩
    · exact br_t e (fin (hn s))
    · subst e
      have e4 : nI f / 4 = nI (f / 4) := pk_div (d := 4) (by omega) (by omega) (by omega)
      have e5 : nI f - nI f / 4 * 4 = nI (f % 4) := pk_rem (d := 4) (by omega) (by omega) (by omega)
      refine br_f (ot_nn (by omega)).1 ⟨by decide, ?_⟩
      rw [e4] 
      refine ox_val hs (by omega) ⟨by decide, ?_⟩
      rw [← e4, e5]
      have v4 := ot_vl4 s (f / 4)
      rcases Classical.em (br s) with y | y
      · exact br_t ((nI_eq (by omega) (by omega)).mpr ((hb s).mp y)) (h1 (Or.inr y))
      · exact br_f (fun q => y ((hb s).mpr ((nI_eq (by omega) (by omega)).mp q))) (fin y)
  · exact ⟨i, br_f (by rw [c, z]; decide) (h1 (Or.inl z))⟩
end
end
section
/-! the component's search -/
def ot_bop (p : Int32) (bo : Nat → Prop) : Prop := ∀ o, o < 10 → (nI o = p ↔ bo o)
def ot_EI (n m : Nat) (ne ef : Nat → Nat) (bo br R : Nat → Prop) (s0 h o k : Nat) (od sn mv : Nat → Int32) (f : Nat → Nat) : Prop :=
  ot_BF R k od sn f ∧ (¬ br s0 → sn s0 = 1) ∧ ∀ i q, i < k → q < m → (i < h ∨ (i = h ∧ q < o)) → ot_Cl n ne ef bo br sn (f i) q ∧ ot_Mv n ne ef bo mv (f i) q
theorem ot_EInext {n m : Nat} {ne ef : Nat → Nat} {bo br R : Nat → Prop} {s0 h o k : Nat} {od sn mv : Nat → Int32} {f : Nat → Nat} (H : ot_EI n m ne ef bo br R s0 h o k od sn mv f) (ho : m ≤ o) : ot_EI n m ne ef bo br R s0 (h + 1) 0 k od sn mv f :=
  ⟨H.1, H.2.1, fun i q hi hq z => H.2.2 i q hi hq (by omega)⟩
theorem ot_EIput {n m : Nat} {ne ef : Nat → Nat} {bo br R : Nat → Prop} {s0 h o k s : Nat} {od sn mv : Nat → Int32} {f : Nat → Nat} {x : Int32} (H : ot_EI n m ne ef bo br R s0 h o k od sn mv f) (hm : m ≤ 10) (ho : o < m) (hh : h < k) (e : f h = s) (hc : ot_Cl n ne ef bo br sn s o) (h1 : ¬ bo o → ot_ap n ne o s → x = nI (ot_nx ef o s n)) (h2 : ¬ (¬ bo o ∧ ot_ap n ne o s) → x = -1) : ot_EI n m ne ef bo br R s0 h (o + 1) k od sn (upd mv (10 * s + o) x) f := by
  refine ⟨H.1, H.2.1, fun i q hi hq z => ?_⟩
  rcases Classical.em (i = h ∧ q = o) with ⟨y1, y2⟩ | y
  · subst y1 y2
    rw [e]
    refine ⟨hc, fun a b => ?_, fun a => ?_⟩
    · rw [pk_us]; exact h1 a b
    · rw [pk_us]; exact h2 a
  · have a := H.2.2 i q hi hq (by omega)
    have ne1 : 10 * f i + q ≠ 10 * s + o := fun w => by
      have : f i = s := by omega
      have := H.1.2.2.2 i h hi hh (this.trans e.symm)
      omega
    refine ⟨a.1, fun b c => ?_, fun b => ?_⟩
    · rw [pk_un ne1]; exact a.2.1 b c
    · rw [pk_un ne1]; exact a.2.2 b
theorem ot_EImeet {n m : Nat} {ne ef : Nat → Nat} {bo br R : Nat → Prop} {s0 h o k t : Nat} {od sn mv : Nat → Int32} {f : Nat → Nat} (H : ot_EI n m ne ef bo br R s0 h o k od sn mv f) (ht : t < 1024) (hk : h < k) (h0 : sn t = 0) (hR : R t) : ot_EI n m ne ef bo br R s0 h o (k + 1) (upd od k (nI t)) (upd sn t 1) mv (ot_up f k t) := by
  have mono : ∀ x, sn x = 1 → upd sn t 1 x = 1 := fun x hx => by
    rcases Classical.em (x = t) with e | e
    · rw [e, pk_us]
    · rw [pk_un e]; exact hx
  refine ⟨ot_BFs H.1 ht h0 hR, fun z => mono _ (H.2.1 z), fun i q hi hq z => ?_⟩
  have a := H.2.2 i q (by omega) hq z
  rw [ot_un (by omega)]
  exact ⟨fun b c e => mono _ (a.1 b c e), a.2⟩
section
variable {n d m : Nat} {co ne ef be go : Nat → Nat} {aC aN aE aB aG rm bd ls ah : Nat → Int32} {lc : Int32} {bo br : Nat → Prop} {x1 x2 : Int32}
theorem ox_ex70 (T : ot_T n d m co ne ef be go aC aN aE aB aG) (hb : ot_bf x1 br) (hp : ot_bop x2 bo) {post : SX → Prop} {J : Int32 → Int32 → Int32 → Int32 → Int32 → Int32 → (Nat → Int32) → (Nat → Int32) → (Nat → Int32) → (Nat → Int32) → (Nat → Int32) → (Nat → Int32) → (Nat → Int32) → (Nat → Int32) → (Nat → Int32) → (Nat → Int32) → (Nat → Int32) → (Nat → Int32) → Prop} {s h : Nat} (hh : h < 1024)
    (hJ : ∀ k od sn mv f, ot_EI n m ne ef bo br (ot_R (ot_bs be n) br (ot_E n m ne ef bo)) (ot_bs be n) (h + 1) 0 k od sn mv f → h < k → J (nI (h + 1)) (nI n) (nI d) (nI m) (nI k) lc aC aN aE aB aG od sn mv rm bd ls ah) :
    ∀ fu o k od sn mv f, o ≤ m → m - o < fu → ot_EI n m ne ef bo br (ot_R (ot_bs be n) br (ot_E n m ne ef bo)) (ot_bs be n) h o k od sn mv f → h < k → f h = s → wX_explore_70 post J x1 x2 (nI h) (nI s) fu (nI o) (nI n) (nI d) (nI m) (nI k) lc aC aN aE aB aG od sn mv rm bd ls ah := by
  have s0ok := ot_s0 T
  have T0 := T
  obtain ⟨⟨⟨hn1, hn⟩, ⟨hd1, hd⟩, hm⟩, ⟨hC, hco⟩, ⟨hN, hne⟩, ⟨hE, hef⟩, ⟨hB, hbe⟩, ⟨hG, hgo⟩⟩ := T
  intro fu
  induction fu with
  | zero => intro o k od sn mv f _ h; omega
  | succ fu ih =>
  intro o k od sn mv f hom hfu H hk hs
  rcases Nat.lt_or_ge o m with z | z
  · have hR : ot_R (ot_bs be n) br (ot_E n m ne ef bo) s := by have := (H.1.1 h hk).2.2.2; rw [hs] at this; exact this
    have sok := ot_Rok hn hd hef s0ok hR
    have slt := ot_ok_lt hn sok
    have e10 : nI s * 10 + nI o = nI (10 * s + o) := by rw [show nI s * 10 = nI (s * 10) from pk_mul s 10, nI_add, Nat.mul_comm]
    have st : ∀ k' od' sn' f' x7, ot_EI n m ne ef bo br (ot_R (ot_bs be n) br (ot_E n m ne ef bo)) (ot_bs be n) h o k' od' sn' mv f' → h < k' → f' h = s → ot_Cl n ne ef bo br sn' s o → (¬ bo o → ot_ap n ne o s → x7 = nI (ot_nx ef o s n)) → (¬ (¬ bo o ∧ ot_ap n ne o s) → x7 = -1) →
        wX_explore_122 post J (wX_explore_70 post J x1 x2 (nI h) (nI s) fu) x1 x2 (nI h) (nI s) (nI o) x7 (nI n) (nI d) (nI m) (nI k') lc aC aN aE aB aG od' sn' mv rm bd ls ah := fun k' od' sn' f' x7 H' hk' hs' hc q1 q2 =>
      ⟨by rw [e10]; exact vp_in_nI (by omega) (by omega), nm_r (e' := upd mv (10 * s + o) x7) (by rw [e10, nI_clamp (by omega)]) (nm_r (nI_1 o) (ih (o + 1) k' od' sn' _ f' (by omega) (by omega) (ot_EIput H' hm z hk' hs' hc q1 q2) hk' hs'))⟩
    refine br_f (nI_ge z (by omega)) ?_
    rcases Classical.em (bo o) with y | y
    · exact br_t ((hp o (by omega)).mpr y) (st k od sn f (-1) H hk hs (fun w => absurd y w) (fun w => absurd y w) (fun _ => rfl))
    · refine br_f (fun w => y ((hp o (by omega)).mp w)) (ox_hasN (o := o) T0 slt (by omega) (by rw [show nI o * 5 = nI (o * 5) from pk_mul o 5, Nat.mul_comm]) (fun ha => ?_) (fun ha => ?_))
      · refine br_f (by decide) (ox_after T0 sok (by omega) ?_)
        have tok := ot_nx_ok (o := o) hn hd hef sok n (Nat.le_refl _)
        have tlt := ot_ok_lt hn tok
        refine ox_meet tlt hb ((H.1.2.1 _ tlt).imp id (fun w => w.1)) (fun w => ot_BFlt H.1 tlt w) (fun w => ?_) (fun w1 w2 => ?_)
        · exact st k od sn f _ H hk hs (fun _ _ c => w.elim id (fun b => absurd b c)) (fun _ _ => rfl) (fun b => absurd ⟨y, ha⟩ b)
        · exact st (k + 1) _ _ (ot_up f k (ot_nx ef o s n)) _ (ot_EImeet H tlt hk w1 (ot_Rs hR ⟨o, z, y, ha, rfl⟩ w2)) (by omega) (by rw [ot_un (by omega)]; exact hs) (fun _ _ _ => pk_us) (fun _ _ => rfl) (fun b => absurd ⟨y, ha⟩ b)
      · exact br_t rfl (st k od sn f (-1) H hk hs (fun _ w => absurd w ha) (fun _ w => absurd w ha) (fun _ => rfl))
  · exact br_t (nI_le z (by omega)) (nm_r (nI_1 h) (hJ k od sn mv f (ot_EInext H z) hk))
theorem ox_ex41 (T : ot_T n d m co ne ef be go aC aN aE aB aG) (hb : ot_bf x1 br) (hp : ot_bop x2 bo) {post : SX → Prop}
    (hP : ∀ k od sn mv f, ot_XF n m ne ef bo (ot_R (ot_bs be n) br (ot_E n m ne ef bo)) k od mv f → post (nI n, nI d, nI m, nI k, lc, aC, aN, aE, aB, aG, od, sn, mv, rm, bd, ls, ah)) :
    ∀ fu h k od sn mv f, 1024 - h < fu → h ≤ k → ot_EI n m ne ef bo br (ot_R (ot_bs be n) br (ot_E n m ne ef bo)) (ot_bs be n) h 0 k od sn mv f → wX_explore_41 post x1 x2 fu (nI h) (nI n) (nI d) (nI m) (nI k) lc aC aN aE aB aG od sn mv rm bd ls ah := by
  have s0ok := ot_s0 T
  have T0 := T
  obtain ⟨⟨⟨hn1, hn⟩, ⟨hd1, hd⟩, hm⟩, ⟨hC, hco⟩, ⟨hN, hne⟩, ⟨hE, hef⟩, ⟨hB, hbe⟩, ⟨hG, hgo⟩⟩ := T
  intro fu
  induction fu with
  | zero => intro h k od sn mv f h; omega
  | succ fu ih =>
  intro h k od sn mv f hfu hhk H
  have hk := ot_BFle H.1
  rcases Nat.lt_or_ge h k with z | z
  · have e := H.1.1 h z
    have := ox_ex70 (rm := rm) (bd := bd) (ls := ls) (ah := ah) (lc := lc) (post := post) (J := wX_explore_41 post x1 x2 fu) T0 hb hp (s := f h) (h := h) (by omega) (fun k' od' sn' mv' f' H' hk' => ih (h + 1) k' od' sn' mv' f' (by omega) (by omega) H') (m + 1) 0 k od sn mv f (Nat.zero_le _) (by omega) H z rfl
    exact br_f (nI_ge z (by omega)) (br_f (nI_ge (b := 1024) (by omega) (by decide)) ⟨vp_in_nI (by omega) (by omega), nm_r (e' := nI (f h)) (by rw [nI_clamp (by omega), e.1]) ⟨_, this⟩⟩)
  · refine br_t (nI_le z (by omega)) (hP k od sn mv f (ot_XFof hn hd hef s0ok H.1 (fun i hi q hq => H.2.2 i q hi hq (Or.inl (by omega))) H.2.1))
theorem ox_explore (T : ot_T n d m co ne ef be go aC aN aE aB aG) {od sn mv : Nat → Int32} {mt : Int32} (hb : ot_bf x1 br) (hp : ot_bop x2 bo) {post : SX → Prop}
    (hP : ∀ k od sn mv f, ot_XF n m ne ef bo (ot_R (ot_bs be n) br (ot_E n m ne ef bo)) k od mv f → post (nI n, nI d, nI m, nI k, lc, aC, aN, aE, aB, aG, od, sn, mv, rm, bd, ls, ah)) : wpX_explore post (nI n, nI d, nI m, mt, lc, aC, aN, aE, aB, aG, od, sn, mv, rm, bd, ls, ah) x1 x2 := by
  have s0ok := ot_s0 T
  have T0 := T
  obtain ⟨⟨⟨hn1, hn⟩, ⟨hd1, hd⟩, hm⟩, ⟨hC, hco⟩, ⟨hN, hne⟩, ⟨hE, hef⟩, ⟨hB, hbe⟩, ⟨hG, hgo⟩⟩ := T
  have slt := ot_ok_lt hn s0ok
  refine loop_0 (fun k i (sn : Nat → Int32) => wX_explore_2 post x1 x2 (nI n) (nI d) (nI m) mt lc k (nI i) aC aN aE aB aG od sn mv rm bd ls ah) (fun i sn => ∀ j, j < i → sn j = 0) 1024 sn (fun j hj => by omega) ?_ ?_
  · intro k sn hI
    refine br_t (nI_le (a := 1024) (b := 1024) (by omega) (by omega)) (ox_begin T0 ?_)
    have hB0 : ot_BF (ot_R (ot_bs be n) br (ot_E n m ne ef bo)) 0 od sn (fun _ => 0) := ⟨fun i hi => by omega, fun s hs => Or.inl (hI s hs), Eq.trans (cn_eq fun s hs => ⟨fun w => ot_01 ((hI s hs).symm.trans w), fun w => w.elim⟩) (ot_cnF 1024), fun i j hi => by omega⟩
    refine ox_meet (k := 0) slt hb (Or.inl (hI _ slt)) (fun _ => by omega) (fun w => ?_) (fun w1 w2 => ?_)
    · exact ⟨1025, ox_ex41 T0 hb hp hP 1025 0 0 od sn mv (fun _ => 0) (by omega) (by omega) ⟨hB0, fun y => w.elim id (fun b => absurd b y), fun i q hi => by omega⟩⟩
    · exact ⟨1025, ox_ex41 T0 hb hp hP 1025 0 1 _ _ mv (ot_up (fun _ => 0) 0 (ot_bs be n)) (by omega) (by omega) ⟨ot_BFs hB0 slt w1 (ot_R0 w2), fun _ => pk_us, fun i q hi hq y => by omega⟩⟩
  · intro k i sn hi hI ih
    refine br_f (nI_ge (b := 1024) hi (by decide)) ⟨vp_in_nI hi (by omega), nm_r (e' := upd sn i 0) (by rw [nI_clamp (by omega)]; rfl) (nm_r (nI_1 i) (ih _ ?_))⟩
    exact lt_s (fun j hj => by rw [pk_un (by omega)]; exact hI j hj) pk_us
end
end
section
/-! the component's ways -/
def ot_EX (n m : Nat) (ne ef : Nat → Nat) (R : Nat → Prop) (o s t : Nat) : Prop := R s ∧ o < m ∧ ot_ap n ne o s ∧ t = ot_nx ef o s n
def ot_RM (R : Nat → Prop) (w : Nat → Nat) (rm : Nat → Int32) : Prop := (∀ s, w s ≤ 1000000000) ∧ (∀ s, R s → rm s = nI (w s)) ∧ ∀ s, ¬ R s → w s = 1000000000
def ot_wy (n : Nat) (ne ef co w : Nat → Nat) (o s x : Nat) : Prop := (ot_ap n ne o s → w (ot_nx ef o s n) ≠ 1000000000 → x = w (ot_nx ef o s n) + (1024 * co o + 1)) ∧ (¬ (ot_ap n ne o s ∧ w (ot_nx ef o s n) ≠ 1000000000) → x = 1000000000)
/-- a round so far: w0 at its beginning, w now, D what has been looked at -/
def ot_Rx (E : Nat → Nat → Nat → Prop) (co : Nat → Nat) (g : Nat → Prop) (D : Nat → Nat → Prop) (w0 w : Nat → Nat) : Prop :=
  ot_I E co g w ∧ (∀ s, w s ≤ w0 s) ∧ (∀ s, w0 s ≤ 1000000000) ∧ ∀ o s t, E o s t → D o s → w0 t ≠ 1000000000 → w s ≤ w0 t + (1024 * co o + 1)
theorem ot_Rxle {E : Nat → Nat → Nat → Prop} {co : Nat → Nat} {g : Nat → Prop} {D : Nat → Nat → Prop} {w0 w : Nat → Nat} (h : ot_Rx E co g D w0 w) {s t o x : Nat} (hco : co o ≤ 9) (hs : s < 1024) (hE : ∀ t', E o s t' → t' = t) (he : E o s t) (ht : w t ≠ 1000000000) (hx : x = w t + (1024 * co o + 1)) (hl : x < w s) : ot_Rx E co g (fun o' s' => D o' s' ∨ (o' = o ∧ s' = s)) w0 (ot_up w s x) := by
  subst hx
  have hle := ot_ule (w := w) (s := s) (Nat.le_of_lt hl)
  refine ⟨ot_relax h.1 hco hs he ht hl, fun s' => Nat.le_trans (hle s') (h.2.1 s'), h.2.2.1, fun o' s' t' he' hD h0 => ?_⟩
  rcases hD with hD | ⟨e1, e2⟩
  · exact Nat.le_trans (hle s') (h.2.2.2 o' s' t' he' hD h0)
  · subst e1 e2
    have e := hE t' he'
    subst e
    rw [ot_us]
    have := h.2.1 t'
    omega
theorem ot_Rxge {E : Nat → Nat → Nat → Prop} {co : Nat → Nat} {g : Nat → Prop} {D : Nat → Nat → Prop} {w0 w : Nat → Nat} (h : ot_Rx E co g D w0 w) {s o : Nat} (hE : ∀ t, E o s t → w t ≠ 1000000000 → w s ≤ w t + (1024 * co o + 1)) : ot_Rx E co g (fun o' s' => D o' s' ∨ (o' = o ∧ s' = s)) w0 w := by
  refine ⟨h.1, h.2.1, h.2.2.1, fun o' s' t' he' hD h0 => ?_⟩
  rcases hD with hD | ⟨e1, e2⟩
  · exact h.2.2.2 o' s' t' he' hD h0
  · subst e1 e2
    have a := h.2.1 t'
    have b := h.2.2.1 t'
    have := hE t' he' (by omega)
    omega
theorem ot_RxD {E : Nat → Nat → Nat → Prop} {co : Nat → Nat} {g : Nat → Prop} {D D' : Nat → Nat → Prop} {w0 w : Nat → Nat} (h : ot_Rx E co g D w0 w) (hD : ∀ o s t, E o s t → D' o s → D o s) : ot_Rx E co g D' w0 w := ⟨h.1, h.2.1, h.2.2.1, fun o s t he hd h0 => h.2.2.2 o s t he (hD o s t he hd) h0⟩
theorem ot_Rx0 {E : Nat → Nat → Nat → Prop} {co : Nat → Nat} {g : Nat → Prop} {w : Nat → Nat} (h : ot_I E co g w) (hi : ∀ s, w s ≤ 1000000000) : ot_Rx E co g (fun _ _ => False) w w := ⟨h, fun _ => Nat.le_refl _, hi, fun _ _ _ _ z => z.elim⟩
theorem ot_RMup {R : Nat → Prop} {w : Nat → Nat} {rm : Nat → Int32} (h : ot_RM R w rm) {s x : Nat} (hs : R s) (hx : x ≤ 1000000000) : ot_RM R (ot_up w s x) (upd rm s (nI x)) := by
  refine ⟨fun s' => ?_, fun s' hs' => ?_, fun s' hs' => ?_⟩
  · rcases Classical.em (s' = s) with e | e
    · rw [e, ot_us]; exact hx
    · rw [ot_un e]; exact h.1 s'
  · rcases Classical.em (s' = s) with e | e
    · rw [e, ot_us, pk_us]
    · rw [ot_un e, pk_un e]; exact h.2.1 s' hs'
  · rcases Classical.em (s' = s) with e | e
    · rw [e] at hs'; exact absurd hs hs'
    · rw [ot_un e]; exact h.2.2 s' hs'
theorem ot_rvlt {j : Nat} (h : j < 2 ^ 31) : ot_rv j < 0 ↔ j = 0 := by
  rcases Classical.em (j = 0) with z | z
  · subst z; exact ⟨fun _ => rfl, fun _ => by decide⟩
  · rw [ot_rvp z]; exact ⟨fun w => absurd w (nI_pos (by omega)), fun w => absurd w z⟩
theorem ot_rvd (q : Nat) : nI q + (-1) = ot_rv q := (Int32.sub_eq_add_neg (nI q) 1).symm
theorem ot_big : (1000000000 : Int32) = nI 1000000000 := by decide
theorem ot_mil : (1000000 : Int32) = nI 1000000 := by decide
section
variable {n d m : Nat} {co ne ef be go : Nat → Nat} {aC aN aE aB aG od sn mv rm bd ls ah : Nat → Int32} {lc : Int32} {bo br R g : Nat → Prop} {k : Nat} {f w : Nat → Nat}
theorem ox_wayBy (T : ot_T n d m co ne ef be go aC aN aE aB aG) (hX : ot_XF n m ne ef (fun _ => False) R k od mv f) (hR : ∀ s o, R s → o < m → ot_ap n ne o s → R (ot_nx ef o s n)) (hw : ot_RM R w rm) {mt : Int32} {s o : Nat} (hs : R s) (ho : o < m) {post : Int32 → Prop} (h : ∀ x, x < 1000010000 → ot_wy n ne ef co w o s x → post (nI x)) : wpX_wayBy post (nI n, nI d, nI m, mt, lc, aC, aN, aE, aB, aG, od, sn, mv, rm, bd, ls, ah) (nI s) (nI o) := by
  obtain ⟨⟨⟨hn1, hn⟩, ⟨hd1, hd⟩, hm⟩, ⟨hC, hco⟩, ⟨hN, hne⟩, ⟨hE, hef⟩, ⟨hB, hbe⟩, ⟨hG, hgo⟩⟩ := T
  have slt := (hX.2.1 s hs).1
  have e10 : nI s * 10 + nI o = nI (10 * s + o) := by rw [show nI s * 10 = nI (s * 10) from pk_mul s 10, nI_add, Nat.mul_comm]
  have hv := hX.2.2.2.2 s hs o ho
  have c9 := hco o
  rcases Classical.em (ot_ap n ne o s) with a | a
  · have hRt := hR s o hs ho a
    have tlt := (hX.2.1 _ hRt).1
    have e1 := hw.2.1 _ hRt
    have l1 := hw.1 (ot_nx ef o s n)
    refine ⟨by rw [e10]; exact vp_in_nI (by omega) (by omega), nm_r (e' := nI (ot_nx ef o s n)) (by rw [e10, nI_clamp (by omega)]; exact hv.1 (fun z => z) a) (br_f (ot_nn (by omega)).1 ⟨vp_in_nI tlt (by omega), ?_⟩)⟩
    rw [nI_clamp (by omega), e1]
    rcases Classical.em (w (ot_nx ef o s n) = 1000000000) with z | z
    · exact br_t (by rw [z]; rfl) (h 1000000000 (by omega) ⟨fun _ y => absurd z y, fun _ => rfl⟩)
    · refine br_f (fun y => z ((nI_eq (by omega) (by omega)).mp (y.trans ot_big))) ⟨vp_in_nI tlt (by omega), vp_in_nI (by omega) (by omega), ?_⟩
      have := h (w (ot_nx ef o s n) + (1024 * co o + 1)) (by omega) ⟨fun _ _ => rfl, fun y => absurd ⟨a, z⟩ y⟩
      rw [nI_clamp (by omega), hC o (by omega), show nI (co o) * 1024 = nI (co o * 1024) from pk_mul (co o) 1024, nI_add, nI_1, show w (ot_nx ef o s n) + co o * 1024 + 1 = w (ot_nx ef o s n) + (1024 * co o + 1) by omega]
      exact this
  · refine ⟨by rw [e10]; exact vp_in_nI (by omega) (by omega), nm_r (e' := -1) (by rw [e10, nI_clamp (by omega)]; exact hv.2 (fun z => a z.2)) (br_t rfl ?_)⟩
    exact h 1000000000 (by omega) ⟨fun y => absurd y a, fun _ => rfl⟩
theorem ox_shorten (T : ot_T n d m co ne ef be go aC aN aE aB aG) (hX : ot_XF n m ne ef (fun _ => False) R k od mv f) (hR : ∀ s o, R s → o < m → ot_ap n ne o s → R (ot_nx ef o s n)) {mt : Int32} {s : Nat} (hs : R s) {w0 : Nat → Nat} {D : Nat → Nat → Prop} (hw : ot_RM R w rm) (hI : ot_Rx (ot_EX n m ne ef R) co g D w0 w) {post : Int32 → SX → Prop} (h : ∀ r rm' w', (r = 0 → w' = w) → ot_RM R w' rm' → ot_Rx (ot_EX n m ne ef R) co g (fun o' s' => D o' s' ∨ s' = s) w0 w' → post r (nI n, nI d, nI m, mt, lc, aC, aN, aE, aB, aG, od, sn, mv, rm', bd, ls, ah)) : wpX_shorten post (nI n, nI d, nI m, mt, lc, aC, aN, aE, aB, aG, od, sn, mv, rm, bd, ls, ah) (nI s) := by
  have T0 := T
  obtain ⟨⟨⟨hn1, hn⟩, ⟨hd1, hd⟩, hm⟩, ⟨hC, hco⟩, ⟨hN, hne⟩, ⟨hE, hef⟩, ⟨hB, hbe⟩, ⟨hG, hgo⟩⟩ := T
  have slt := (hX.2.1 s hs).1
  have key : ∀ fu o r rm' w', (r = 0 ∨ r = 1) → (r = 0 → w' = w) → o ≤ m → m - o < fu → ot_RM R w' rm' → ot_Rx (ot_EX n m ne ef R) co g (fun o' s' => D o' s' ∨ (o' < o ∧ s' = s)) w0 w' → wX_shorten_4 post (nI s) (nI n) (nI d) (nI m) mt lc fu r (nI o) aC aN aE aB aG od sn mv rm' bd ls ah := by
    intro fu
    induction fu with
    | zero => intro o r rm' w' _ _ _ h; omega
    | succ fu ih =>
    intro o r rm' w' hr hr0 hom hfu hw' hI'
    rcases Nat.lt_or_ge o m with z | z
    · refine br_f (nI_ge z (by omega)) (ox_wayBy T0 hX hR hw' hs z (fun x hx hy => ?_))
      have l1 := hw'.1 s
      refine ⟨vp_in_nI slt (by omega), ?_⟩
      rw [nI_clamp (by omega), hw'.2.1 s hs]
      have hD : ∀ o' s', (D o' s' ∨ (o' < o + 1 ∧ s' = s)) → (D o' s' ∨ (o' < o ∧ s' = s)) ∨ (o' = o ∧ s' = s) := fun o' s' y => by
        rcases y with y | ⟨y1, y2⟩
        · exact Or.inl (Or.inl y)
        · rcases Nat.lt_or_ge o' o with q | q
          · exact Or.inl (Or.inr ⟨q, y2⟩)
          · exact Or.inr ⟨by omega, y2⟩
      rcases Nat.lt_or_ge x (w' s) with y | y
      · refine br_f (nI_ge y (by omega)) ⟨vp_in_nI slt (by omega), nm_r (e' := upd rm' s (nI x)) rfl (nm_r (nI_1 o) (ih (o + 1) 1 _ (ot_up w' s x) (Or.inr rfl) (fun q => absurd q (by decide)) (by omega) (by omega) (ot_RMup hw' hs (by omega)) ?_))⟩
        rcases Classical.em (ot_ap n ne o s ∧ w' (ot_nx ef o s n) ≠ 1000000000) with ⟨q1, q2⟩ | q
        · exact ot_RxD (ot_Rxle hI' (hco o) slt (fun t' he => he.2.2.2) ⟨hs, z, q1, rfl⟩ q2 (hy.1 q1 q2) y) (fun o' s' _ _ => hD o' s')
        · have := hy.2 q; omega
      · refine br_t (nI_le y (by omega)) (nm_r (nI_1 o) (ih (o + 1) r rm' w' hr hr0 (by omega) (by omega) hw' ?_))
        refine ot_RxD (ot_Rxge hI' (fun t he ht => ?_)) (fun o' s' _ _ => hD o' s')
        obtain ⟨-, -, q1, rfl⟩ := he
        have := hy.1 q1 ht; omega
    · refine br_t (nI_le z (by omega)) ⟨by rcases hr with q | q <;> rw [q] <;> rfl, h r rm' w' hr0 hw' (ot_RxD hI' (fun o' s' t he y => y.imp id (fun q => ⟨by have := he.2.1; omega, q⟩)))⟩
  exact ⟨m + 1, key (m + 1) 0 0 rm w (Or.inl rfl) (fun _ => rfl) (Nat.zero_le _) (by omega) hw (ot_RxD hI (fun o' s' _ _ y => y.elim id (fun q => by omega)))⟩
theorem ox_me24 (T : ot_T n d m co ne ef be go aC aN aE aB aG) (hX : ot_XF n m ne ef (fun _ => False) R k od mv f) (hk : k ≤ 1024) (hR : ∀ s o, R s → o < m → ot_ap n ne o s → R (ot_nx ef o s n)) {w0 : Nat → Nat} {post : SX → Prop} {J : Int32 → Int32 → Int32 → Int32 → Int32 → Int32 → Int32 → (Nat → Int32) → (Nat → Int32) → (Nat → Int32) → (Nat → Int32) → (Nat → Int32) → (Nat → Int32) → (Nat → Int32) → (Nat → Int32) → (Nat → Int32) → (Nat → Int32) → (Nat → Int32) → (Nat → Int32) → Prop} {r : Nat}
    (hJ : ∀ c rm w, (c = 0 → w = w0) → ot_RM R w rm → ot_Rx (ot_EX n m ne ef R) co g (fun _ _ => True) w0 w → J c (nI (r + 1)) (nI n) (nI d) (nI m) (nI k) lc aC aN aE aB aG od sn mv rm bd ls ah) :
    ∀ fu j c rm w, j ≤ k → j < fu → (c = 0 → w = w0) → ot_RM R w rm → ot_Rx (ot_EX n m ne ef R) co g (fun _ s => ∃ i, j ≤ i ∧ i < k ∧ f i = s) w0 w → wX_measure_24 post J (nI r) fu c (ot_rv j) (nI n) (nI d) (nI m) (nI k) lc aC aN aE aB aG od sn mv rm bd ls ah := by
  have T0 := T
  obtain ⟨⟨⟨hn1, hn⟩, ⟨hd1, hd⟩, hm⟩, ⟨hC, hco⟩, ⟨hN, hne⟩, ⟨hE, hef⟩, ⟨hB, hbe⟩, ⟨hG, hgo⟩⟩ := T
  intro fu
  induction fu with
  | zero => intro j c rm w _ h; omega
  | succ fu ih =>
  intro j c rm w hj hfu hc hw hI
  rcases Classical.em (j = 0) with z | z
  · subst z
    exact br_t ((ot_rvlt (by omega)).mpr rfl) (nm_r (nI_1 r) (hJ c rm w hc hw (ot_RxD hI (fun o s t he _ => by
      obtain ⟨i, hi, e⟩ := (hX.2.1 s he.1).2
      exact ⟨i, Nat.zero_le _, hi, e⟩))))
  · obtain ⟨q, rfl⟩ : ∃ q, j = q + 1 := ⟨j - 1, by omega⟩
    have e := hX.1 q (by omega)
    refine br_f (fun y => z ((ot_rvlt (by omega)).mp y)) ?_
    rw [ot_rvs]
    refine ⟨vp_in_nI (by omega) (by omega), ?_⟩
    rw [nI_clamp (by omega), e.1]
    have hDn : ∀ o s t, ot_EX n m ne ef R o s t → (∃ i, q ≤ i ∧ i < k ∧ f i = s) → (∃ i, q + 1 ≤ i ∧ i < k ∧ f i = s) ∨ s = f q := fun o s t _ ⟨i, h1, h2, h3⟩ => by
      rcases Classical.em (i = q) with y | y
      · subst y; exact Or.inr h3.symm
      · exact Or.inl ⟨i, by omega, h2, h3⟩
    refine ox_shorten T0 hX hR e.2.2 hw hI (fun x rm' w' hx hw' hI' => ?_)
    rcases Classical.em (x = 0) with y | y
    · exact br_t y (nm_r (ot_rvd q) (ih q c rm' w' (by omega) (by omega) (fun p => (hx y).trans (hc p)) hw' (ot_RxD hI' hDn)))
    · exact br_f y (nm_r (ot_rvd q) (ih q 1 rm' w' (by omega) (by omega) (fun p => absurd p (by decide)) hw' (ot_RxD hI' hDn)))
theorem ox_measure (T : ot_T n d m co ne ef be go aC aN aE aB aG) (hX : ot_XF n m ne ef (fun _ => False) R k od mv f) (hk : k ≤ 1024) (hR : ∀ s o, R s → o < m → ot_ap n ne o s → R (ot_nx ef o s n)) (hw : ot_RM R w rm) (hI : ot_I (ot_EX n m ne ef R) co g w) (hg : ∀ s, g s → w s = 0) {post : SX → Prop}
    (h : ∀ rm w, ot_RM R w rm → ot_I (ot_EX n m ne ef R) co g w → ot_S (ot_EX n m ne ef R) co g w → post (nI n, nI d, nI m, nI k, lc, aC, aN, aE, aB, aG, od, sn, mv, rm, bd, ls, ah)) : wpX_measure post (nI n, nI d, nI m, nI k, lc, aC, aN, aE, aB, aG, od, sn, mv, rm, bd, ls, ah) := by
  have T0 := T
  obtain ⟨⟨⟨hn1, hn⟩, ⟨hd1, hd⟩, hm⟩, ⟨hC, hco⟩, ⟨hN, hne⟩, ⟨hE, hef⟩, ⟨hB, hbe⟩, ⟨hG, hgo⟩⟩ := T
  have hlt : ∀ o s t, ot_EX n m ne ef R o s t → s < 1024 := fun o s t he => (hX.2.1 s he.1).1
  have key : ∀ fu r c rm w, r ≤ 1024 → 1024 - r < fu → (c = 0 → ot_S (ot_EX n m ne ef R) co g w) → ot_RM R w rm → ot_I (ot_EX n m ne ef R) co g w → ot_Q (ot_EX n m ne ef R) co g r w → wX_measure_4 post fu c (nI r) (nI n) (nI d) (nI m) (nI k) lc aC aN aE aB aG od sn mv rm bd ls ah := by
    intro fu
    induction fu with
    | zero => intro r c rm w _ h; omega
    | succ fu ih =>
    intro r c rm w hr hfu hc hw hI hQ
    rcases Classical.em (c = 0) with z | z
    · exact br_t z (h rm w hw hI (hc z))
    · refine br_f z ?_
      rcases Nat.lt_or_ge r 1024 with y | y
      · refine br_f (nI_ge (b := 1024) y (by decide)) (nm_r (e' := ot_rv k) rfl ⟨k + 1, ox_me24 (g := g) (w0 := w) T0 hX hk hR (fun c' rm' w' hc' hw' hI' => ?_) (k + 1) k 0 rm w (Nat.le_refl _) (by omega) (fun _ => rfl) hw (ot_RxD (ot_Rx0 hI hw.1) (fun o s t _ ⟨i, h1, h2, _⟩ => by omega))⟩)
        have q := ot_Qs hQ hI'.2.1 hw.1 (fun o s t he ht => hI'.2.2.2 o s t he trivial ht)
        refine ih (r + 1) c' rm' w' (by omega) (by omega) (fun p => ?_) hw' hI'.1 q
        have e := hc' p
        subst e
        exact ⟨hw.1, fun s hs => by have := hQ 0 s 0 (Nat.zero_le _) ⟨hs, rfl⟩; omega, fun o s t he ht => hI'.2.2.2 o s t he trivial ht⟩
      · exact br_t (nI_le (a := 1024) y (by omega)) (h rm w hw hI (ot_Qe hQ (by omega) hI hw.1 hco hlt))
  exact ⟨1025, key 1025 0 1 rm w (by omega) (by omega) (fun p => absurd p (by decide)) hw hI (ot_Q0 hg)⟩
end
end
section
/-! the component: ends of ways, the best way, counting, plans -/
noncomputable def ot_w0 (g : Nat → Prop) (s : Nat) : Nat := (1 - b01 (g s)) * 1000000000
theorem ot_w0t {g : Nat → Prop} {s : Nat} (h : g s) : ot_w0 g s = 0 := by unfold ot_w0; rw [b01_t h]
theorem ot_w0f {g : Nat → Prop} {s : Nat} (h : ¬ g s) : ot_w0 g s = 1000000000 := by unfold ot_w0; rw [b01_f h]
theorem ot_w0le (g : Nat → Prop) (s : Nat) : ot_w0 g s ≤ 1000000000 := by
  rcases Classical.em (g s) with z | z
  · rw [ot_w0t z]; omega
  · rw [ot_w0f z]; omega
theorem ot_w0I {E : Nat → Nat → Nat → Prop} {co : Nat → Nat} {g : Nat → Prop} (hg : ∀ s, g s → s < 1024) : ot_I E co g (ot_w0 g) := by
  intro s hs
  rcases Classical.em (g s) with z | z
  · exact ⟨0, 0, ot_w0t z, Nat.le_refl _, Nat.zero_le _, hg s z, z, rfl⟩
  · exact absurd (ot_w0f z) hs
abbrev ot_RR (n m : Nat) (ne ef be : Nat → Nat) : Nat → Prop := ot_R (ot_bs be n) (fun _ => False) (ot_E n m ne ef (fun _ => False))
theorem ot_RRs {n m : Nat} {ne ef be : Nat → Nat} (s o : Nat) (h : ot_RR n m ne ef be s) (ho : o < m) (ha : ot_ap n ne o s) : ot_RR n m ne ef be (ot_nx ef o s n) := ot_Rs h ⟨o, ho, fun z => z, ha, rfl⟩ (fun z => z)
theorem ot_bf0 : ot_bf (-1) (fun _ => False) := Or.inl ⟨rfl, fun _ z => z⟩
theorem ot_bop0 : ot_bop (-1) (fun _ => False) := fun _ ho => ⟨fun e => (ot_nn (by omega)).1 e, fun z => z.elim⟩
theorem ot_XFle {n m : Nat} {ne ef : Nat → Nat} {bo R : Nat → Prop} {k : Nat} {od mv : Nat → Int32} {f : Nat → Nat} (h : ot_XF n m ne ef bo R k od mv f) : k ≤ 1024 := by
  rw [h.2.2.2.1]; exact cn_le R 1024
section
variable {n d m : Nat} {co ne ef be go : Nat → Nat} {aC aN aE aB aG od sn mv rm bd ls ah : Nat → Int32} {lc : Int32} {bo br R g : Nat → Prop} {k : Nat} {f w : Nat → Nat}
theorem ot_rmput {rm : Nat → Int32} {i : Nat} {x : Int32} (hX : ot_XF n m ne ef bo R k od mv f) (hi : i < k) {v : Nat → Int32} (h : ∀ j, j < i → rm (f j) = v (f j)) (hx : x = v (f i)) : ∀ j, j < i + 1 → upd rm (f i) x (f j) = v (f j) := by
  intro j hj
  rcases Classical.em (j = i) with e | e
  · subst e; rw [pk_us]; exact hx
  · have : f j ≠ f i := fun y => e (hX.2.2.1 j i (by omega) hi y)
    rw [pk_un this]; exact h j (by omega)
theorem ox_endG (T : ot_T n d m co ne ef be go aC aN aE aB aG) (hX : ot_XF n m ne ef bo R k od mv f) {post : SX → Prop} (h : ∀ rm, ot_RM R (ot_w0 (fun s => R s ∧ ot_gl n go s)) rm → post (nI n, nI d, nI m, nI k, lc, aC, aN, aE, aB, aG, od, sn, mv, rm, bd, ls, ah)) : wpX_endAtGoal post (nI n, nI d, nI m, nI k, lc, aC, aN, aE, aB, aG, od, sn, mv, rm, bd, ls, ah) := by
  have hk := ot_XFle hX
  refine loop_0 (fun fu i (rm : Nat → Int32) => wX_endAtGoal_2 post (nI n) (nI d) (nI m) (nI k) lc fu (nI i) aC aN aE aB aG od sn mv rm bd ls ah) (fun i rm => ∀ j, j < i → rm (f j) = nI (ot_w0 (fun s => R s ∧ ot_gl n go s) (f j))) k rm (fun j hj => by omega) ?_ ?_
  · intro fu rm hI
    refine br_t (nI_le (Nat.le_refl _) (by omega)) (h rm ⟨ot_w0le _, fun s hs => ?_, fun s hs => ot_w0f (fun z => hs z.1)⟩)
    obtain ⟨i, hi, e⟩ := (hX.2.1 s hs).2
    rw [← e]; exact hI i hi
  · intro fu i rm hi hI ih
    have e := hX.1 i hi
    refine br_f (nI_ge hi (by omega)) ⟨vp_in_nI (by omega) (by omega), nm_r (e' := nI (f i)) (by rw [nI_clamp (by omega)]; exact e.1) (ox_hasG T e.2.1 (fun hg => ?_) (fun hg => ?_))⟩
    · refine br_f (by decide) ⟨vp_in_nI e.2.1 (by omega), nm_r (e' := upd rm (f i) 0) (by rw [nI_clamp (by omega)]) (nm_r (nI_1 i) (ih _ (ot_rmput hX hi (v := fun s => nI (ot_w0 (fun s => R s ∧ ot_gl n go s) s)) hI ?_)))⟩
      show (0 : Int32) = nI (ot_w0 _ (f i))
      rw [ot_w0t ⟨e.2.2, hg⟩]; rfl
    · refine br_t rfl ⟨vp_in_nI e.2.1 (by omega), nm_r (e' := upd rm (f i) 1000000000) (by rw [nI_clamp (by omega)]) (nm_r (nI_1 i) (ih _ (ot_rmput hX hi (v := fun s => nI (ot_w0 (fun s => R s ∧ ot_gl n go s) s)) hI ?_)))⟩
      show (1000000000 : Int32) = nI (ot_w0 _ (f i))
      rw [ot_w0f (fun z => hg z.2)]; rfl
theorem ox_endB (T : ot_T n d m co ne ef be go aC aN aE aB aG) (hX : ot_XF n m ne ef bo R k od mv f) (h0 : R (ot_bs be n)) {post : SX → Prop} (h : ∀ rm, ot_RM R (ot_w0 (fun s => s = ot_bs be n)) rm → post (nI n, nI d, nI m, nI k, lc, aC, aN, aE, aB, aG, od, sn, mv, rm, bd, ls, ah)) : wpX_endAtBegin post (nI n, nI d, nI m, nI k, lc, aC, aN, aE, aB, aG, od, sn, mv, rm, bd, ls, ah) := by
  have hk := ot_XFle hX
  refine loop_0 (fun fu i (rm : Nat → Int32) => wX_endAtBegin_2 post (nI n) (nI d) (nI m) (nI k) lc fu (nI i) aC aN aE aB aG od sn mv rm bd ls ah) (fun i rm => ∀ j, j < i → rm (f j) = 1000000000) k rm (fun j hj => by omega) ?_ ?_
  · intro fu rm hI
    have slt := (hX.2.1 _ h0).1
    refine br_t (nI_le (Nat.le_refl _) (by omega)) (ox_begin T ⟨vp_in_nI slt (by omega), nm_r (e' := upd rm (ot_bs be n) 0) (by rw [nI_clamp (by omega)]) (h _ ⟨ot_w0le _, fun s hs => ?_, fun s hs => ot_w0f (fun z => hs (by rw [z]; exact h0))⟩)⟩)
    rcases Classical.em (s = ot_bs be n) with e | e
    · rw [ot_w0t (g := fun s => s = ot_bs be n) e, e, pk_us]; rfl
    · obtain ⟨i, hi, y⟩ := (hX.2.1 s hs).2
      rw [pk_un e, ot_w0f (g := fun s => s = ot_bs be n) e, ← y, hI i hi]; rfl
  · intro fu i rm hi hI ih
    have e := hX.1 i hi
    have ce : od (nI i).toNatClampNeg = nI (f i) := by rw [nI_clamp (by omega)]; exact e.1
    refine br_f (nI_ge hi (by omega)) ⟨vp_in_nI (by omega) (by omega), ?_⟩
    rw [ce]
    exact ⟨vp_in_nI e.2.1 (by omega), nm_r (e' := upd rm (f i) 1000000000) (by rw [nI_clamp (by omega)]) (nm_r (nI_1 i) (ih _ (ot_rmput hX hi (v := fun _ => 1000000000) hI rfl)))⟩
theorem ox_best (T : ot_T n d m co ne ef be go aC aN aE aB aG) {mt : Int32} {post : Int32 → SX → Prop} (h : ∀ k od sn mv f rm w, ot_XF n m ne ef (fun _ => False) (ot_RR n m ne ef be) k od mv f → ot_RM (ot_RR n m ne ef be) w rm → ot_I (ot_EX n m ne ef (ot_RR n m ne ef be)) co (fun s => ot_RR n m ne ef be s ∧ ot_gl n go s) w → ot_S (ot_EX n m ne ef (ot_RR n m ne ef be)) co (fun s => ot_RR n m ne ef be s ∧ ot_gl n go s) w → post (nI (w (ot_bs be n))) (nI n, nI d, nI m, nI k, lc, aC, aN, aE, aB, aG, od, sn, mv, rm, bd, ls, ah)) : wpX_bestWay post (nI n, nI d, nI m, mt, lc, aC, aN, aE, aB, aG, od, sn, mv, rm, bd, ls, ah) := by
  refine ox_explore T ot_bf0 ot_bop0 (fun k od sn mv f hX => ?_)
  refine ox_endG T hX (fun rm hw => ?_)
  refine ox_measure T hX (ot_XFle hX) ot_RRs hw (ot_w0I (fun s hs => (hX.2.1 s hs.1).1)) (fun s hs => ot_w0t hs) (fun rm w hw hI hS => ?_)
  refine ox_begin T ?_
  have h0 : ot_RR n m ne ef be (ot_bs be n) := ot_R0 (fun z => z)
  have slt := (hX.2.1 _ h0).1
  refine ⟨vp_in_nI slt (by omega), ?_⟩
  rw [nI_clamp (by omega), hw.2.1 _ h0]
  exact h k od sn mv f rm w hX hw hI hS
theorem ox_count (hX : ot_XF n m ne ef bo R k od mv f) (hw : ot_RM R w rm) {post : Int32 → Prop} (h : post (nI (cn (fun s => R s ∧ w s ≠ 1000000000) 1024))) : wpX_countMeasured post (nI n, nI d, nI m, nI k, lc, aC, aN, aE, aB, aG, od, sn, mv, rm, bd, ls, ah) := by
  have hk := ot_XFle hX
  have := loop_0 (σ := Unit) (fun fu i _ => wX_countMeasured_4 post (nI n) (nI d) (nI m) (nI k) lc aC aN aE aB aG od sn mv rm bd ls ah fu (nI (cn (fun s => ∃ j, j < i ∧ f j = s ∧ w s ≠ 1000000000) 1024)) (nI i)) (fun _ _ => True) k () trivial ?_ ?_
  · rw [ot_cnt0, nI_0] at this
    exact this
  · intro fu _ _
    refine br_t (nI_le (Nat.le_refl _) (by omega)) ?_
    rw [ot_cnte (fun i hi => (hX.1 i hi).2.2) (fun s hs => (hX.2.1 s hs).2) (fun s => w s ≠ 1000000000)]
    exact h
  · intro fu i _ hi _ ih
    have e := hX.1 i hi
    have c := ot_cnt (fun i hi => (hX.1 i hi).2.1) hX.2.2.1 (fun s => w s ≠ 1000000000) i hi
    have ce : od (nI i).toNatClampNeg = nI (f i) := by rw [nI_clamp (by omega)]; exact e.1
    have ih := ih () trivial
    have l := hw.1 (f i)
    refine br_f (nI_ge hi (by omega)) ⟨vp_in_nI (by omega) (by omega), ?_⟩
    rw [ce]
    refine ⟨vp_in_nI e.2.1 (by omega), ?_⟩
    rw [nI_clamp (by omega), hw.2.1 _ e.2.2]
    rcases Classical.em (w (f i) = 1000000000) with z | z
    · rw [b01_f (fun y => y z)] at c
      rw [c] at ih
      exact br_t (by rw [z]; rfl) (nm_r (nI_1 i) ih)
    · rw [b01_t z] at c
      rw [c] at ih
      exact br_f (fun y => z ((nI_eq (by omega) (by omega)).mp (y.trans ot_big))) (nm_r (nI_1 _) (nm_r (nI_1 i) ih))
theorem ox_plan (T : ot_T n d m co ne ef be go aC aN aE aB aG) {x1 x2 mt : Int32} (hb : ot_bf x1 br) (hp : ot_bop x2 bo) {post : Int32 → SX → Prop}
    (h1 : (∃ s, ot_R (ot_bs be n) br (ot_E n m ne ef bo) s ∧ ot_gl n go s) → ∀ k od sn mv, post 1 (nI n, nI d, nI m, nI k, lc, aC, aN, aE, aB, aG, od, sn, mv, rm, bd, ls, ah))
    (h0 : (¬ ∃ s, ot_R (ot_bs be n) br (ot_E n m ne ef bo) s ∧ ot_gl n go s) → ∀ k od sn mv, post 0 (nI n, nI d, nI m, nI k, lc, aC, aN, aE, aB, aG, od, sn, mv, rm, bd, ls, ah)) : wpX_planExists post (nI n, nI d, nI m, mt, lc, aC, aN, aE, aB, aG, od, sn, mv, rm, bd, ls, ah) x1 x2 := by
  refine ox_explore T hb hp (fun k od sn mv f hX => ?_)
  have hk := ot_XFle hX
  refine loop_0 (σ := Unit) (fun fu i _ => wX_planExists_8 post (nI n) (nI d) (nI m) (nI k) lc aC aN aE aB aG od sn mv rm bd ls ah fu (nI i)) (fun i _ => ∀ j, j < i → ¬ ot_gl n go (f j)) k () (fun j hj => by omega) ?_ ?_
  · intro fu _ hI
    refine br_t (nI_le (Nat.le_refl _) (by omega)) (h0 (fun ⟨s, hs, hg⟩ => ?_) k od sn mv)
    obtain ⟨i, hi, e⟩ := (hX.2.1 s hs).2
    rw [← e] at hg
    exact hI i hi hg
  · intro fu i _ hi hI ih
    have e := hX.1 i hi
    have ce : od (nI i).toNatClampNeg = nI (f i) := by rw [nI_clamp (by omega)]; exact e.1
    refine br_f (nI_ge hi (by omega)) ⟨vp_in_nI (by omega) (by omega), ?_⟩
    rw [ce]
    exact ox_hasG T e.2.1 (fun hg => br_f (by decide) (h1 ⟨f i, e.2.2, hg⟩ k od sn mv)) (fun hg => br_t rfl (nm_r (nI_1 i) (ih () (lt_s hI hg))))
end
end
section
/-! the reference: values, begin, states, goal, use -/
section
variable {n d m : Nat} {co ne ef be go : Nat → Nat} {aC aN aE aB aG yl yf ym yb yd yr : Nat → Int32} {rz : Int32}
theorem oy_val {s v : Nat} {post : Int32 → Prop} (hs : s < 1024) (hv : v < 5) (h : post (nI (ot_vl s v))) : wpY_valueIn post (nI n, nI d, nI m, rz, aC, aN, aE, aB, aG, yl, yf, ym, yb, yd, yr) (nI s) (nI v) := by
  show post ((nI s >>> ((2 * nI v) &&& 31)) &&& 3)
  rw [ot_val hs hv]
  exact h
theorem oy_states (T : ot_T n d m co ne ef be go aC aN aE aB aG) {post : Int32 → Prop} (h : post (nI (4 ^ n))) : wpY_states post (nI n, nI d, nI m, rz, aC, aN, aE, aB, aG, yl, yf, ym, yb, yd, yr) := by
  obtain ⟨⟨⟨hn1, hn⟩, ⟨hd1, hd⟩, hm⟩, ⟨hC, hco⟩, ⟨hN, hne⟩, ⟨hE, hef⟩, ⟨hB, hbe⟩, ⟨hG, hgo⟩⟩ := T
  show post ((1 : Int32) <<< ((2 * nI n) &&& 31))
  rw [ot_pw n (by omega)]
  exact h
theorem oy_st (T : ot_T n d m co ne ef be go aC aN aE aB aG) {post : Int32 → Prop} : wpY_states post (nI n, nI d, nI m, rz, aC, aN, aE, aB, aG, yl, yf, ym, yb, yd, yr) = post (nI (4 ^ n)) := by
  obtain ⟨⟨⟨hn1, hn⟩, ⟨hd1, hd⟩, hm⟩, ⟨hC, hco⟩, ⟨hN, hne⟩, ⟨hE, hef⟩, ⟨hB, hbe⟩, ⟨hG, hgo⟩⟩ := T
  show post ((1 : Int32) <<< ((2 * nI n) &&& 31)) = _
  rw [ot_pw n (by omega)]
theorem oy_begin (T : ot_T n d m co ne ef be go aC aN aE aB aG) {post : Int32 → Prop} (h : post (nI (ot_bs be n))) : wpY_beginState post (nI n, nI d, nI m, rz, aC, aN, aE, aB, aG, yl, yf, ym, yb, yd, yr) := by
  have hs := fun k (hk : k ≤ n) => ot_s0k T hk
  obtain ⟨⟨⟨hn1, hn⟩, ⟨hd1, hd⟩, hm⟩, ⟨hC, hco⟩, ⟨hN, hne⟩, ⟨hE, hef⟩, ⟨hB, hbe⟩, ⟨hG, hgo⟩⟩ := T
  refine loop_0 (σ := Unit) (fun k v _ => wY_beginState_4 post (nI n) (nI d) (nI m) rz aC aN aE aB aG yl yf ym yb yd yr k (nI (ot_bs be v)) (nI v)) (fun _ _ => True) n () trivial ?_ ?_
  · intro k _ _
    exact br_t (nI_le (Nat.le_refl _) (by omega)) h
  · intro k v _ hv _ ih
    refine br_f (nI_ge hv (by omega)) ⟨vp_in_nI (by omega) (by omega), nm_r (e' := nI (ot_bs be (v + 1))) ?_ (nm_r (nI_1 v) (ih () trivial))⟩
    have b := hbe v
    rw [nI_clamp (by omega), hB v (by omega)]
    exact ot_or (hs v (by omega)) (by omega) (by omega)
theorem oy_isState (T : ot_T n d m co ne ef be go aC aN aE aB aG) {s : Nat} (hs : s < 1024) {post : Int32 → Prop} (h1 : (∀ v, v < n → ot_vl s v < d) → post 1) (h0 : ¬ (∀ v, v < n → ot_vl s v < d) → post 0) : wpY_isState post (nI n, nI d, nI m, rz, aC, aN, aE, aB, aG, yl, yf, ym, yb, yd, yr) (nI s) := by
  obtain ⟨⟨⟨hn1, hn⟩, ⟨hd1, hd⟩, hm⟩, ⟨hC, hco⟩, ⟨hN, hne⟩, ⟨hE, hef⟩, ⟨hB, hbe⟩, ⟨hG, hgo⟩⟩ := T
  refine loop_0 (σ := Unit) (fun k v _ => wY_isState_2 post (nI s) (nI n) (nI d) (nI m) rz aC aN aE aB aG yl yf ym yb yd yr k (nI v)) (fun v _ => ∀ u, u < v → ot_vl s u < d) n () (fun u hu => by omega) ?_ ?_
  · intro k _ hI
    exact br_t (nI_le (Nat.le_refl _) (by omega)) (h1 hI)
  · intro k v _ hv hI ih
    have v4 := ot_vl4 s v
    refine br_f (nI_ge hv (by omega)) (oy_val hs (by omega) ?_)
    rcases Nat.lt_or_ge (ot_vl s v) d with z | z
    · exact br_t (nI_lt z (by omega)) (nm_r (nI_1 v) (ih () (lt_s hI z)))
    · exact br_f (nI_nlt z (by omega)) (h0 fun q => by have := q v hv; omega)
theorem oy_isGoal (T : ot_T n d m co ne ef be go aC aN aE aB aG) {s : Nat} (hs : s < 1024) {post : Int32 → Prop} (h1 : ot_gl n go s → post 1) (h0 : ¬ ot_gl n go s → post 0) : wpY_isGoal post (nI n, nI d, nI m, rz, aC, aN, aE, aB, aG, yl, yf, ym, yb, yd, yr) (nI s) := by
  obtain ⟨⟨⟨hn1, hn⟩, ⟨hd1, hd⟩, hm⟩, ⟨hC, hco⟩, ⟨hN, hne⟩, ⟨hE, hef⟩, ⟨hB, hbe⟩, ⟨hG, hgo⟩⟩ := T
  refine loop_0 (σ := Unit) (fun k v _ => wY_isGoal_2 post (nI s) (nI n) (nI d) (nI m) rz aC aN aE aB aG yl yf ym yb yd yr k (nI v)) (fun v _ => ∀ u, u < v → go u = 0 ∨ go u = ot_vl s u + 1) n () (fun u hu => by omega) ?_ ?_
  · intro k _ hI
    exact br_t (nI_le (Nat.le_refl _) (by omega)) (h1 hI)
  · intro k v _ hv hI ih
    have b := hgo v
    have v4 := ot_vl4 s v
    refine br_f (nI_ge hv (by omega)) ⟨vp_in_nI (by omega) (by omega), ?_⟩
    rw [nI_clamp (by omega), hG v (by omega)]
    rcases Classical.em (go v = 0) with z | z
    · exact br_t ((ot_rvn _ (by omega)).mpr z) (nm_r (nI_1 v) (ih () (lt_s hI (Or.inl z))))
    · refine br_f (fun y => z ((ot_rvn _ (by omega)).mp y)) ⟨vp_in_nI (by omega) (by omega), oy_val hs (by omega) ?_⟩
      rcases Classical.em (go v = ot_vl s v + 1) with y | y
      · exact br_t ((ot_rve _ (by omega) _ (by omega)).mpr y) (nm_r (nI_1 v) (ih () (lt_s hI (Or.inr y))))
      · exact br_f (fun q => y ((ot_rve _ (by omega) _ (by omega)).mp q)) (h0 fun q => (q v hv).elim z y)
theorem oy_use (T : ot_T n d m co ne ef be go aC aN aE aB aG) {s o : Nat} (hs : ot_ok n d s) (ho : o < 10) {post : Int32 → Prop} (h1 : ot_ap n ne o s → post (nI (ot_nx ef o s n))) (h0 : ¬ ot_ap n ne o s → post (-1)) : wpY_use post (nI n, nI d, nI m, rz, aC, aN, aE, aB, aG, yl, yf, ym, yb, yd, yr) (nI o) (nI s) := by
  obtain ⟨⟨⟨hn1, hn⟩, ⟨hd1, hd⟩, hm⟩, ⟨hC, hco⟩, ⟨hN, hne⟩, ⟨hE, hef⟩, ⟨hB, hbe⟩, ⟨hG, hgo⟩⟩ := T
  have slt := ot_ok_lt hn hs
  refine loop_0 (σ := Unit) (fun k v _ => wY_use_5 post (nI o) (nI s) (nI n) (nI d) (nI m) rz aC aN aE aB aG yl yf ym yb yd yr k (nI (ot_nx ef o s v)) (nI v)) (fun v _ => ∀ u, u < v → ne (5 * o + u) = 0 ∨ ne (5 * o + u) = ot_vl s u + 1) n () (fun u hu => by omega) ?_ ?_
  · intro k _ hI
    exact br_t (nI_le (Nat.le_refl _) (by omega)) (h1 hI)
  · intro k v _ hv hI ih
    have b := hne (5 * o + v)
    have b2 := hef (5 * o + v)
    have v4 := ot_vl4 s v
    have e5 : 5 * nI o + nI v = nI (5 * o + v) := by rw [show 5 * nI o = nI (5 * o) from pk_mul 5 o, nI_add]
    have hx := ot_ok_lt hn (ot_nx_ok (o := o) hn hd hef hs v (by omega))
    have iv : vp_in (5 * nI o + nI v) 50 := by rw [e5]; exact vp_in_nI (by omega) (by omega)
    have fin : (ne (5 * o + v) = 0 ∨ ne (5 * o + v) = ot_vl s v + 1) → wY_use_59 post (wY_use_5 post (nI o) (nI s) (nI n) (nI d) (nI m) rz aC aN aE aB aG yl yf ym yb yd yr k) (nI o) (nI s) (nI (ot_nx ef o s v)) (nI v) (ot_rv (ef (5 * o + v))) (nI n) (nI d) (nI m) rz aC aN aE aB aG yl yf ym yb yd yr := fun q => by
      rcases Classical.em (ef (5 * o + v) = 0) with z | z
      · refine br_t ((ot_rvn _ (by omega)).mpr z) (nm_r (nI_1 v) ?_)
        have := ih () (lt_s hI q)
        rw [ot_nx_0 z] at this
        exact this
      · refine br_f (fun y => z ((ot_rvn _ (by omega)).mp y)) (nm_r (e' := nI (ot_nx ef o s (v + 1))) ?_ (nm_r (nI_1 v) (ih () (lt_s hI q))))
        rw [ot_rvp z, ot_nx_1 z]
        exact ot_set hx (by omega) (by omega)
    refine br_f (nI_ge hv (by omega)) ⟨iv, nm_r (e' := ot_rv (ne (5 * o + v))) (by rw [e5, nI_clamp (by omega), hN _ (by omega)]) ⟨iv, nm_r (e' := ot_rv (ef (5 * o + v))) (by rw [e5, nI_clamp (by omega), hE _ (by omega)]) ?_⟩⟩
    rcases Classical.em (ne (5 * o + v) = 0) with z | z
    · exact br_t ((ot_rvn _ (by omega)).mpr z) (fin (Or.inl z))
    · refine br_f (fun y => z ((ot_rvn _ (by omega)).mp y)) (oy_val slt (by omega) ?_)
      rcases Classical.em (ne (5 * o + v) = ot_vl s v + 1) with y | y
      · exact br_t ((ot_rve _ (by omega) _ (by omega)).mpr y) (fin (Or.inr y))
      · exact br_f (fun q => y ((ot_rve _ (by omega) _ (by omega)).mp q)) (h0 fun q => (q v hv).elim z y)
end
end
section
/-! the reference's search -/
def ot_bfy (p q : Int32) (br : Nat → Prop) : Prop := (p = -1 ∧ ∀ s, ¬ br s) ∨ ∃ v x, v < 5 ∧ x < 4 ∧ p = nI v ∧ q = nI x ∧ ∀ s, br s ↔ ot_vl s v = x
def ot_MF (n : Nat) (R : Nat → Prop) (ym : Nat → Int32) : Prop := ∀ s, s < 4 ^ n → (ym s = 1 ∧ R s) ∨ (ym s = 0 ∧ ¬ R s)
def ot_MI (n : Nat) (R br : Nat → Prop) (s0 : Nat) (ym : Nat → Int32) : Prop := (∀ s, s < 4 ^ n → ym s = 0 ∨ (ym s = 1 ∧ R s)) ∧ (¬ br s0 → ym s0 = 1)
def ot_MC (n m : Nat) (ne ef : Nat → Nat) (bo br : Nat → Prop) (ym : Nat → Int32) (s o : Nat) : Prop := ym s = 1 → o < m → ¬ bo o → ot_ap n ne o s → ¬ br (ot_nx ef o s n) → ym (ot_nx ef o s n) = 1
theorem ot_01' : ¬ (1 : Int32) = 0 := by decide
section
variable {n d m : Nat} {co ne ef be go : Nat → Nat} {aC aN aE aB aG yl yf yb yd yr : Nat → Int32} {rz : Int32} {bo br : Nat → Prop} {x1 x2 x3 : Int32}
theorem oy_fm72 (T : ot_T n d m co ne ef be go aC aN aE aB aG) (hb : ot_bfy x2 x3 br) (hp : ot_bop x1 bo) {post : SY → Prop} {J : Int32 → (Nat → Int32) → (Nat → Int32) → (Nat → Int32) → (Nat → Int32) → (Nat → Int32) → (Nat → Int32) → (Nat → Int32) → (Nat → Int32) → (Nat → Int32) → (Nat → Int32) → (Nat → Int32) → Prop} {ym0 : Nat → Int32}
    (hJ : ∀ c ym, ot_MI n (ot_R (ot_bs be n) br (ot_E n m ne ef bo)) br (ot_bs be n) ym → ((c = 0 ∧ ym = ym0 ∧ ∀ j, j < 10 * 4 ^ n → ot_MC n m ne ef bo br ym (j / 10) (j % 10)) ∨ (c = 1 ∧ cn (fun s => ym0 s = 1) (4 ^ n) < cn (fun s => ym s = 1) (4 ^ n))) → J c aC aN aE aB aG yl yf ym yb yd yr) :
    ∀ fu i c ym, i ≤ 10 * 4 ^ n → 10 * 4 ^ n - i < fu → ot_MI n (ot_R (ot_bs be n) br (ot_E n m ne ef bo)) br (ot_bs be n) ym → ((c = 0 ∧ ym = ym0 ∧ ∀ j, j < i → ot_MC n m ne ef bo br ym (j / 10) (j % 10)) ∨ (c = 1 ∧ cn (fun s => ym0 s = 1) (4 ^ n) < cn (fun s => ym s = 1) (4 ^ n))) → wY_findMet_72 post J x1 x2 x3 (nI n) (nI d) (nI m) rz fu c (nI i) aC aN aE aB aG yl yf ym yb yd yr := by
  have s0ok := ot_s0 T
  have T0 := T
  obtain ⟨⟨⟨hn1, hn⟩, ⟨hd1, hd⟩, hm⟩, ⟨hC, hco⟩, ⟨hN, hne⟩, ⟨hE, hef⟩, ⟨hB, hbe⟩, ⟨hG, hgo⟩⟩ := T
  have p4 := ot_4n hn
  have p1 := ot_4p n
  intro fu
  induction fu with
  | zero => intro i c ym _ h; omega
  | succ fu ih =>
  intro i c ym hi hfu hM hc
  simp only [wY_findMet_72, oy_st T0]
  rw [show 10 * nI (4 ^ n) = nI (10 * 4 ^ n) from pk_mul 10 _]
  rcases Nat.lt_or_ge i (10 * 4 ^ n) with z | z
  · have ed : nI i / 10 = nI (i / 10) := pk_div (d := 10) (by omega) (by omega) (by omega)
    have er : nI i - nI i / 10 * 10 = nI (i % 10) := pk_rem (d := 10) (by omega) (by omega) (by omega)
    have sl : i / 10 < 4 ^ n := by omega
    have ol : i % 10 < 10 := by omega
    have skip : ot_MC n m ne ef bo br ym (i / 10) (i % 10) → wY_findMet_72 post J x1 x2 x3 (nI n) (nI d) (nI m) rz fu c (nI (i + 1)) aC aN aE aB aG yl yf ym yb yd yr := fun q => ih (i + 1) c ym (by omega) (by omega) hM (hc.imp (fun y => ⟨y.1, y.2.1, lt_s y.2.2 q⟩) id)
    refine br_f (nI_ge z (by omega)) ⟨by decide, nm_r er ⟨by decide, ?_⟩⟩
    rw [ed]
    refine ⟨vp_in_nI (by omega) (by omega), ?_⟩
    rw [nI_clamp (by omega)]
    rcases hM.1 (i / 10) sl with y | ⟨y, hR⟩
    · exact br_t y (br_t (by decide) (nm_r (nI_1 i) (skip (fun w => absurd (y.symm.trans w) ot_01))))
    · have sok := ot_Rok hn hd hef s0ok hR
      refine br_f (by rw [y]; decide) ?_
      rcases Nat.lt_or_ge (i % 10) m with a | a
      · refine br_f (nI_ge a (by omega)) ?_
        rcases Classical.em (bo (i % 10)) with b | b
        · exact br_t ((hp _ ol).mpr b) (br_t (by decide) (nm_r (nI_1 i) (skip (fun _ _ w => absurd b w))))
        · refine br_f (fun w => b ((hp _ ol).mp w)) ⟨by decide, oy_use T0 sok ol (fun ha => ?_) (fun ha => ?_)⟩
          · have tok := ot_nx_ok (o := i % 10) hn hd hef sok n (Nat.le_refl _)
            have tlt := ot_ok_lt hn tok
            refine br_f (nI_pos (by omega)) ⟨vp_in_nI tlt (by omega), ?_⟩
            rw [nI_clamp (by omega)]
            rcases hM.1 _ tok.1 with e | ⟨e, _⟩
            · have put : ¬ br (ot_nx ef (i % 10) (i / 10) n) → wY_findMet_166 post J (wY_findMet_72 post J x1 x2 x3 (nI n) (nI d) (nI m) rz fu) x1 x2 x3 (nI i) (nI (ot_nx ef (i % 10) (i / 10) n)) (nI n) (nI d) (nI m) rz aC aN aE aB aG yl yf ym yb yd yr := fun q => by
                refine ⟨vp_in_nI tlt (by omega), nm_r (e' := upd ym (ot_nx ef (i % 10) (i / 10) n) 1) (by rw [nI_clamp (by omega)]; rfl) (nm_r (nI_1 i) (ih (i + 1) 1 _ (by omega) (by omega) ⟨fun s hs => ?_, fun w => ?_⟩ (Or.inr ⟨rfl, ?_⟩)))⟩
                · rcases Classical.em (s = ot_nx ef (i % 10) (i / 10) n) with g | g
                  · rw [g, pk_us]; exact Or.inr ⟨rfl, ot_Rs hR ⟨i % 10, a, b, ha, rfl⟩ q⟩
                  · rw [pk_un g]; exact hM.1 s hs
                · rcases Classical.em (ot_bs be n = ot_nx ef (i % 10) (i / 10) n) with g | g
                  · rw [g, pk_us]
                  · rw [pk_un g]; exact hM.2 w
                · rw [ot_cnupd tok.1 (fun w => ot_01 (e.symm.trans w))]
                  rcases hc with w | w
                  · rw [w.2.1]; omega
                  · omega
              refine br_t e ?_
              rcases hb with ⟨w1, w2⟩ | ⟨v, x, hv, hx, rfl, rfl, w⟩
              · exact br_t (by rw [w1]; decide) (put (w2 _))
              · refine br_f (nI_pos (by omega)) (oy_val tlt hv ?_)
                have v4 := ot_vl4 (ot_nx ef (i % 10) (i / 10) n) v
                rcases Classical.em (br (ot_nx ef (i % 10) (i / 10) n)) with q | q
                · exact br_t (by rw [(w _).mp q]) (nm_r (nI_1 i) (skip (fun _ _ _ _ u => absurd q u)))
                · exact br_f (fun u => q ((w _).mpr ((nI_eq (by omega) (by omega)).mp u))) (put q)
            · exact br_f (by rw [e]; decide) (nm_r (nI_1 i) (skip (fun _ _ _ _ _ => e)))
          · exact br_t (by decide) (nm_r (nI_1 i) (skip (fun _ _ _ w => absurd w ha)))
      · exact br_t (nI_le a (by omega)) (br_t (by decide) (nm_r (nI_1 i) (skip (fun _ w => by omega))))
  · refine br_t (nI_le z (by omega)) (hJ c ym hM (hc.imp (fun y => ⟨y.1, y.2.1, fun j hj => y.2.2 j (by omega)⟩) id))
theorem oy_findMet (T : ot_T n d m co ne ef be go aC aN aE aB aG) {ym : Nat → Int32} (hb : ot_bfy x2 x3 br) (hp : ot_bop x1 bo) {post : SY → Prop}
    (h : ∀ ym, ot_MF n (ot_R (ot_bs be n) br (ot_E n m ne ef bo)) ym → post (nI n, nI d, nI m, rz, aC, aN, aE, aB, aG, yl, yf, ym, yb, yd, yr)) : wpY_findMet post (nI n, nI d, nI m, rz, aC, aN, aE, aB, aG, yl, yf, ym, yb, yd, yr) x1 x2 x3 := by
  have s0ok := ot_s0 T
  have T0 := T
  obtain ⟨⟨⟨hn1, hn⟩, ⟨hd1, hd⟩, hm⟩, ⟨hC, hco⟩, ⟨hN, hne⟩, ⟨hE, hef⟩, ⟨hB, hbe⟩, ⟨hG, hgo⟩⟩ := T
  have p4 := ot_4n hn
  have p1 := ot_4p n
  have key : ∀ fu c ym, ot_MI n (ot_R (ot_bs be n) br (ot_E n m ne ef bo)) br (ot_bs be n) ym → (c = 0 → ∀ j, j < 10 * 4 ^ n → ot_MC n m ne ef bo br ym (j / 10) (j % 10)) → (c = 0 ∨ c = 1) → 4 ^ n - cn (fun s => ym s = 1) (4 ^ n) + (if c = 0 then 0 else 1) < fu → wY_findMet_61 post x1 x2 x3 (nI n) (nI d) (nI m) rz fu c aC aN aE aB aG yl yf ym yb yd yr := by
    intro fu
    induction fu with
    | zero => intro c ym _ _ _ h; omega
    | succ fu ih =>
    intro c ym hM hC hc hfu
    rcases hc with z | z
    · refine br_t z (h ym (fun s hs => ?_))
      have cl := hC z
      rcases hM.1 s hs with y | y
      · refine Or.inr ⟨y, fun hR => ?_⟩
        have := (hR (fun s => ym s = 1 ∧ ot_ok n d s) (fun q => ⟨hM.2 q, s0ok⟩) (fun s t ⟨w1, w2⟩ ⟨o, ho, hb', ha, e⟩ hbr => by
          subst e
          have q := cl (10 * s + o) (by have := w2.1; omega)
          rw [show (10 * s + o) / 10 = s by omega, show (10 * s + o) % 10 = o by omega] at q
          exact ⟨q w1 ho hb' ha hbr, ot_nx_ok hn hd hef w2 n (Nat.le_refl _)⟩)).1
        exact ot_01 (y.symm.trans this)
      · exact Or.inl y
    · subst z
      rw [if_neg ot_01'] at hfu
      have hle := cn_le (fun s => ym s = 1) (4 ^ n)
      refine br_f ot_01' ⟨10 * 4 ^ n + 1, oy_fm72 T0 hb hp (ym0 := ym) (fun c' ym' hM' hc' => ?_) (10 * 4 ^ n + 1) 0 0 ym (Nat.zero_le _) (by omega) hM (Or.inl ⟨rfl, rfl, fun j hj => by omega⟩)⟩
      rcases hc' with ⟨q1, q2, q3⟩ | ⟨q1, q2⟩
      · subst q1 q2
        exact ih 0 ym' hM' (fun _ => q3) (Or.inl rfl) (by rw [if_pos rfl]; omega)
      · subst q1
        have hle' := cn_le (fun s => ym' s = 1) (4 ^ n)
        exact ih 1 ym' hM' (fun q => absurd q ot_01') (Or.inr rfl) (by rw [if_neg ot_01']; omega)
  refine oy_begin T0 ?_
  refine loop_0 (fun fu i (ym : Nat → Int32) => wY_findMet_9 post x1 x2 x3 (nI (ot_bs be n)) (nI n) (nI d) (nI m) rz fu (nI i) aC aN aE aB aG yl yf ym yb yd yr) (fun i ym => ∀ j, j < i → (ym j = 1 ∧ j = ot_bs be n ∧ ¬ br j) ∨ (ym j = 0 ∧ ¬ (j = ot_bs be n ∧ ¬ br j))) (4 ^ n) ym (fun j hj => by omega) ?_ ?_
  · intro fu ym hI
    simp only [wY_findMet_9, oy_st T0]
    refine br_t (nI_le (Nat.le_refl _) (by omega)) ⟨4 ^ n + 2, key (4 ^ n + 2) 1 ym ⟨fun s hs => ?_, fun q => ?_⟩ (fun q => absurd q ot_01') (Or.inr rfl) (by rw [if_neg ot_01']; omega)⟩
    · rcases hI s hs with ⟨a, b, c⟩ | ⟨a, _⟩
      · exact Or.inr ⟨a, by rw [b] at c ⊢; exact ot_R0 c⟩
      · exact Or.inl a
    · rcases hI _ s0ok.1 with ⟨a, _⟩ | ⟨_, b⟩
      · exact a
      · exact absurd ⟨rfl, q⟩ b
  · intro fu i ym hi hI ih
    simp only [wY_findMet_9, oy_st T0]
    refine br_f (nI_ge hi (by omega)) ?_
    have iv : vp_in (nI i) 1024 := vp_in_nI (by omega) (by omega)
    have nx1 : ∀ x, ((x = 1 ∧ i = ot_bs be n ∧ ¬ br i) ∨ (x = 0 ∧ ¬ (i = ot_bs be n ∧ ¬ br i))) → wY_findMet_9 post x1 x2 x3 (nI (ot_bs be n)) (nI n) (nI d) (nI m) rz fu (nI (i + 1)) aC aN aE aB aG yl yf (upd ym i x) yb yd yr := fun x hx => ih _ (lt_s (fun j hj => by rw [pk_un (by omega)]; exact hI j hj) (by rw [pk_us]; exact hx))
    have e1 : ∀ x : Int32, upd ym (nI i).toNatClampNeg x = upd ym i x := fun x => by rw [nI_clamp (by omega)]
    have slt := ot_ok_lt hn s0ok
    rcases Classical.em (i = ot_bs be n) with z | z
    · refine br_t (by rw [z]) ?_
      rcases hb with ⟨w1, w2⟩ | ⟨v, x, hv, hx, rfl, rfl, w⟩
      · exact br_t (by rw [w1]; decide) ⟨iv, nm_r (e1 _) (nm_r (nI_1 i) (nx1 1 (Or.inl ⟨rfl, z, w2 _⟩)))⟩
      · refine br_f (nI_pos (by omega)) (oy_val (by omega) hv ?_)
        have v4 := ot_vl4 i v
        rcases Classical.em (br i) with q | q
        · exact br_t (by rw [(w _).mp q]) ⟨iv, nm_r (e1 _) (nm_r (nI_1 i) (nx1 0 (Or.inr ⟨rfl, fun u => u.2 q⟩)))⟩
        · exact br_f (fun u => q ((w _).mpr ((nI_eq (by omega) (by omega)).mp u))) ⟨iv, nm_r (e1 _) (nm_r (nI_1 i) (nx1 1 (Or.inl ⟨rfl, z, q⟩)))⟩
    · exact br_f (fun u => z ((nI_eq (by omega) (by omega)).mp u)) ⟨iv, nm_r (e1 _) (nm_r (nI_1 i) (nx1 0 (Or.inr ⟨rfl, fun u => z u.1⟩)))⟩
theorem oy_meets (T : ot_T n d m co ne ef be go aC aN aE aB aG) {R : Nat → Prop} {ym : Nat → Int32} (hM : ot_MF n R ym) (hR : ∀ s, R s → s < 4 ^ n) {post : Int32 → Prop} (h1 : (∃ s, R s ∧ ot_gl n go s) → post 1) (h0 : (¬ ∃ s, R s ∧ ot_gl n go s) → post 0) : wpY_meetsGoal post (nI n, nI d, nI m, rz, aC, aN, aE, aB, aG, yl, yf, ym, yb, yd, yr) := by
  have T0 := T
  obtain ⟨⟨⟨hn1, hn⟩, ⟨hd1, hd⟩, hm⟩, ⟨hC, hco⟩, ⟨hN, hne⟩, ⟨hE, hef⟩, ⟨hB, hbe⟩, ⟨hG, hgo⟩⟩ := T
  have p4 := ot_4n hn
  have p1 := ot_4p n
  refine loop_0 (σ := Unit) (fun fu i _ => wY_meetsGoal_2 post (nI n) (nI d) (nI m) rz aC aN aE aB aG yl yf ym yb yd yr fu (nI i)) (fun i _ => ∀ j, j < i → ¬ (R j ∧ ot_gl n go j)) (4 ^ n) () (fun j hj => by omega) ?_ ?_
  · intro fu _ hI
    simp only [wY_meetsGoal_2, oy_st T0]
    exact br_t (nI_le (Nat.le_refl _) (by omega)) (h0 (fun ⟨s, a, b⟩ => hI s (hR s a) ⟨a, b⟩))
  · intro fu i _ hi hI ih
    simp only [wY_meetsGoal_2, oy_st T0]
    refine br_f (nI_ge hi (by omega)) ⟨vp_in_nI (by omega) (by omega), ?_⟩
    rw [nI_clamp (by omega)]
    rcases hM i hi with ⟨a, b⟩ | ⟨a, b⟩
    · exact br_f (by rw [a]; decide) (oy_isGoal T0 (by omega) (fun g => br_f (by decide) (h1 ⟨i, b, g⟩)) (fun g => br_t rfl (nm_r (nI_1 i) (ih () (lt_s hI (fun q => g q.2))))))
    · exact br_t a (nm_r (nI_1 i) (ih () (lt_s hI (fun q => b q.1))))
end
end
section
/-! the reference's ways -/
def ot_EY (n d m : Nat) (ne ef : Nat → Nat) (o s t : Nat) : Prop := ot_ok n d s ∧ o < m ∧ ot_ap n ne o s ∧ t = ot_nx ef o s n
def ot_LF (n : Nat) (w : Nat → Nat) (yl yf : Nat → Int32) : Prop := (∀ s, w s ≤ 1000000000) ∧ (∀ s, ¬ s < 4 ^ n → w s = 1000000000) ∧ ∀ s, s < 4 ^ n → (w s = 1000000000 → yl s = nI 1000000) ∧ (w s ≠ 1000000000 → yl s = nI (w s / 1024) ∧ yf s = nI (w s % 1024))
theorem ot_LFup {n : Nat} {w : Nat → Nat} {yl yf : Nat → Int32} (h : ot_LF n w yl yf) {s C L : Nat} (hs : s < 4 ^ n) (hL : L ≤ 1023) (hx : 1024 * C + L < 1000000000) : ot_LF n (ot_up w s (1024 * C + L)) (upd yl s (nI C)) (upd yf s (nI L)) := by
  refine ⟨fun s' => ?_, fun s' hs' => ?_, fun s' hs' => ?_⟩
  · rcases Classical.em (s' = s) with e | e
    · rw [e, ot_us]; omega
    · rw [ot_un e]; exact h.1 s'
  · rw [ot_un (fun e => hs' (by rw [e]; exact hs))]; exact h.2.1 s' hs'
  · rcases Classical.em (s' = s) with e | e
    · rw [e, ot_us, pk_us, pk_us, show (1024 * C + L) / 1024 = C by omega, show (1024 * C + L) % 1024 = L by omega]
      exact ⟨fun z => by omega, fun _ => ⟨rfl, rfl⟩⟩
    · rw [ot_un e, pk_un e, pk_un e]; exact h.2.2 s' hs'
section
variable {n d m : Nat} {co ne ef be go : Nat → Nat} {aC aN aE aB aG ym yb yd yr : Nat → Int32} {rz : Int32} {g : Nat → Prop} {w : Nat → Nat}
theorem oy_improve (T : ot_T n d m co ne ef be go aC aN aE aB aG) {yl yf : Nat → Int32} (hw : ot_LF n w yl yf) (hI : ot_I (ot_EY n d m ne ef) co g w) {s o : Nat} (hs : ot_ok n d s) (ho : o < m) {post : Int32 → SY → Prop}
    (h1 : ot_ap n ne o s → w (ot_nx ef o s n) ≠ 1000000000 → w (ot_nx ef o s n) + (1024 * co o + 1) < w s → ∀ yl yf, ot_LF n (ot_up w s (w (ot_nx ef o s n) + (1024 * co o + 1))) yl yf → post 1 (nI n, nI d, nI m, rz, aC, aN, aE, aB, aG, yl, yf, ym, yb, yd, yr))
    (h0 : (ot_ap n ne o s → w (ot_nx ef o s n) ≠ 1000000000 → w s ≤ w (ot_nx ef o s n) + (1024 * co o + 1)) → post 0 (nI n, nI d, nI m, rz, aC, aN, aE, aB, aG, yl, yf, ym, yb, yd, yr)) : wpY_improve post (nI n, nI d, nI m, rz, aC, aN, aE, aB, aG, yl, yf, ym, yb, yd, yr) (nI s) (nI o) := by
  have T0 := T
  obtain ⟨⟨⟨hn1, hn⟩, ⟨hd1, hd⟩, hm⟩, ⟨hC, hco⟩, ⟨hN, hne⟩, ⟨hE, hef⟩, ⟨hB, hbe⟩, ⟨hG, hgo⟩⟩ := T
  have slt := ot_ok_lt hn hs
  refine oy_use T0 hs (by omega) (fun ha => ?_) (fun ha => br_t (by decide) (h0 (fun y => absurd y ha)))
  have tok := ot_nx_ok (o := o) hn hd hef hs n (Nat.le_refl _)
  have tlt := ot_ok_lt hn tok
  have it : vp_in (nI (ot_nx ef o s n)) 1024 := vp_in_nI tlt (by omega)
  have is : vp_in (nI s) 1024 := vp_in_nI slt (by omega)
  have io : vp_in (nI o) 10 := vp_in_nI (by omega) (by omega)
  have ct : (nI (ot_nx ef o s n)).toNatClampNeg = ot_nx ef o s n := nI_clamp (by omega)
  have cs : (nI s).toNatClampNeg = s := nI_clamp (by omega)
  have cO : (nI o).toNatClampNeg = o := nI_clamp (by omega)
  have c9 := hco o
  have hCo := hC o (by omega)
  have wt := hw.2.2 _ tok.1
  have ws := hw.2.2 s hs.1
  refine br_f (nI_pos (by omega)) ⟨it, ?_⟩
  rw [ct, cO, cs]
  rcases Classical.em (w (ot_nx ef o s n) = 1000000000) with z | z
  · exact br_f (by rw [wt.1 z]; exact nI_nlt (b := 1000000) (by omega) (by omega)) (h0 (fun _ y => absurd z y))
  · obtain ⟨C, L, e1, hC, hL, _, _⟩ := ot_Ib hI z
    have d1 : w (ot_nx ef o s n) / 1024 = C := by omega
    have d2 : w (ot_nx ef o s n) % 1024 = L := by omega
    have wt2 := wt.2 z
    rw [d1, d2] at wt2
    have acc : w (ot_nx ef o s n) + (1024 * co o + 1) < w s → wY_improve_84 post (nI s) (nI (co o + C)) (nI (L + 1)) (nI n) (nI d) (nI m) rz aC aN aE aB aG yl yf ym yb yd yr := fun hlt => by
      have ws9 := hw.1 s
      have hr := ot_relax hI (hco o) slt ⟨hs, ho, ha, rfl⟩ z hlt
      have n0 : ot_up w s (w (ot_nx ef o s n) + (1024 * co o + 1)) s ≠ 1000000000 := by rw [ot_us]; omega
      obtain ⟨C2, L2, e2, hC2, hL2, _, _⟩ := ot_Ib hr n0
      rw [ot_us] at e2
      have lf := ot_LFup hw (s := s) (C := co o + C) (L := L + 1) hs.1 (by omega) (by omega)
      rw [show 1024 * (co o + C) + (L + 1) = w (ot_nx ef o s n) + (1024 * co o + 1) by omega] at lf
      exact ⟨is, nm_r (by rw [cs]) ⟨is, nm_r (by rw [cs]) (h1 ha z hlt _ _ lf)⟩⟩
    refine br_t (by rw [wt2.1]; exact nI_lt (b := 1000000) (by omega) (by omega)) ⟨io, it, nm_r (e' := nI (co o + C)) (by rw [hCo, wt2.1, nI_add]) ⟨it, nm_r (e' := nI (L + 1)) (by rw [wt2.2, nI_1]) ⟨is, ?_⟩⟩⟩
    rcases Classical.em (w s = 1000000000) with y | y
    · rw [ws.1 y]
      exact br_f (nI_nlt (by omega) (by omega)) ⟨is, br_f (fun q => by have := (nI_eq (by omega) (by omega)).mp q; omega) (acc (by omega))⟩
    · obtain ⟨C', L', e1', hC', hL', _, _⟩ := ot_Ib hI y
      have ws2 := ws.2 y
      rw [show w s / 1024 = C' by omega, show w s % 1024 = L' by omega] at ws2
      rw [ws2.1, ws2.2]
      rcases Nat.lt_or_ge C' (co o + C) with q | q
      · exact br_t (nI_lt q (by omega)) (h0 (fun _ _ => by omega))
      · refine br_f (nI_nlt q (by omega)) ⟨is, ?_⟩
        rcases Classical.em (co o + C = C') with p | p
        · refine br_t (by rw [p]) ⟨is, ?_⟩
          rcases Nat.lt_or_ge (L + 1) L' with u | u
          · exact br_t (nI_lt u (by omega)) (acc (by omega))
          · exact br_f (nI_nlt u (by omega)) (h0 (fun _ _ => by omega))
        · exact br_f (fun u => p ((nI_eq (by omega) (by omega)).mp u)) (acc (by omega))
theorem oy_fc81 (T : ot_T n d m co ne ef be go aC aN aE aB aG) {w0 : Nat → Nat} {post : SY → Prop} {J63 : Int32 → Int32 → Int32 → Int32 → Int32 → (Nat → Int32) → (Nat → Int32) → (Nat → Int32) → (Nat → Int32) → (Nat → Int32) → (Nat → Int32) → (Nat → Int32) → (Nat → Int32) → (Nat → Int32) → (Nat → Int32) → (Nat → Int32) → Prop} {J : Int32 → Int32 → Int32 → Int32 → Int32 → Int32 → (Nat → Int32) → (Nat → Int32) → (Nat → Int32) → (Nat → Int32) → (Nat → Int32) → (Nat → Int32) → (Nat → Int32) → (Nat → Int32) → (Nat → Int32) → (Nat → Int32) → (Nat → Int32) → Prop} {s : Nat} (hs : s < 4 ^ n)
    (hJ : ∀ c yl yf w, (c = 0 ∨ c = 1) → (c = 0 → w = w0) → (c = 1 → ot_sm w (4 ^ n) < ot_sm w0 (4 ^ n)) → ot_LF n w yl yf → ot_Rx (ot_EY n d m ne ef) co g (fun _ s' => s' < s + 1) w0 w → J c (nI (s + 1)) (nI n) (nI d) (nI m) rz aC aN aE aB aG yl yf ym yb yd yr) :
    ∀ fu o c yl yf w, o ≤ m → m - o < fu → (c = 0 ∨ c = 1) → (c = 0 → w = w0) → (c = 1 → ot_sm w (4 ^ n) < ot_sm w0 (4 ^ n)) → ot_LF n w yl yf → ot_Rx (ot_EY n d m ne ef) co g (fun o' s' => s' < s ∨ (s' = s ∧ o' < o)) w0 w → wY_findCosts_81 post J63 J (nI s) fu c (nI o) (nI n) (nI d) (nI m) rz aC aN aE aB aG yl yf ym yb yd yr := by
  have T0 := T
  obtain ⟨⟨⟨hn1, hn⟩, ⟨hd1, hd⟩, hm⟩, ⟨hC, hco⟩, ⟨hN, hne⟩, ⟨hE, hef⟩, ⟨hB, hbe⟩, ⟨hG, hgo⟩⟩ := T
  have p4 := ot_4n hn
  intro fu
  induction fu with
  | zero => intro o c yl yf w _ h; omega
  | succ fu ih =>
  intro o c yl yf w ho hfu hc hc0 hc1 hw hI
  rcases Nat.lt_or_ge o m with z | z
  · refine br_f (nI_ge z (by omega)) (oy_isState T0 (by omega) (fun hv => ?_) (fun hv => ?_))
    · have sok : ot_ok n d s := ⟨hs, hv⟩
      have hD : ∀ o' s', (s' < s ∨ (s' = s ∧ o' < o + 1)) → (s' < s ∨ (s' = s ∧ o' < o)) ∨ (o' = o ∧ s' = s) := fun o' s' y => by omega
      refine br_f ot_01' (oy_improve T0 hw hI.1 sok z (fun a1 a2 a3 yl' yf' hw' => ?_) (fun a1 => ?_))
      · have hr := ot_Rxle hI (hco o) (by omega) (fun t' he => he.2.2.2) ⟨sok, z, a1, rfl⟩ a2 rfl a3
        refine br_f ot_01' (nm_r (nI_1 o) (ih (o + 1) 1 yl' yf' _ (by omega) (by omega) (Or.inr rfl) (fun q => absurd q ot_01') (fun _ => ?_) hw' (ot_RxD hr (fun o' s' _ _ => hD o' s'))))
        have l1 := ot_smlt (w := w) (w' := ot_up w s (w (ot_nx ef o s n) + (1024 * co o + 1))) (fun s' => ot_ule (Nat.le_of_lt a3) s') (a := s) (by rw [ot_us]; exact a3) (4 ^ n) hs
        have l2 := ot_smle hI.2.1 (4 ^ n)
        omega
      · have hr := ot_Rxge hI (s := s) (o := o) (fun t he ht => by
          obtain ⟨-, -, q1, rfl⟩ := he
          exact a1 q1 ht)
        have nx1 : wY_findCosts_81 post J63 J (nI s) fu c (nI (o + 1)) (nI n) (nI d) (nI m) rz aC aN aE aB aG yl yf ym yb yd yr := ih (o + 1) c yl yf w (by omega) (by omega) hc hc0 hc1 hw (ot_RxD hr (fun o' s' _ _ => hD o' s'))
        refine br_t rfl ?_
        rcases hc with q | q
        · subst q; exact br_t rfl (nm_r (nI_1 o) nx1)
        · subst q; exact br_f ot_01' (nm_r (nI_1 o) nx1)
    · exact br_t rfl (nm_r (nI_1 s) (hJ c yl yf w hc hc0 hc1 hw (ot_RxD hI (fun o' s' t he y => by
        rcases Classical.em (s' = s) with q | q
        · subst q; exact absurd he.1.2 hv
        · exact Or.inl (by omega)))))
  · exact br_t (nI_le z (by omega)) (nm_r (nI_1 s) (hJ c yl yf w hc hc0 hc1 hw (ot_RxD hI (fun o' s' t he y => by have := he.2.1; omega))))
theorem oy_findCosts (T : ot_T n d m co ne ef be go aC aN aE aB aG) {yl yf : Nat → Int32} {post : SY → Prop}
    (h : ∀ yl yf w, ot_LF n w yl yf → ot_I (ot_EY n d m ne ef) co (fun s => ot_ok n d s ∧ ot_gl n go s) w → ot_S (ot_EY n d m ne ef) co (fun s => ot_ok n d s ∧ ot_gl n go s) w → post (nI n, nI d, nI m, rz, aC, aN, aE, aB, aG, yl, yf, ym, yb, yd, yr)) : wpY_findCosts post (nI n, nI d, nI m, rz, aC, aN, aE, aB, aG, yl, yf, ym, yb, yd, yr) := by
  have T0 := T
  obtain ⟨⟨⟨hn1, hn⟩, ⟨hd1, hd⟩, hm⟩, ⟨hC, hco⟩, ⟨hN, hne⟩, ⟨hE, hef⟩, ⟨hB, hbe⟩, ⟨hG, hgo⟩⟩ := T
  have p4 := ot_4n hn
  have p1 := ot_4p n
  have k71 : ∀ (J63 : Int32 → Int32 → Int32 → Int32 → Int32 → (Nat → Int32) → (Nat → Int32) → (Nat → Int32) → (Nat → Int32) → (Nat → Int32) → (Nat → Int32) → (Nat → Int32) → (Nat → Int32) → (Nat → Int32) → (Nat → Int32) → (Nat → Int32) → Prop) (w0 : Nat → Nat), (∀ c yl yf w, (c = 0 ∨ c = 1) → (c = 0 → w = w0) → (c = 1 → ot_sm w (4 ^ n) < ot_sm w0 (4 ^ n)) → ot_LF n w yl yf → ot_Rx (ot_EY n d m ne ef) co (fun s => ot_ok n d s ∧ ot_gl n go s) (fun _ _ => True) w0 w → J63 c (nI n) (nI d) (nI m) rz aC aN aE aB aG yl yf ym yb yd yr) →
      ∀ fu s c yl yf w, s ≤ 4 ^ n → 4 ^ n - s < fu → (c = 0 ∨ c = 1) → (c = 0 → w = w0) → (c = 1 → ot_sm w (4 ^ n) < ot_sm w0 (4 ^ n)) → ot_LF n w yl yf → ot_Rx (ot_EY n d m ne ef) co (fun s => ot_ok n d s ∧ ot_gl n go s) (fun _ s' => s' < s) w0 w → wY_findCosts_71 post J63 fu c (nI s) (nI n) (nI d) (nI m) rz aC aN aE aB aG yl yf ym yb yd yr := by
    intro J63 w0 hJ fu
    induction fu with
    | zero => intro s c yl yf w _ h; omega
    | succ fu ih =>
    intro s c yl yf w hs hfu hc hc0 hc1 hw hI
    simp only [wY_findCosts_71, oy_st T0]
    rcases Nat.lt_or_ge s (4 ^ n) with z | z
    · exact br_f (nI_ge z (by omega)) ⟨m + 1, oy_fc81 T0 z (fun c yl yf w a b c' e f' => ih (s + 1) c yl yf w (by omega) (by omega) a b c' e f') (m + 1) 0 c yl yf w (Nat.zero_le _) (by omega) hc hc0 hc1 hw (ot_RxD hI (fun o' s' t _ y => by omega))⟩
    · exact br_t (nI_le z (by omega)) (hJ c yl yf w hc hc0 hc1 hw (ot_RxD hI (fun o' s' t he _ => by have := he.1.1; omega)))
  have k63 : ∀ fu c yl yf w, (c = 0 ∨ c = 1) → (c = 0 → ot_S (ot_EY n d m ne ef) co (fun s => ot_ok n d s ∧ ot_gl n go s) w) → ot_sm w (4 ^ n) + (if c = 0 then 0 else 1) < fu → ot_LF n w yl yf → ot_I (ot_EY n d m ne ef) co (fun s => ot_ok n d s ∧ ot_gl n go s) w → (∀ s, ot_ok n d s ∧ ot_gl n go s → w s = 0) → wY_findCosts_63 post fu c (nI n) (nI d) (nI m) rz aC aN aE aB aG yl yf ym yb yd yr := by
    intro fu
    induction fu with
    | zero => intro c yl yf w _ _ h; omega
    | succ fu ih =>
    intro c yl yf w hc hS hfu hw hI hg
    rcases hc with z | z
    · exact br_t z (h yl yf w hw hI (hS z))
    · subst z
      rw [if_neg ot_01'] at hfu
      refine br_f ot_01' ⟨4 ^ n + 1, k71 _ w (fun c' yl' yf' w' a b c2 e f' => ?_) (4 ^ n + 1) 0 0 yl yf w (Nat.zero_le _) (by omega) (Or.inl rfl) (fun _ => rfl) (fun q => absurd q ot_01) hw (ot_RxD (ot_Rx0 hI hw.1) (fun o' s' t _ y => by omega))⟩
      have hg' : ∀ s, ot_ok n d s ∧ ot_gl n go s → w' s = 0 := fun s hs => by have := hg s hs; have := f'.2.1 s; omega
      rcases a with q | q
      · subst q
        have e2 := b rfl
        subst e2
        exact ih 0 yl' yf' w' (Or.inl rfl) (fun _ => ⟨hw.1, hg', fun o s t he ht => f'.2.2.2 o s t he trivial ht⟩) (by rw [if_pos rfl]; omega) e f'.1 hg'
      · subst q
        have := c2 rfl
        exact ih 1 yl' yf' w' (Or.inr rfl) (fun q => absurd q ot_01') (by rw [if_neg ot_01']; omega) e f'.1 hg'
  refine loop_0 (fun fu i (q : (Nat → Int32) × (Nat → Int32)) => wY_findCosts_2 post (nI n) (nI d) (nI m) rz fu (nI i) aC aN aE aB aG q.1 q.2 ym yb yd yr) (fun i q => ∀ j, j < i → (ot_ok n d j ∧ ot_gl n go j → q.1 j = 0) ∧ (¬ (ot_ok n d j ∧ ot_gl n go j) → q.1 j = 1000000) ∧ q.2 j = 0) (4 ^ n) (yl, yf) (fun j hj => by omega) ?_ ?_
  · intro fu q hI
    simp only [wY_findCosts_2, oy_st T0]
    refine br_t (nI_le (Nat.le_refl _) (by omega)) ⟨_, k63 (ot_sm (ot_w0 (fun s => ot_ok n d s ∧ ot_gl n go s)) (4 ^ n) + 2) 1 q.1 q.2 (ot_w0 (fun s => ot_ok n d s ∧ ot_gl n go s)) (Or.inr rfl) (fun p => absurd p ot_01') (by rw [if_neg ot_01']; omega) ⟨ot_w0le _, fun s hs => ot_w0f (fun p => hs p.1.1), fun s hs => ?_⟩ (ot_w0I (fun s hs => ot_ok_lt hn hs.1)) (fun s hs => ot_w0t hs)⟩
    have a := hI s hs
    rcases Classical.em (ot_ok n d s ∧ ot_gl n go s) with p | p
    · rw [ot_w0t (g := fun s => ot_ok n d s ∧ ot_gl n go s) p]
      exact ⟨fun u => by omega, fun _ => ⟨a.1 p, a.2.2⟩⟩
    · rw [ot_w0f (g := fun s => ot_ok n d s ∧ ot_gl n go s) p]
      exact ⟨fun _ => a.2.1 p, fun u => absurd rfl u⟩
  · intro fu i q hi hI ih
    simp only [wY_findCosts_2, oy_st T0]
    have iv : vp_in (nI i) 1024 := vp_in_nI (by omega) (by omega)
    have ci : (nI i).toNatClampNeg = i := nI_clamp (by omega)
    have fin : ∀ x : Int32, ((ot_ok n d i ∧ ot_gl n go i → x = 0) ∧ (¬ (ot_ok n d i ∧ ot_gl n go i) → x = 1000000)) → wY_findCosts_47 post (wY_findCosts_2 post (nI n) (nI d) (nI m) rz fu) (nI i) x (nI i) (nI n) (nI d) (nI m) rz aC aN aE aB aG q.1 q.2 ym yb yd yr := fun x hx =>
      ⟨iv, nm_r (e' := upd q.1 i x) (by rw [ci]) ⟨iv, nm_r (e' := upd q.2 i 0) (by rw [ci]) (nm_r (nI_1 i) (ih (upd q.1 i x, upd q.2 i 0) (lt_s (fun j hj => by
        show (_ → upd q.1 i x j = 0) ∧ (_ → upd q.1 i x j = 1000000) ∧ upd q.2 i 0 j = 0
        rw [pk_un (by omega), pk_un (by omega)]; exact hI j hj) (by
        show (_ → upd q.1 i x i = 0) ∧ (_ → upd q.1 i x i = 1000000) ∧ upd q.2 i 0 i = 0
        rw [pk_us, pk_us]; exact ⟨hx.1, hx.2, rfl⟩))))⟩⟩
    refine br_f (nI_ge hi (by omega)) (oy_isState T0 (by omega) (fun hv => ?_) (fun hv => ?_))
    · refine br_f ot_01' (oy_isGoal T0 (by omega) (fun hg => ?_) (fun hg => ?_))
      · exact br_f ot_01' (br_f ot_01' (fin 0 ⟨fun _ => rfl, fun p => absurd ⟨⟨hi, hv⟩, hg⟩ p⟩))
      · exact br_t rfl (br_t rfl (fin 1000000 ⟨fun p => absurd p.2 hg, fun _ => rfl⟩))
    · exact br_t rfl (br_t rfl (fin 1000000 ⟨fun p => absurd p.1.2 hv, fun _ => rfl⟩))
end
end
section
/-! the relation, the constructors, the calls that write the task -/
def i_Rel (_ : Nat) (u : SX) (v : SY) : Prop := ∃ (n d m : Nat) (co ne ef be go : Nat → Nat) (aC aN aE aB aG : Nat → Int32) (mt lc rz : Int32) (od sn mv rm bd ls ah yl yf ym yb yd yr : Nat → Int32), u = (nI n, nI d, nI m, mt, lc, aC, aN, aE, aB, aG, od, sn, mv, rm, bd, ls, ah) ∧ v = (nI n, nI d, nI m, rz, aC, aN, aE, aB, aG, yl, yf, ym, yb, yd, yr) ∧ ot_T n d m co ne ef be go aC aN aE aB aG
theorem i_mk {k n d m : Nat} {co ne ef be go : Nat → Nat} {aC aN aE aB aG : Nat → Int32} {mt lc rz : Int32} {od sn mv rm bd ls ah yl yf ym yb yd yr : Nat → Int32} (T : ot_T n d m co ne ef be go aC aN aE aB aG) : i_Rel k (nI n, nI d, nI m, mt, lc, aC, aN, aE, aB, aG, od, sn, mv, rm, bd, ls, ah) (nI n, nI d, nI m, rz, aC, aN, aE, aB, aG, yl, yf, ym, yb, yd, yr) := ⟨n, d, m, co, ne, ef, be, go, aC, aN, aE, aB, aG, mt, lc, rz, od, sn, mv, rm, bd, ls, ah, yl, yf, ym, yb, yd, yr, rfl, rfl, T⟩
theorem i_up {k : Nat} {u : SX} {v : SY} (h : i_Rel k u v) : i_Rel (k + 5) u v := h
theorem ot_clamp (x : Int32) {lo hi : Nat} (hl : lo ≤ hi) (hh : hi < 2 ^ 31) : ∃ q, lo ≤ q ∧ q ≤ hi ∧ ∀ A : Int32 → Prop, A (nI q) → ((nI lo ≤ x → ((x ≤ nI hi → A x) ∧ (¬ x ≤ nI hi → A (nI hi)))) ∧ (¬ nI lo ≤ x → A (nI lo))) := by
  rcases Classical.em (nI lo ≤ x) with a | a
  · rcases Classical.em (x ≤ nI hi) with b | b
    · have n0 : ¬ x < 0 := by
        have h0 := nI_pos' (n := lo) (by omega)
        exact Int32.not_lt.mpr (Int32.le_trans h0 a)
      obtain ⟨q, hq, rfl⟩ := nI_of n0
      exact ⟨q, (nI_leI (by omega) hq).mp a, (nI_leI hq hh).mp b, fun A h => br_t a (br_t b h)⟩
    · exact ⟨hi, hl, Nat.le_refl _, fun A h => br_t a (br_f b h)⟩
  · exact ⟨lo, Nat.le_refl _, hl, fun A h => br_f a h⟩
def ot_gz : Nat → Nat → Int32
  | 0 => fun _ => 0
  | i + 1 => upd (ot_gz i) i (-1)
theorem ot_gzv : ∀ i j, j < i → ot_gz i j = -1
  | 0, j, h => by omega
  | i + 1, j, h => by
    show upd (ot_gz i) i (-1) j = -1
    rcases Classical.em (j = i) with e | e
    · rw [e, pk_us]
    · rw [pk_un e]; exact ot_gzv i j (by omega)
theorem i_vc0 (k0 : Int32) (k1 : Int32) : wpX_init (fun u => wpY_init (fun v => i_Rel 2 u v) k0 k1) k0 k1 := by
  obtain ⟨n, hn1, hn, An⟩ := ot_clamp k0 (lo := 1) (hi := 5) (by omega) (by omega)
  obtain ⟨d, hd1, hd, Ad⟩ := ot_clamp k1 (lo := 2) (hi := 4) (by omega) (by omega)
  have r1 : (0 : Int32) = ot_rv 1 := by decide
  have d1 : 1 ≤ d := by omega
  have d0 : 0 < d := by omega
  have T : ot_T n d 0 (fun _ => 0) (fun _ => 1) (fun _ => 1) (fun _ => 0) (fun _ => 0) (fun _ => 0) (fun _ => 0) (fun _ => 0) (fun _ => 0) (ot_gz 5) :=
    ⟨⟨⟨hn1, hn⟩, ⟨hd1, hd⟩, by omega⟩, ⟨fun _ _ => rfl, fun _ => Nat.zero_le _⟩, ⟨fun _ _ => r1, fun _ => d1⟩, ⟨fun _ _ => r1, fun _ => d1⟩, ⟨fun _ _ => rfl, fun _ => d0⟩, ⟨fun j hj => (ot_gzv 5 j hj).trans ot_rv0.symm, fun _ => Nat.zero_le _⟩⟩
  refine An (fun y => wpX_within (fun z => ∃ n140 : Nat, wX_init_140 (fun u => wpY_init (fun v => i_Rel 2 u v) k0 k1) y z 0 0 0 n140 0 (fun _ => 0) (fun _ => 0) (fun _ => 0) (fun _ => 0) (fun _ => 0) (fun _ => 0) (fun _ => 0) (fun _ => 0) (fun _ => 0) (fun _ => 0) (fun _ => 0) (fun _ => 0)) k1 2 4) ?_
  refine Ad (fun z => ∃ n140 : Nat, wX_init_140 (fun u => wpY_init (fun v => i_Rel 2 u v) k0 k1) (nI n) z 0 0 0 n140 0 (fun _ => 0) (fun _ => 0) (fun _ => 0) (fun _ => 0) (fun _ => 0) (fun _ => 0) (fun _ => 0) (fun _ => 0) (fun _ => 0) (fun _ => 0) (fun _ => 0) (fun _ => 0)) ?_
  refine loop_0 (σ := Unit) (fun fu i _ => wX_init_140 (fun u => wpY_init (fun v => i_Rel 2 u v) k0 k1) (nI n) (nI d) 0 0 0 fu (nI i) (fun _ => 0) (fun _ => 0) (fun _ => 0) (fun _ => 0) (ot_gz i) (fun _ => 0) (fun _ => 0) (fun _ => 0) (fun _ => 0) (fun _ => 0) (fun _ => 0) (fun _ => 0)) (fun _ _ => True) 5 () trivial ?_ ?_
  · intro fu _ _
    refine br_t (by decide) ?_
    refine An (fun z => wY_init_115 (fun v => i_Rel 2 (nI n, nI d, 0, 0, 0, fun _ => 0, fun _ => 0, fun _ => 0, fun _ => 0, ot_gz 5, fun _ => 0, fun _ => 0, fun _ => 0, fun _ => 0, fun _ => 0, fun _ => 0, fun _ => 0) v) k1 z 0 0 0 0 (fun _ => 0) (fun _ => 0) (fun _ => 0) (fun _ => 0) (fun _ => 0) (fun _ => 0) (fun _ => 0) (fun _ => 0) (fun _ => 0) (fun _ => 0) (fun _ => 0)) ?_
    refine Ad (fun z => ∃ n143 : Nat, wY_init_143 (fun v => i_Rel 2 (nI n, nI d, 0, 0, 0, fun _ => 0, fun _ => 0, fun _ => 0, fun _ => 0, ot_gz 5, fun _ => 0, fun _ => 0, fun _ => 0, fun _ => 0, fun _ => 0, fun _ => 0, fun _ => 0) v) (nI n) z 0 0 n143 0 (fun _ => 0) (fun _ => 0) (fun _ => 0) (fun _ => 0) (fun _ => 0) (fun _ => 0) (fun _ => 0) (fun _ => 0) (fun _ => 0) (fun _ => 0) (fun _ => 0)) ?_
    refine loop_0 (σ := Unit) (fun fu i _ => wY_init_143 (fun v => i_Rel 2 (nI n, nI d, 0, 0, 0, fun _ => 0, fun _ => 0, fun _ => 0, fun _ => 0, ot_gz 5, fun _ => 0, fun _ => 0, fun _ => 0, fun _ => 0, fun _ => 0, fun _ => 0, fun _ => 0) v) (nI n) (nI d) 0 0 fu (nI i) (fun _ => 0) (fun _ => 0) (fun _ => 0) (fun _ => 0) (ot_gz i) (fun _ => 0) (fun _ => 0) (fun _ => 0) (fun _ => 0) (fun _ => 0) (fun _ => 0)) (fun _ _ => True) 5 () trivial ?_ ?_
    · intro fu _ _
      exact br_t (by decide) (i_mk (m := 0) T)
    · intro fu i _ hi _ ih
      exact br_f (nI_ge (b := 5) hi (by decide)) ⟨vp_in_nI hi (by omega), nm_r (e' := ot_gz (i + 1)) (by rw [nI_clamp (by omega)]; rfl) (nm_r (nI_1 i) (ih () trivial))⟩
  · intro fu i _ hi _ ih
    exact br_f (nI_ge (b := 5) hi (by decide)) ⟨vp_in_nI hi (by omega), nm_r (e' := ot_gz (i + 1)) (by rw [nI_clamp (by omega)]; rfl) (nm_r (nI_1 i) (ih () trivial))⟩
/-! ranges -/
theorem ot_rng {x : Int32} {q : Nat} (hq : q < 2 ^ 31) {A B : Prop} (h1 : ∀ j, j < q → x = nI j → B) (h0 : (¬ ∃ j, j < q ∧ x = nI j) → A) : (x < 0 → A) ∧ (¬ x < 0 → ((nI q ≤ x → A) ∧ (¬ nI q ≤ x → B))) := by
  rcases pk_ix x hq with z | z | ⟨j, hj, e⟩
  · exact br_t z (h0 (fun ⟨j, hj, e⟩ => nI_pos (n := j) (by omega) (e ▸ z)))
  · have n0 : ¬ x < 0 := Int32.not_lt.mpr (Int32.le_trans (nI_pos' hq) z)
    exact br_f n0 (br_t z (h0 (fun ⟨j, hj, e⟩ => nI_ge hj hq (e ▸ z))))
  · rw [e]
    exact br_f (nI_pos (by omega)) (br_f (nI_ge hj hq) (h1 j hj e))
theorem ot_von {x : Int32} {d : Nat} (hd : d ≤ 4) {A B : Prop} (h1 : ∀ q, q ≤ d → x = ot_rv q → B) (h0 : (¬ ∃ q, q ≤ d ∧ x = ot_rv q) → A) : (x < (-1) → A) ∧ (¬ x < (-1) → ((nI d ≤ x → A) ∧ (¬ nI d ≤ x → B))) := by
  have key : ∀ q, q < 5 → ¬ ot_rv q < -1 := by decide +kernel
  have key2 : ∀ q, q < 5 → ∀ e, e < 5 → q ≤ e → ¬ nI e ≤ ot_rv q := by decide +kernel
  rcases Classical.em (∃ q, q ≤ d ∧ x = ot_rv q) with ⟨q, hq, e⟩ | hno
  · rw [e]
    exact br_f (key q (by omega)) (br_f (key2 q (by omega) d (by omega) hq) (h1 q hq e))
  · refine br_c (fun _ => h0 hno) (fun z => br_c (fun _ => h0 hno) (fun y => ?_))
    exfalso
    rcases pk_ix x (n := d) (by omega) with w | w | ⟨j, hj, e⟩
    · have e : x = -1 := by
        rw [Int32.lt_iff_toInt_lt, show (-1 : Int32).toInt = -1 from by decide] at z
        rw [Int32.lt_iff_toInt_lt, show (0 : Int32).toInt = 0 from by decide] at w
        exact Int32.toInt_inj.mp (by rw [show (-1 : Int32).toInt = -1 from by decide]; omega)
      exact hno ⟨0, by omega, by rw [e, ot_rv0]⟩
    · exact y w
    · exact hno ⟨j + 1, by omega, by rw [e, ot_rvs]⟩
theorem ot_vony {x : Int32} {d : Nat} (hd : d ≤ 4) {A B : Prop} (h1 : ∀ q, q ≤ d → x = ot_rv q → B) (h0 : (¬ ∃ q, q ≤ d ∧ x = ot_rv q) → A) : (x = (-1) → B) ∧ (¬ x = (-1) → ((x < 0 → A) ∧ (¬ x < 0 → ((nI d ≤ x → A) ∧ (¬ nI d ≤ x → B))))) := by
  refine br_c (fun e => h1 0 (by omega) (by rw [e, ot_rv0])) (fun z => ot_rng (by omega) (fun j hj e => h1 (j + 1) (by omega) (by rw [e, ot_rvs])) (fun hno => h0 (fun ⟨q, hq, e⟩ => ?_)))
  rcases Classical.em (q = 0) with y | y
  · subst y; exact z (by rw [e, ot_rv0])
  · exact hno ⟨q - 1, by omega, by rw [e, ot_rvp y]⟩
section
variable {n d m : Nat} {co ne ef be go : Nat → Nat} {aC aN aE aB aG od sn mv rm bd ls ah yl yf ym yb yd yr : Nat → Int32} {mt lc rz : Int32}
theorem ot_Tn (T : ot_T n d m co ne ef be go aC aN aE aB aG) {j q : Nat} (hj : j < 50) (hq : q ≤ d) : ot_T n d m co (ot_up ne j q) ef be go aC (upd aN j (ot_rv q)) aE aB aG := by
  obtain ⟨⟨⟨hn1, hn⟩, ⟨hd1, hd⟩, hm⟩, ⟨hC, hco⟩, ⟨hN, hne⟩, ⟨hE, hef⟩, ⟨hB, hbe⟩, ⟨hG, hgo⟩⟩ := T
  refine ⟨⟨⟨hn1, hn⟩, ⟨hd1, hd⟩, hm⟩, ⟨hC, hco⟩, ⟨fun i hi => ?_, fun i => ?_⟩, ⟨hE, hef⟩, ⟨hB, hbe⟩, ⟨hG, hgo⟩⟩
  · rcases Classical.em (i = j) with e | e
    · rw [e, pk_us, ot_us]
    · rw [pk_un e, ot_un e]; exact hN i hi
  · rcases Classical.em (i = j) with e | e
    · rw [e, ot_us]; exact hq
    · rw [ot_un e]; exact hne i
theorem ot_Te (T : ot_T n d m co ne ef be go aC aN aE aB aG) {j q : Nat} (hj : j < 50) (hq : q ≤ d) : ot_T n d m co ne (ot_up ef j q) be go aC aN (upd aE j (ot_rv q)) aB aG := by
  obtain ⟨⟨⟨hn1, hn⟩, ⟨hd1, hd⟩, hm⟩, ⟨hC, hco⟩, ⟨hN, hne⟩, ⟨hE, hef⟩, ⟨hB, hbe⟩, ⟨hG, hgo⟩⟩ := T
  refine ⟨⟨⟨hn1, hn⟩, ⟨hd1, hd⟩, hm⟩, ⟨hC, hco⟩, ⟨hN, hne⟩, ⟨fun i hi => ?_, fun i => ?_⟩, ⟨hB, hbe⟩, ⟨hG, hgo⟩⟩
  · rcases Classical.em (i = j) with e | e
    · rw [e, pk_us, ot_us]
    · rw [pk_un e, ot_un e]; exact hE i hi
  · rcases Classical.em (i = j) with e | e
    · rw [e, ot_us]; exact hq
    · rw [ot_un e]; exact hef i
theorem ot_Tb (T : ot_T n d m co ne ef be go aC aN aE aB aG) {j q : Nat} (hj : j < 5) (hq : q < d) : ot_T n d m co ne ef (ot_up be j q) go aC aN aE (upd aB j (nI q)) aG := by
  obtain ⟨⟨⟨hn1, hn⟩, ⟨hd1, hd⟩, hm⟩, ⟨hC, hco⟩, ⟨hN, hne⟩, ⟨hE, hef⟩, ⟨hB, hbe⟩, ⟨hG, hgo⟩⟩ := T
  refine ⟨⟨⟨hn1, hn⟩, ⟨hd1, hd⟩, hm⟩, ⟨hC, hco⟩, ⟨hN, hne⟩, ⟨hE, hef⟩, ⟨fun i hi => ?_, fun i => ?_⟩, ⟨hG, hgo⟩⟩
  · rcases Classical.em (i = j) with e | e
    · rw [e, pk_us, ot_us]
    · rw [pk_un e, ot_un e]; exact hB i hi
  · rcases Classical.em (i = j) with e | e
    · rw [e, ot_us]; exact hq
    · rw [ot_un e]; exact hbe i
theorem ot_Tg (T : ot_T n d m co ne ef be go aC aN aE aB aG) {j q : Nat} (hj : j < 5) (hq : q ≤ d) : ot_T n d m co ne ef be (ot_up go j q) aC aN aE aB (upd aG j (ot_rv q)) := by
  obtain ⟨⟨⟨hn1, hn⟩, ⟨hd1, hd⟩, hm⟩, ⟨hC, hco⟩, ⟨hN, hne⟩, ⟨hE, hef⟩, ⟨hB, hbe⟩, ⟨hG, hgo⟩⟩ := T
  refine ⟨⟨⟨hn1, hn⟩, ⟨hd1, hd⟩, hm⟩, ⟨hC, hco⟩, ⟨hN, hne⟩, ⟨hE, hef⟩, ⟨hB, hbe⟩, ⟨fun i hi => ?_, fun i => ?_⟩⟩
  · rcases Classical.em (i = j) with e | e
    · rw [e, pk_us, ot_us]
    · rw [pk_un e, ot_un e]; exact hG i hi
  · rcases Classical.em (i = j) with e | e
    · rw [e, ot_us]; exact hq
    · rw [ot_un e]; exact hgo i
theorem ot_To (T : ot_T n d m co ne ef be go aC aN aE aB aG) {c : Nat} (hc : c ≤ 9) (hm' : m < 10) : ∀ i, i ≤ 5 → ∀ aN' aE', (∀ j, j < 50 → (5 * m ≤ j ∧ j < 5 * m + i → aN' j = -1 ∧ aE' j = -1) ∧ (¬ (5 * m ≤ j ∧ j < 5 * m + i) → aN' j = aN j ∧ aE' j = aE j)) → ∃ co ne ef, ot_T n d (m + 1) co ne ef be go (upd aC m (nI c)) aN' aE' aB aG := by
  obtain ⟨⟨⟨hn1, hn⟩, ⟨hd1, hd⟩, hm⟩, ⟨hC, hco⟩, ⟨hN, hne⟩, ⟨hE, hef⟩, ⟨hB, hbe⟩, ⟨hG, hgo⟩⟩ := T
  intro i hi aN' aE' h
  refine ⟨ot_up co m c, fun j => if 5 * m ≤ j ∧ j < 5 * m + i then 0 else ne j, fun j => if 5 * m ≤ j ∧ j < 5 * m + i then 0 else ef j, ⟨⟨hn1, hn⟩, ⟨hd1, hd⟩, by omega⟩, ⟨fun j hj => ?_, fun j => ?_⟩, ⟨fun j hj => ?_, fun j => ?_⟩, ⟨fun j hj => ?_, fun j => ?_⟩, ⟨hB, hbe⟩, ⟨hG, hgo⟩⟩
  · rcases Classical.em (j = m) with e | e
    · rw [e, pk_us, ot_us]
    · rw [pk_un e, ot_un e]; exact hC j hj
  · rcases Classical.em (j = m) with e | e
    · rw [e, ot_us]; exact hc
    · rw [ot_un e]; exact hco j
  · dsimp only
    rcases Classical.em (5 * m ≤ j ∧ j < 5 * m + i) with e | e
    · rw [if_pos e, ((h j hj).1 e).1, ot_rv0]
    · rw [if_neg e, ((h j hj).2 e).1]; exact hN j hj
  · dsimp only
    rcases Classical.em (5 * m ≤ j ∧ j < 5 * m + i) with e | e
    · rw [if_pos e]; omega
    · rw [if_neg e]; exact hne j
  · dsimp only
    rcases Classical.em (5 * m ≤ j ∧ j < 5 * m + i) with e | e
    · rw [if_pos e, ((h j hj).1 e).2, ot_rv0]
    · rw [if_neg e, ((h j hj).2 e).2]; exact hE j hj
  · dsimp only
    rcases Classical.em (5 * m ≤ j ∧ j < 5 * m + i) with e | e
    · rw [if_pos e]; omega
    · rw [if_neg e]; exact hef j
end
end
section
/-! operator, need, effect, begin, goal -/
def ot_nz (a : Nat → Int32) (m : Nat) : Nat → Nat → Int32
  | 0 => a
  | i + 1 => upd (ot_nz a m i) (5 * m + i) (-1)
theorem ot_nzv (a : Nat → Int32) (m : Nat) : ∀ i j, (5 * m ≤ j ∧ j < 5 * m + i → ot_nz a m i j = -1) ∧ (¬ (5 * m ≤ j ∧ j < 5 * m + i) → ot_nz a m i j = a j)
  | 0, j => ⟨fun h => by omega, fun _ => rfl⟩
  | i + 1, j => by
    have ih := ot_nzv a m i j
    show (_ → upd (ot_nz a m i) (5 * m + i) (-1) j = -1) ∧ (_ → upd (ot_nz a m i) (5 * m + i) (-1) j = a j)
    rcases Classical.em (j = 5 * m + i) with e | e
    · rw [e, pk_us]; exact ⟨fun _ => rfl, fun h => by omega⟩
    · rw [pk_un e]; exact ⟨fun h => ih.1 (by omega), fun h => ih.2 (by omega)⟩
section
variable {n d m : Nat} {co ne ef be go : Nat → Nat} {aC aN aE aB aG od sn mv rm bd ls ah yl yf ym yb yd yr : Nat → Int32} {mt lc rz : Int32}
theorem ot_To5 (T : ot_T n d m co ne ef be go aC aN aE aB aG) {c : Nat} (hc : c ≤ 9) (hm' : m < 10) : ∃ co ne ef, ot_T n d (m + 1) co ne ef be go (upd aC m (nI c)) (ot_nz aN m 5) (ot_nz aE m 5) aB aG :=
  ot_To T hc hm' 5 (Nat.le_refl _) _ _ (fun j _ => ⟨fun h => ⟨(ot_nzv aN m 5 j).1 h, (ot_nzv aE m 5 j).1 h⟩, fun h => ⟨(ot_nzv aN m 5 j).2 h, (ot_nzv aE m 5 j).2 h⟩⟩)
theorem ox_oper (hm : m < 10) {c : Nat} (hc : c ≤ 9) {post : Int32 → SX → Prop} (h : post (nI m) (nI n, nI d, nI (m + 1), mt, lc, upd aC m (nI c), ot_nz aN m 5, ot_nz aE m 5, aB, aG, od, sn, mv, rm, bd, ls, ah)) : wpX_operator post (nI n, nI d, nI m, mt, lc, aC, aN, aE, aB, aG, od, sn, mv, rm, bd, ls, ah) (nI c) := by
  refine br_f (nI_pos (by omega)) (br_t (nI_le (b := 9) hc (by decide)) (br_t (nI_lt (b := 10) hm (by decide)) ⟨vp_in_nI hm (by omega), nm_r (e' := upd aC m (nI c)) (by rw [nI_clamp (by omega)]) ?_⟩))
  refine loop_0 (σ := Unit) (fun fu i _ => wX_operator_38 post (nI m) (nI n) (nI d) (nI m) mt lc fu (nI i) (upd aC m (nI c)) (ot_nz aN m i) (ot_nz aE m i) aB aG od sn mv rm bd ls ah) (fun _ _ => True) 5 () trivial ?_ ?_
  · intro fu _ _
    exact br_t (by decide) (nm_r (nI_1 m) h)
  · intro fu i _ hi _ ih
    have e5 : nI m * 5 + nI i = nI (5 * m + i) := by rw [show nI m * 5 = nI (m * 5) from pk_mul m 5, nI_add, Nat.mul_comm]
    have iv : vp_in (nI m * 5 + nI i) 50 := by rw [e5]; exact vp_in_nI (by omega) (by omega)
    exact br_f (nI_ge (b := 5) hi (by decide)) ⟨iv, nm_r (e' := ot_nz aN m (i + 1)) (by rw [e5, nI_clamp (by omega)]; rfl) ⟨iv, nm_r (e' := ot_nz aE m (i + 1)) (by rw [e5, nI_clamp (by omega)]; rfl) (nm_r (nI_1 i) (ih () trivial))⟩⟩
theorem oy_oper (hm : m < 10) {c : Nat} (hc : c ≤ 9) {post : Int32 → SY → Prop} (h : post (nI m) (nI n, nI d, nI (m + 1), rz, upd aC m (nI c), ot_nz aN m 5, ot_nz aE m 5, aB, aG, yl, yf, ym, yb, yd, yr)) : wpY_operator post (nI n, nI d, nI m, rz, aC, aN, aE, aB, aG, yl, yf, ym, yb, yd, yr) (nI c) := by
  refine br_f (nI_pos (by omega)) (br_t (nI_le (b := 9) hc (by decide)) (br_f (fun e => by have := (nI_eq (b := 10) (by omega) (by omega)).mp e; omega) ⟨vp_in_nI hm (by omega), nm_r (e' := upd aC m (nI c)) (by rw [nI_clamp (by omega)]) ?_⟩))
  refine loop_0 (σ := Unit) (fun fu i _ => wY_operator_36 post (nI n) (nI d) (nI m) rz fu (nI i) (upd aC m (nI c)) (ot_nz aN m i) (ot_nz aE m i) aB aG yl yf ym yb yd yr) (fun _ _ => True) 5 () trivial ?_ ?_
  · intro fu _ _
    refine br_t (by decide) (nm_r (nI_1 m) ?_)
    rw [nI_pred]
    exact h
  · intro fu i _ hi _ ih
    have e5 : 5 * nI m + nI i = nI (5 * m + i) := by rw [show 5 * nI m = nI (5 * m) from pk_mul 5 m, nI_add]
    have iv : vp_in (5 * nI m + nI i) 50 := by rw [e5]; exact vp_in_nI (by omega) (by omega)
    exact br_f (nI_ge (b := 5) hi (by decide)) ⟨iv, nm_r (e' := ot_nz aN m (i + 1)) (by rw [e5, nI_clamp (by omega)]; rfl) ⟨iv, nm_r (e' := ot_nz aE m (i + 1)) (by rw [e5, nI_clamp (by omega)]; rfl) (nm_r (nI_1 i) (ih () trivial))⟩⟩
end
theorem i_vc_operator {k : Nat} {u : SX} {v : SY} (I : i_Rel k u v) (hk : k + 5 ≤ 2562) (v1 : Int32) : wpX_operator (fun r u' => wpY_operator (fun r' v' => r' = r ∧ i_Rel (k + 5) u' v') v v1) u v1 := by
  obtain ⟨n, d, m, co, ne, ef, be, go, aC, aN, aE, aB, aG, mt, lc, rz, od, sn, mv, rm, bd, ls, ah, yl, yf, ym, yb, yd, yr, rfl, rfl, T⟩ := I
  have hm := T.1.2.2
  rcases Classical.em (v1 < 0) with a | a
  · exact br_t a (br_t a ⟨rfl, i_mk T⟩)
  · rcases Classical.em (v1 ≤ 9) with b | b
    · obtain ⟨c, hc, rfl⟩ := nI_of2 (M := 9) (n := 9) (by decide) a b
      rcases Nat.lt_or_ge m 10 with z | z
      · obtain ⟨co', ne', ef', T'⟩ := ot_To5 T hc z
        exact ox_oper z hc (oy_oper z hc ⟨rfl, i_mk T'⟩)
      · have e : m = 10 := by omega
        subst e
        exact br_f a (br_t b (br_f (by decide) (br_f a (br_t b (br_t rfl ⟨rfl, i_mk T⟩)))))
    · exact br_f a (br_f b (br_f a (br_f b ⟨rfl, i_mk T⟩)))
theorem i_vc_need {k : Nat} {u : SX} {v : SY} (I : i_Rel k u v) (hk : k + 5 ≤ 2562) (v1 : Int32) (v2 : Int32) (v3 : Int32) : wpX_need (fun r u' => wpY_need (fun r' v' => r' = r ∧ i_Rel (k + 5) u' v') v v1 v2 v3) u v1 v2 v3 := by
  obtain ⟨n, d, m, co, ne, ef, be, go, aC, aN, aE, aB, aG, mt, lc, rz, od, sn, mv, rm, bd, ls, ah, yl, yf, ym, yb, yd, yr, rfl, rfl, T⟩ := I
  have T0 := T
  obtain ⟨⟨⟨hn1, hn⟩, ⟨hd1, hd⟩, hm⟩, ⟨hC, hco⟩, ⟨hN, hne⟩, ⟨hE, hef⟩, ⟨hB, hbe⟩, ⟨hG, hgo⟩⟩ := T
  rcases Classical.em (∃ o v q, o < m ∧ v < n ∧ q ≤ d ∧ v1 = nI o ∧ v2 = nI v ∧ v3 = ot_rv q) with ⟨o, v, q, ho, hv, hq, rfl, rfl, rfl⟩ | hno
  · have e5 : 5 * nI o + nI v = nI (5 * o + v) := by rw [show 5 * nI o = nI (5 * o) from pk_mul 5 o, nI_add]
    have e6 : nI o * 5 + nI v = nI (5 * o + v) := by rw [show nI o * 5 = nI (o * 5) from pk_mul o 5, nI_add, Nat.mul_comm]
    have iv : vp_in (nI (5 * o + v)) 50 := vp_in_nI (by omega) (by omega)
    have fy : wY_need_31 (fun r' v' => r' = aN (5 * o + v) ∧ i_Rel (k + 5) (nI n, nI d, nI m, mt, lc, aC, upd aN (5 * o + v) (ot_rv q), aE, aB, aG, od, sn, mv, rm, bd, ls, ah) v') (nI o) (nI v) (ot_rv q) (nI n) (nI d) (nI m) rz aC aN aE aB aG yl yf ym yb yd yr := by
      unfold wY_need_31
      rw [e5, nI_clamp (by omega)]
      exact ⟨iv, nm_e ⟨iv, nm_e ⟨rfl, i_mk (ot_Tn T0 (by omega) hq)⟩⟩⟩
    refine ot_rng (by omega) (fun _ _ _ => br_f ot_01' (ot_rng (by omega) (fun _ _ _ => br_f ot_01' (ot_von hd (fun _ _ _ => br_f ot_01' ?_) (fun y => absurd ⟨q, hq, rfl⟩ y))) (fun y => absurd ⟨v, hv, rfl⟩ y))) (fun y => absurd ⟨o, ho, rfl⟩ y)
    rw [e6]
    refine ⟨iv, nm_r (e' := aN (5 * o + v)) (by rw [nI_clamp (by omega)]) ⟨iv, nm_r (e' := upd aN (5 * o + v) (ot_rv q)) (by rw [nI_clamp (by omega)]) ?_⟩⟩
    exact ot_rng (by omega) (fun _ _ _ => br_f ot_01' (ot_rng (by omega) (fun _ _ _ => br_f ot_01' (br_c (fun _ => fy) (fun w => ot_rng (by omega) (fun _ _ _ => br_f ot_01' fy) (fun y => (y (by
      rcases Classical.em (q = 0) with p | p
      · subst p; exact absurd ot_rv0 w
      · exact ⟨q - 1, by omega, ot_rvp p⟩)).elim)))) (fun y => absurd ⟨v, hv, rfl⟩ y))) (fun y => absurd ⟨o, ho, rfl⟩ y)
  · have fin : (-1 : Int32) = -1 ∧ i_Rel (k + 5) (nI n, nI d, nI m, mt, lc, aC, aN, aE, aB, aG, od, sn, mv, rm, bd, ls, ah) (nI n, nI d, nI m, rz, aC, aN, aE, aB, aG, yl, yf, ym, yb, yd, yr) := ⟨rfl, i_mk T0⟩
    have fy : wpY_need (fun r' v' => r' = -1 ∧ i_Rel (k + 5) (nI n, nI d, nI m, mt, lc, aC, aN, aE, aB, aG, od, sn, mv, rm, bd, ls, ah) v') (nI n, nI d, nI m, rz, aC, aN, aE, aB, aG, yl, yf, ym, yb, yd, yr) v1 v2 v3 :=
      ot_rng (by omega) (fun o ho e1 => br_f ot_01' (ot_rng (by omega) (fun v hv e2 => br_f ot_01' (br_c (fun e => absurd ⟨o, v, 0, ho, hv, by omega, e1, e2, e.trans ot_rv0.symm⟩ hno) (fun _ => ot_rng (by omega) (fun x hx e3 => absurd ⟨o, v, x + 1, ho, hv, by omega, e1, e2, e3.trans (ot_rvs x).symm⟩ hno) (fun _ => br_t rfl fin)))) (fun _ => br_t rfl fin))) (fun _ => br_t rfl fin)
    exact ot_rng (by omega) (fun o ho e1 => br_f ot_01' (ot_rng (by omega) (fun v hv e2 => br_f ot_01' (ot_von hd (fun q hq e3 => absurd ⟨o, v, q, ho, hv, hq, e1, e2, e3⟩ hno) (fun _ => br_t rfl fy))) (fun _ => br_t rfl fy))) (fun _ => br_t rfl fy)
end
section
theorem ot_rng3 {x y : Int32} {p q : Nat} (hp : p < 2 ^ 31) (hq : q < 2 ^ 31) {A B : Prop} (h1 : ∀ v w, v < p → w < q → x = nI v → y = nI w → B) (h0 : A) : (x < 0 → A) ∧ (¬ x < 0 → ((nI p ≤ x → A) ∧ (¬ nI p ≤ x → ((y < 0 → A) ∧ (¬ y < 0 → ((nI q ≤ y → A) ∧ (¬ nI q ≤ y → B))))))) :=
  ot_rng hp (fun v hv e => ot_rng hq (fun w hw e2 => h1 v w hv hw e e2) (fun _ => h0)) (fun _ => h0)
theorem ot_rng2 {p q v w : Nat} (hp : p < 2 ^ 31) (hq : q < 2 ^ 31) (hv : v < p) (hw : w < q) {A B : Prop} (h1 : B) : (nI v < 0 → A) ∧ (¬ nI v < 0 → ((nI p ≤ nI v → A) ∧ (¬ nI p ≤ nI v → ((nI w < 0 → A) ∧ (¬ nI w < 0 → ((nI q ≤ nI w → A) ∧ (¬ nI q ≤ nI w → B))))))) :=
  ot_rng hp (fun _ _ _ => ot_rng hq (fun _ _ _ => h1) (fun y => absurd ⟨w, hw, rfl⟩ y)) (fun y => absurd ⟨v, hv, rfl⟩ y)
theorem i_vc_effect {k : Nat} {u : SX} {v : SY} (I : i_Rel k u v) (hk : k + 5 ≤ 2562) (v1 : Int32) (v2 : Int32) (v3 : Int32) : wpX_effect (fun r u' => wpY_effect (fun r' v' => r' = r ∧ i_Rel (k + 5) u' v') v v1 v2 v3) u v1 v2 v3 := by
  obtain ⟨n, d, m, co, ne, ef, be, go, aC, aN, aE, aB, aG, mt, lc, rz, od, sn, mv, rm, bd, ls, ah, yl, yf, ym, yb, yd, yr, rfl, rfl, T⟩ := I
  have T0 := T
  obtain ⟨⟨⟨hn1, hn⟩, ⟨hd1, hd⟩, hm⟩, ⟨hC, hco⟩, ⟨hN, hne⟩, ⟨hE, hef⟩, ⟨hB, hbe⟩, ⟨hG, hgo⟩⟩ := T
  rcases Classical.em (∃ o v q, o < m ∧ v < n ∧ q ≤ d ∧ v1 = nI o ∧ v2 = nI v ∧ v3 = ot_rv q) with ⟨o, v, q, ho, hv, hq, rfl, rfl, rfl⟩ | hno
  · have e5 : 5 * nI o + nI v = nI (5 * o + v) := by rw [show 5 * nI o = nI (5 * o) from pk_mul 5 o, nI_add]
    have e6 : nI o * 5 + nI v = nI (5 * o + v) := by rw [show nI o * 5 = nI (o * 5) from pk_mul o 5, nI_add, Nat.mul_comm]
    have iv : vp_in (nI (5 * o + v)) 50 := vp_in_nI (by omega) (by omega)
    have fy : wY_effect_31 (fun r' v' => r' = aE (5 * o + v) ∧ i_Rel (k + 5) (nI n, nI d, nI m, mt, lc, aC, aN, upd aE (5 * o + v) (ot_rv q), aB, aG, od, sn, mv, rm, bd, ls, ah) v') (nI o) (nI v) (ot_rv q) (nI n) (nI d) (nI m) rz aC aN aE aB aG yl yf ym yb yd yr := by
      unfold wY_effect_31
      rw [e5, nI_clamp (by omega)]
      exact ⟨iv, nm_e ⟨iv, nm_e ⟨rfl, i_mk (ot_Te T0 (by omega) hq)⟩⟩⟩
    refine ot_rng (by omega) (fun _ _ _ => br_f ot_01' (ot_rng (by omega) (fun _ _ _ => br_f ot_01' (ot_von hd (fun _ _ _ => br_f ot_01' ?_) (fun y => absurd ⟨q, hq, rfl⟩ y))) (fun y => absurd ⟨v, hv, rfl⟩ y))) (fun y => absurd ⟨o, ho, rfl⟩ y)
    rw [e6]
    refine ⟨iv, nm_r (e' := aE (5 * o + v)) (by rw [nI_clamp (by omega)]) ⟨iv, nm_r (e' := upd aE (5 * o + v) (ot_rv q)) (by rw [nI_clamp (by omega)]) ?_⟩⟩
    exact ot_rng (by omega) (fun _ _ _ => br_f ot_01' (ot_rng (by omega) (fun _ _ _ => br_f ot_01' (br_c (fun _ => fy) (fun w => ot_rng (by omega) (fun _ _ _ => br_f ot_01' fy) (fun y => (y (by
      rcases Classical.em (q = 0) with p | p
      · subst p; exact absurd ot_rv0 w
      · exact ⟨q - 1, by omega, ot_rvp p⟩)).elim)))) (fun y => absurd ⟨v, hv, rfl⟩ y))) (fun y => absurd ⟨o, ho, rfl⟩ y)
  · have fin : (-1 : Int32) = -1 ∧ i_Rel (k + 5) (nI n, nI d, nI m, mt, lc, aC, aN, aE, aB, aG, od, sn, mv, rm, bd, ls, ah) (nI n, nI d, nI m, rz, aC, aN, aE, aB, aG, yl, yf, ym, yb, yd, yr) := ⟨rfl, i_mk T0⟩
    have fy : wpY_effect (fun r' v' => r' = -1 ∧ i_Rel (k + 5) (nI n, nI d, nI m, mt, lc, aC, aN, aE, aB, aG, od, sn, mv, rm, bd, ls, ah) v') (nI n, nI d, nI m, rz, aC, aN, aE, aB, aG, yl, yf, ym, yb, yd, yr) v1 v2 v3 :=
      ot_rng (by omega) (fun o ho e1 => br_f ot_01' (ot_rng (by omega) (fun v hv e2 => br_f ot_01' (br_c (fun e => absurd ⟨o, v, 0, ho, hv, by omega, e1, e2, e.trans ot_rv0.symm⟩ hno) (fun _ => ot_rng (by omega) (fun x hx e3 => absurd ⟨o, v, x + 1, ho, hv, by omega, e1, e2, e3.trans (ot_rvs x).symm⟩ hno) (fun _ => br_t rfl fin)))) (fun _ => br_t rfl fin))) (fun _ => br_t rfl fin)
    exact ot_rng (by omega) (fun o ho e1 => br_f ot_01' (ot_rng (by omega) (fun v hv e2 => br_f ot_01' (ot_von hd (fun q hq e3 => absurd ⟨o, v, q, ho, hv, hq, e1, e2, e3⟩ hno) (fun _ => br_t rfl fy))) (fun _ => br_t rfl fy))) (fun _ => br_t rfl fy)
theorem i_vc_begin {k : Nat} {u : SX} {v : SY} (I : i_Rel k u v) (hk : k + 5 ≤ 2562) (v1 : Int32) (v2 : Int32) : wpX_begin (fun r u' => wpY_begin (fun r' v' => r' = r ∧ i_Rel (k + 5) u' v') v v1 v2) u v1 v2 := by
  obtain ⟨n, d, m, co, ne, ef, be, go, aC, aN, aE, aB, aG, mt, lc, rz, od, sn, mv, rm, bd, ls, ah, yl, yf, ym, yb, yd, yr, rfl, rfl, T⟩ := I
  have T0 := T
  obtain ⟨⟨⟨hn1, hn⟩, ⟨hd1, hd⟩, hm⟩, ⟨hC, hco⟩, ⟨hN, hne⟩, ⟨hE, hef⟩, ⟨hB, hbe⟩, ⟨hG, hgo⟩⟩ := T
  rcases Classical.em (∃ v q, v < n ∧ q < d ∧ v1 = nI v ∧ v2 = nI q) with ⟨v, q, hv, hq, rfl, rfl⟩ | hno
  · have iv : vp_in (nI v) 5 := vp_in_nI (by omega) (by omega)
    have c : (nI v).toNatClampNeg = v := nI_clamp (by omega)
    refine ot_rng2 (by omega) (by omega) hv hq (br_f ot_01' ⟨iv, nm_r (e' := aB v) (by rw [c]) ⟨iv, nm_r (e' := upd aB v (nI q)) (by rw [c]) ?_⟩⟩)
    exact ot_rng (by omega) (fun _ _ _ => br_f ot_01' (ot_rng (by omega) (fun _ _ _ => br_f ot_01' ⟨iv, nm_r (e' := aB v) (by rw [c]) ⟨iv, nm_r (e' := upd aB v (nI q)) (by rw [c]) ⟨rfl, i_mk (ot_Tb T0 (by omega) hq)⟩⟩⟩) (fun y => absurd ⟨q, hq, rfl⟩ y))) (fun y => absurd ⟨v, hv, rfl⟩ y)
  · have fin : (-1 : Int32) = -1 ∧ i_Rel (k + 5) (nI n, nI d, nI m, mt, lc, aC, aN, aE, aB, aG, od, sn, mv, rm, bd, ls, ah) (nI n, nI d, nI m, rz, aC, aN, aE, aB, aG, yl, yf, ym, yb, yd, yr) := ⟨rfl, i_mk T0⟩
    have fy : wpY_begin (fun r' v' => r' = -1 ∧ i_Rel (k + 5) (nI n, nI d, nI m, mt, lc, aC, aN, aE, aB, aG, od, sn, mv, rm, bd, ls, ah) v') (nI n, nI d, nI m, rz, aC, aN, aE, aB, aG, yl, yf, ym, yb, yd, yr) v1 v2 :=
      ot_rng (by omega) (fun v hv e2 => br_f ot_01' (ot_rng (by omega) (fun x hx e3 => absurd ⟨v, x, hv, hx, e2, e3⟩ hno) (fun _ => br_t rfl fin))) (fun _ => br_t rfl fin)
    exact ot_rng3 (by omega) (by omega) (fun v q hv hq e1 e2 => absurd ⟨v, q, hv, hq, e1, e2⟩ hno) (br_t rfl fy)
theorem i_vc_goal {k : Nat} {u : SX} {v : SY} (I : i_Rel k u v) (hk : k + 5 ≤ 2562) (v1 : Int32) (v2 : Int32) : wpX_goal (fun r u' => wpY_goal (fun r' v' => r' = r ∧ i_Rel (k + 5) u' v') v v1 v2) u v1 v2 := by
  obtain ⟨n, d, m, co, ne, ef, be, go, aC, aN, aE, aB, aG, mt, lc, rz, od, sn, mv, rm, bd, ls, ah, yl, yf, ym, yb, yd, yr, rfl, rfl, T⟩ := I
  have T0 := T
  obtain ⟨⟨⟨hn1, hn⟩, ⟨hd1, hd⟩, hm⟩, ⟨hC, hco⟩, ⟨hN, hne⟩, ⟨hE, hef⟩, ⟨hB, hbe⟩, ⟨hG, hgo⟩⟩ := T
  rcases Classical.em (∃ v q, v < n ∧ q ≤ d ∧ v1 = nI v ∧ v2 = ot_rv q) with ⟨v, q, hv, hq, rfl, rfl⟩ | hno
  · have iv : vp_in (nI v) 5 := vp_in_nI (by omega) (by omega)
    have c : (nI v).toNatClampNeg = v := nI_clamp (by omega)
    have fy : wY_goal_23 (fun r' v' => r' = aG v ∧ i_Rel (k + 5) (nI n, nI d, nI m, mt, lc, aC, aN, aE, aB, upd aG v (ot_rv q), od, sn, mv, rm, bd, ls, ah) v') (nI v) (ot_rv q) (nI n) (nI d) (nI m) rz aC aN aE aB aG yl yf ym yb yd yr := by
      unfold wY_goal_23
      rw [c]
      exact ⟨iv, nm_e ⟨iv, nm_e ⟨rfl, i_mk (ot_Tg T0 (by omega) hq)⟩⟩⟩
    refine ot_rng (by omega) (fun _ _ _ => br_f ot_01' (ot_von hd (fun _ _ _ => br_f ot_01' ⟨iv, nm_r (e' := aG v) (by rw [c]) ⟨iv, nm_r (e' := upd aG v (ot_rv q)) (by rw [c]) ?_⟩⟩) (fun y => absurd ⟨q, hq, rfl⟩ y))) (fun y => absurd ⟨v, hv, rfl⟩ y)
    exact ot_rng (by omega) (fun _ _ _ => br_f ot_01' (br_c (fun _ => fy) (fun w => ot_rng (by omega) (fun _ _ _ => br_f ot_01' fy) (fun y => (y (by
      rcases Classical.em (q = 0) with p | p
      · subst p; exact absurd ot_rv0 w
      · exact ⟨q - 1, by omega, ot_rvp p⟩)).elim)))) (fun y => absurd ⟨v, hv, rfl⟩ y)
  · have fin : (-1 : Int32) = -1 ∧ i_Rel (k + 5) (nI n, nI d, nI m, mt, lc, aC, aN, aE, aB, aG, od, sn, mv, rm, bd, ls, ah) (nI n, nI d, nI m, rz, aC, aN, aE, aB, aG, yl, yf, ym, yb, yd, yr) := ⟨rfl, i_mk T0⟩
    have fy : wpY_goal (fun r' v' => r' = -1 ∧ i_Rel (k + 5) (nI n, nI d, nI m, mt, lc, aC, aN, aE, aB, aG, od, sn, mv, rm, bd, ls, ah) v') (nI n, nI d, nI m, rz, aC, aN, aE, aB, aG, yl, yf, ym, yb, yd, yr) v1 v2 :=
      ot_rng (by omega) (fun v hv e2 => br_f ot_01' (br_c (fun e => absurd ⟨v, 0, hv, by omega, e2, e.trans ot_rv0.symm⟩ hno) (fun _ => ot_rng (by omega) (fun x hx e3 => absurd ⟨v, x + 1, hv, by omega, e2, e3.trans (ot_rvs x).symm⟩ hno) (fun _ => br_t rfl fin)))) (fun _ => br_t rfl fin)
    exact ot_rng (by omega) (fun v hv e2 => br_f ot_01' (ot_von hd (fun q hq e3 => absurd ⟨v, q, hv, hq, e2, e3⟩ hno) (fun _ => br_t rfl fy))) (fun _ => br_t rfl fy)
end
section
/-! reached, apart, passes, needed, cost, length, dead: both sides against the pure tables -/
theorem ot_bfy0 : ot_bfy (-1) 0 (fun _ => False) := Or.inl ⟨rfl, fun _ z => z⟩
section
variable {n d m : Nat} {co ne ef be go : Nat → Nat} {aC aN aE aB aG od sn mv rm bd ls ah yl yf ym yb yd yr : Nat → Int32} {mt lc rz : Int32} {R bo br : Nat → Prop}
theorem ot_Rlt (T : ot_T n d m co ne ef be go aC aN aE aB aG) {s : Nat} (h : ot_R (ot_bs be n) br (ot_E n m ne ef bo) s) : s < 4 ^ n := by
  have s0 := ot_s0 T
  obtain ⟨⟨⟨hn1, hn⟩, ⟨hd1, hd⟩, hm⟩, ⟨hC, hco⟩, ⟨hN, hne⟩, ⟨hE, hef⟩, ⟨hB, hbe⟩, ⟨hG, hgo⟩⟩ := T
  exact (ot_Rok hn hd hef s0 h).1
theorem ot_Rok2 (T : ot_T n d m co ne ef be go aC aN aE aB aG) {s : Nat} (h : ot_R (ot_bs be n) br (ot_E n m ne ef bo) s) : ot_ok n d s := by
  have s0 := ot_s0 T
  obtain ⟨⟨⟨hn1, hn⟩, ⟨hd1, hd⟩, hm⟩, ⟨hC, hco⟩, ⟨hN, hne⟩, ⟨hE, hef⟩, ⟨hB, hbe⟩, ⟨hG, hgo⟩⟩ := T
  exact ot_Rok hn hd hef s0 h
theorem oy_rea (T : ot_T n d m co ne ef be go aC aN aE aB aG) (hM : ot_MF n R ym) {post : Int32 → SY → Prop} (h : post (nI (cn R (4 ^ n))) (nI n, nI d, nI m, rz, aC, aN, aE, aB, aG, yl, yf, ym, yb, yd, yr)) : ∃ n11 : Nat, wY_reached_11 post (nI n) (nI d) (nI m) rz aC aN aE aB aG yl yf ym yb yd yr n11 0 0 := by
  have T0 := T
  obtain ⟨⟨⟨hn1, hn⟩, ⟨hd1, hd⟩, hm⟩, ⟨hC, hco⟩, ⟨hN, hne⟩, ⟨hE, hef⟩, ⟨hB, hbe⟩, ⟨hG, hgo⟩⟩ := T
  have p4 := ot_4n hn
  refine loop_0 (σ := Unit) (fun fu i _ => wY_reached_11 post (nI n) (nI d) (nI m) rz aC aN aE aB aG yl yf ym yb yd yr fu (nI (cn R i)) (nI i)) (fun _ _ => True) (4 ^ n) () trivial ?_ ?_
  · intro fu _ _
    simp only [wY_reached_11, oy_st T0]
    exact br_t (nI_le (Nat.le_refl _) (by omega)) h
  · intro fu i _ hi _ ih
    have ih : wY_reached_11 post (nI n) (nI d) (nI m) rz aC aN aE aB aG yl yf ym yb yd yr fu (nI (cn R i + b01 (R i))) (nI (i + 1)) := ih () trivial
    simp only [wY_reached_11, oy_st T0]
    refine br_f (nI_ge hi (by omega)) ⟨vp_in_nI (by omega) (by omega), ?_⟩
    rw [nI_clamp (by omega)]
    rcases hM i hi with ⟨a, b⟩ | ⟨a, b⟩
    · rw [b01_t b] at ih
      exact br_f (by rw [a]; decide) (nm_r (nI_1 _) (nm_r (nI_1 i) ih))
    · rw [b01_f b] at ih
      exact br_t a (nm_r (nI_1 i) ih)
theorem oy_dea (T : ot_T n d m co ne ef be go aC aN aE aB aG) (hM : ot_MF n R ym) {w : Nat → Nat} (hw : ot_LF n w yl yf) {g : Nat → Prop} {E : Nat → Nat → Nat → Prop} (hI : ot_I E co g w) {post : Int32 → SY → Prop} (h : post (nI (cn (fun s => R s ∧ ¬ w s ≠ 1000000000) (4 ^ n))) (nI n, nI d, nI m, rz, aC, aN, aE, aB, aG, yl, yf, ym, yb, yd, yr)) : ∃ n15 : Nat, wY_dead_15 post (nI n) (nI d) (nI m) rz aC aN aE aB aG yl yf ym yb yd yr n15 0 0 := by
  have T0 := T
  obtain ⟨⟨⟨hn1, hn⟩, ⟨hd1, hd⟩, hm⟩, ⟨hC, hco⟩, ⟨hN, hne⟩, ⟨hE, hef⟩, ⟨hB, hbe⟩, ⟨hG, hgo⟩⟩ := T
  have p4 := ot_4n hn
  refine loop_0 (σ := Unit) (fun fu i _ => wY_dead_15 post (nI n) (nI d) (nI m) rz aC aN aE aB aG yl yf ym yb yd yr fu (nI (cn (fun s => R s ∧ ¬ w s ≠ 1000000000) i)) (nI i)) (fun _ _ => True) (4 ^ n) () trivial ?_ ?_
  · intro fu _ _
    simp only [wY_dead_15, oy_st T0]
    exact br_t (nI_le (Nat.le_refl _) (by omega)) h
  · intro fu i _ hi _ ih
    have ih : wY_dead_15 post (nI n) (nI d) (nI m) rz aC aN aE aB aG yl yf ym yb yd yr fu (nI (cn (fun s => R s ∧ ¬ w s ≠ 1000000000) i + b01 (R i ∧ ¬ w i ≠ 1000000000))) (nI (i + 1)) := ih () trivial
    simp only [wY_dead_15, oy_st T0]
    refine br_f (nI_ge hi (by omega)) ⟨vp_in_nI (by omega) (by omega), ?_⟩
    rw [nI_clamp (by omega)]
    have l := hw.2.2 i hi
    rcases hM i hi with ⟨a, b⟩ | ⟨a, b⟩
    · refine br_f (by rw [a]; decide) ⟨vp_in_nI (by omega) (by omega), ?_⟩
      rcases Classical.em (w i = 1000000000) with z | z
      · rw [b01_t ⟨b, fun y => y z⟩] at ih
        exact br_f (by rw [l.1 z]; decide) (nm_r (nI_1 _) (nm_r (nI_1 i) ih))
      · rw [b01_f (fun y => y.2 z)] at ih
        obtain ⟨C, L, e1, hC', hL, _, _⟩ := ot_Ib hI z
        exact br_t (by rw [(l.2 z).1]; exact nI_lt (b := 1000000) (by omega) (by omega)) (nm_r (nI_1 i) ih)
    · rw [b01_f (fun y => b y.1)] at ih
      exact br_t a (nm_r (nI_1 i) ih)
theorem oy_apa (T : ot_T n d m co ne ef be go aC aN aE aB aG) (hM : ot_MF n R ym) (hR : ∀ s, R s → s < 4 ^ n) {v x u y : Nat} (hv : v < n) (hx : x < d) (hu : u < n) (hy : y < d) {post : Int32 → SY → Prop} (h0 : (∃ s, R s ∧ ot_vl s v = x ∧ ot_vl s u = y) → post 0 (nI n, nI d, nI m, rz, aC, aN, aE, aB, aG, yl, yf, ym, yb, yd, yr)) (h1 : (¬ ∃ s, R s ∧ ot_vl s v = x ∧ ot_vl s u = y) → post 1 (nI n, nI d, nI m, rz, aC, aN, aE, aB, aG, yl, yf, ym, yb, yd, yr)) : ∃ n45 : Nat, wY_apart_45 post (nI v) (nI x) (nI u) (nI y) (nI n) (nI d) (nI m) rz aC aN aE aB aG yl yf ym yb yd yr n45 0 := by
  have T0 := T
  obtain ⟨⟨⟨hn1, hn⟩, ⟨hd1, hd⟩, hm⟩, ⟨hC, hco⟩, ⟨hN, hne⟩, ⟨hE, hef⟩, ⟨hB, hbe⟩, ⟨hG, hgo⟩⟩ := T
  have p4 := ot_4n hn
  refine loop_0 (σ := Unit) (fun fu i _ => wY_apart_45 post (nI v) (nI x) (nI u) (nI y) (nI n) (nI d) (nI m) rz aC aN aE aB aG yl yf ym yb yd yr fu (nI i)) (fun i _ => ∀ j, j < i → ¬ (R j ∧ ot_vl j v = x ∧ ot_vl j u = y)) (4 ^ n) () (fun j hj => by omega) ?_ ?_
  · intro fu _ hI
    simp only [wY_apart_45, oy_st T0]
    exact br_t (nI_le (Nat.le_refl _) (by omega)) (h1 (fun ⟨s, a, b⟩ => hI s (hR s a) ⟨a, b⟩))
  · intro fu i _ hi hI ih
    have nx1 : ¬ (R i ∧ ot_vl i v = x ∧ ot_vl i u = y) → wY_apart_45 post (nI v) (nI x) (nI u) (nI y) (nI n) (nI d) (nI m) rz aC aN aE aB aG yl yf ym yb yd yr fu (nI (i + 1)) := fun q => ih () (lt_s hI q)
    simp only [wY_apart_45, oy_st T0]
    refine br_f (nI_ge hi (by omega)) ⟨vp_in_nI (by omega) (by omega), ?_⟩
    rw [nI_clamp (by omega)]
    have v4 := ot_vl4 i v
    have u4 := ot_vl4 i u
    rcases hM i hi with ⟨a, b⟩ | ⟨a, b⟩
    · refine br_f (by rw [a]; decide) (oy_val (by omega) (by omega) ?_)
      rcases Classical.em (ot_vl i v = x) with z | z
      · refine br_t (by rw [z]) (oy_val (by omega) (by omega) ?_)
        rcases Classical.em (ot_vl i u = y) with w | w
        · exact br_t (by rw [w]) (h0 ⟨i, b, z, w⟩)
        · exact br_f (fun q => w ((nI_eq (by omega) (by omega)).mp q)) (nm_r (nI_1 i) (nx1 (fun q => w q.2.2)))
      · exact br_f (fun q => z ((nI_eq (by omega) (by omega)).mp q)) (nm_r (nI_1 i) (nx1 (fun q => z q.2.1)))
    · exact br_t a (nm_r (nI_1 i) (nx1 (fun q => b q.1)))
theorem ox_apa (T : ot_T n d m co ne ef be go aC aN aE aB aG) {k : Nat} {f : Nat → Nat} (hX : ot_XF n m ne ef bo R k od mv f) {v x u y : Nat} (hv : v < n) (hx : x < d) (hu : u < n) (hy : y < d) {post : Int32 → SX → Prop} (h0 : (∃ s, R s ∧ ot_vl s v = x ∧ ot_vl s u = y) → post 0 (nI n, nI d, nI m, nI k, lc, aC, aN, aE, aB, aG, od, sn, mv, rm, bd, ls, ah)) (h1 : (¬ ∃ s, R s ∧ ot_vl s v = x ∧ ot_vl s u = y) → post 1 (nI n, nI d, nI m, nI k, lc, aC, aN, aE, aB, aG, od, sn, mv, rm, bd, ls, ah)) : ∃ n30 : Nat, wX_apart_30 post (nI v) (nI x) (nI u) (nI y) (nI n) (nI d) (nI m) (nI k) lc aC aN aE aB aG od sn mv rm bd ls ah n30 0 := by
  have T0 := T
  obtain ⟨⟨⟨hn1, hn⟩, ⟨hd1, hd⟩, hm⟩, ⟨hC, hco⟩, ⟨hN, hne⟩, ⟨hE, hef⟩, ⟨hB, hbe⟩, ⟨hG, hgo⟩⟩ := T
  have hk := ot_XFle hX
  refine loop_0 (σ := Unit) (fun fu i _ => wX_apart_30 post (nI v) (nI x) (nI u) (nI y) (nI n) (nI d) (nI m) (nI k) lc aC aN aE aB aG od sn mv rm bd ls ah fu (nI i)) (fun i _ => ∀ j, j < i → ¬ (ot_vl (f j) v = x ∧ ot_vl (f j) u = y)) k () (fun j hj => by omega) ?_ ?_
  · intro fu _ hI
    refine br_t (nI_le (Nat.le_refl _) (by omega)) (h1 (fun ⟨s, a, b⟩ => ?_))
    obtain ⟨i, hi, e⟩ := (hX.2.1 s a).2
    rw [← e] at b
    exact hI i hi b
  · intro fu i _ hi hI ih
    have nx1 : ¬ (ot_vl (f i) v = x ∧ ot_vl (f i) u = y) → wX_apart_30 post (nI v) (nI x) (nI u) (nI y) (nI n) (nI d) (nI m) (nI k) lc aC aN aE aB aG od sn mv rm bd ls ah fu (nI (i + 1)) := fun q => ih () (lt_s hI q)
    have e := hX.1 i hi
    have ce : od (nI i).toNatClampNeg = nI (f i) := by rw [nI_clamp (by omega)]; exact e.1
    have iv : vp_in (nI i) 1024 := vp_in_nI (by omega) (by omega)
    refine br_f (nI_ge hi (by omega)) ⟨iv, ?_⟩
    rw [ce]
    have v4 := ot_vl4 (f i) v
    have u4 := ot_vl4 (f i) u
    refine ox_val e.2.1 (by omega) ?_
    rcases Classical.em (ot_vl (f i) v = x) with z | z
    · refine br_t (by rw [z]) ⟨iv, ox_val e.2.1 (by omega) ?_⟩
      rcases Classical.em (ot_vl (f i) u = y) with w | w
      · exact br_t (by rw [w]) (h0 ⟨f i, e.2.2, z, w⟩)
      · exact br_f (fun q => w ((nI_eq (by omega) (by omega)).mp q)) (nm_r (nI_1 i) (nx1 (fun q => w q.2)))
    · exact br_f (fun q => z ((nI_eq (by omega) (by omega)).mp q)) (nm_r (nI_1 i) (nx1 (fun q => z q.1)))
/-- the two tables of ways agree where the component has one -/
theorem ot_weq (T : ot_T n d m co ne ef be go aC aN aE aB aG) {w w' : Nat → Nat} (h1 : ot_I (ot_EX n m ne ef (ot_RR n m ne ef be)) co (fun s => ot_RR n m ne ef be s ∧ ot_gl n go s) w) (h2 : ot_S (ot_EX n m ne ef (ot_RR n m ne ef be)) co (fun s => ot_RR n m ne ef be s ∧ ot_gl n go s) w) (h1' : ot_I (ot_EY n d m ne ef) co (fun s => ot_ok n d s ∧ ot_gl n go s) w') (h2' : ot_S (ot_EY n d m ne ef) co (fun s => ot_ok n d s ∧ ot_gl n go s) w') {s : Nat} (hs : ot_RR n m ne ef be s) : w' s = w s := by
  have ok := fun s (hs : ot_RR n m ne ef be s) => ot_Rok2 T hs
  refine Nat.le_antisymm ?_ ?_
  · exact ot_wle (fun s => ot_RR n m ne ef be s) (fun o s t hs he => ⟨⟨ok s hs, he.2.1, he.2.2.1, he.2.2.2⟩, by rw [he.2.2.2]; exact ot_RRs s o hs he.2.1 he.2.2.1⟩) (fun s hs hg => ⟨ok s hs, hg.2⟩) h1 h2' hs
  · exact ot_wle (fun s => ot_RR n m ne ef be s) (fun o s t hs he => ⟨⟨hs, he.2.1, he.2.2.1, he.2.2.2⟩, by rw [he.2.2.2]; exact ot_RRs s o hs he.2.1 he.2.2.1⟩) (fun s hs hg => ⟨hs, hg.2⟩) h1' h2 hs
end
end
section
/-! reached, apart, passes, needed, cost, length, dead -/
theorem i_vc_reached {k : Nat} {u : SX} {v : SY} (I : i_Rel k u v) (hk : k + 5 ≤ 2562) : wpX_reached (fun r u' => wpY_reached (fun r' v' => r' = r ∧ i_Rel (k + 5) u' v') v) u := by
  obtain ⟨n, d, m, co, ne, ef, be, go, aC, aN, aE, aB, aG, mt, lc, rz, od, sn, mv, rm, bd, ls, ah, yl, yf, ym, yb, yd, yr, rfl, rfl, T⟩ := I
  have p4 := ot_4n T.1.1.2
  refine ox_explore T ot_bf0 ot_bop0 (fun k' od sn mv f hX => ?_)
  refine oy_findMet T ot_bfy0 ot_bop0 (fun ym hM => oy_rea T hM ⟨?_, i_mk T⟩)
  rw [hX.2.2.2.1, ot_cnup (fun s hs => ot_Rlt T hs) p4]
theorem i_vc_apart {k : Nat} {u : SX} {v : SY} (I : i_Rel k u v) (hk : k + 5 ≤ 2562) (v1 : Int32) (v2 : Int32) (v3 : Int32) (v4 : Int32) : wpX_apart (fun r u' => wpY_apart (fun r' v' => r' = r ∧ i_Rel (k + 5) u' v') v v1 v2 v3 v4) u v1 v2 v3 v4 := by
  obtain ⟨n, d, m, co, ne, ef, be, go, aC, aN, aE, aB, aG, mt, lc, rz, od, sn, mv, rm, bd, ls, ah, yl, yf, ym, yb, yd, yr, rfl, rfl, T⟩ := I
  have T0 := T
  obtain ⟨⟨⟨hn1, hn⟩, ⟨hd1, hd⟩, hm⟩, ⟨hC, hco⟩, ⟨hN, hne⟩, ⟨hE, hef⟩, ⟨hB, hbe⟩, ⟨hG, hgo⟩⟩ := T
  rcases Classical.em (∃ v x u y, v < n ∧ x < d ∧ u < n ∧ y < d ∧ v1 = nI v ∧ v2 = nI x ∧ v3 = nI u ∧ v4 = nI y) with ⟨v, x, u, y, hv, hx, hu, hy, rfl, rfl, rfl, rfl⟩ | hno
  · have fy : ∀ (r : Int32) (u' : SX), (∀ ym, i_Rel (k + 5) u' (nI n, nI d, nI m, rz, aC, aN, aE, aB, aG, yl, yf, ym, yb, yd, yr)) → ((∃ s, ot_RR n m ne ef be s ∧ ot_vl s v = x ∧ ot_vl s u = y) → r = 0) → ((¬ ∃ s, ot_RR n m ne ef be s ∧ ot_vl s v = x ∧ ot_vl s u = y) → r = 1) → wpY_apart (fun r' v' => r' = r ∧ i_Rel (k + 5) u' v') (nI n, nI d, nI m, rz, aC, aN, aE, aB, aG, yl, yf, ym, yb, yd, yr) (nI v) (nI x) (nI u) (nI y) := fun r u' hu' h0 h1 =>
      ot_rng (by omega) (fun _ _ _ => br_f ot_01' (ot_rng (by omega) (fun _ _ _ => br_f ot_01' (ot_rng (by omega) (fun _ _ _ => br_f ot_01' (ot_rng (by omega) (fun _ _ _ => br_f ot_01' (oy_findMet T0 ot_bfy0 ot_bop0 (fun ym hM => oy_apa T0 hM (fun s hs => ot_Rlt T0 hs) hv hx hu hy (fun q => ⟨(h0 q).symm, hu' _⟩) (fun q => ⟨(h1 q).symm, hu' _⟩)))) (fun w => absurd ⟨y, hy, rfl⟩ w))) (fun w => absurd ⟨x, hx, rfl⟩ w))) (fun w => absurd ⟨u, hu, rfl⟩ w))) (fun w => absurd ⟨v, hv, rfl⟩ w)
    refine ot_rng2 (by omega) (by omega) hv hx (br_f ot_01' (ot_rng2 (by omega) (by omega) hu hy (br_f ot_01' (ox_explore T0 ot_bf0 ot_bop0 (fun k' od sn mv f hX => ?_)))))
    exact ox_apa T0 hX hv hx hu hy (fun q => fy 0 _ (fun _ => i_mk T0) (fun _ => rfl) (fun w => absurd q w)) (fun q => fy 1 _ (fun _ => i_mk T0) (fun w => absurd w q) (fun _ => rfl))
  · have fin : (0 : Int32) = 0 ∧ i_Rel (k + 5) (nI n, nI d, nI m, mt, lc, aC, aN, aE, aB, aG, od, sn, mv, rm, bd, ls, ah) (nI n, nI d, nI m, rz, aC, aN, aE, aB, aG, yl, yf, ym, yb, yd, yr) := ⟨rfl, i_mk T0⟩
    have fy : wpY_apart (fun r' v' => r' = 0 ∧ i_Rel (k + 5) (nI n, nI d, nI m, mt, lc, aC, aN, aE, aB, aG, od, sn, mv, rm, bd, ls, ah) v') (nI n, nI d, nI m, rz, aC, aN, aE, aB, aG, yl, yf, ym, yb, yd, yr) v1 v2 v3 v4 :=
      ot_rng (by omega) (fun v hv e1 => br_f ot_01' (ot_rng (by omega) (fun u hu e3 => br_f ot_01' (ot_rng (by omega) (fun x hx e2 => br_f ot_01' (ot_rng (by omega) (fun y hy e4 => absurd ⟨v, x, u, y, hv, hx, hu, hy, e1, e2, e3, e4⟩ hno) (fun _ => br_t rfl fin))) (fun _ => br_t rfl fin))) (fun _ => br_t rfl fin))) (fun _ => br_t rfl fin)
    exact ot_rng3 (by omega) (by omega) (fun v x hv hx e1 e2 => br_f ot_01' (ot_rng3 (by omega) (by omega) (fun u y hu hy e3 e4 => absurd ⟨v, x, u, y, hv, hx, hu, hy, e1, e2, e3, e4⟩ hno) (br_t rfl fy))) (br_t rfl fy)
theorem i_vc_passes {k : Nat} {u : SX} {v : SY} (I : i_Rel k u v) (hk : k + 5 ≤ 2562) (v1 : Int32) (v2 : Int32) : wpX_passes (fun r u' => wpY_passes (fun r' v' => r' = r ∧ i_Rel (k + 5) u' v') v v1 v2) u v1 v2 := by
  obtain ⟨n, d, m, co, ne, ef, be, go, aC, aN, aE, aB, aG, mt, lc, rz, od, sn, mv, rm, bd, ls, ah, yl, yf, ym, yb, yd, yr, rfl, rfl, T⟩ := I
  have T0 := T
  obtain ⟨⟨⟨hn1, hn⟩, ⟨hd1, hd⟩, hm⟩, ⟨hC, hco⟩, ⟨hN, hne⟩, ⟨hE, hef⟩, ⟨hB, hbe⟩, ⟨hG, hgo⟩⟩ := T
  rcases Classical.em (∃ v x, v < n ∧ x < d ∧ v1 = nI v ∧ v2 = nI x) with ⟨v, x, hv, hx, rfl, rfl⟩ | hno
  · have hbx : ot_bf (nI v * 4 + nI x) (fun s => ot_vl s v = x) := Or.inr ⟨4 * v + x, by omega, by rw [show nI v * 4 = nI (v * 4) from pk_mul v 4, nI_add, Nat.mul_comm], fun s => by rw [show (4 * v + x) / 4 = v by omega, show (4 * v + x) % 4 = x by omega]⟩
    have hby : ot_bfy (nI v) (nI x) (fun s => ot_vl s v = x) := Or.inr ⟨v, x, by omega, by omega, rfl, rfl, fun s => Iff.rfl⟩
    have fy : ∀ (r : Int32) (u' : SX), (∀ ym, i_Rel (k + 5) u' (nI n, nI d, nI m, rz, aC, aN, aE, aB, aG, yl, yf, ym, yb, yd, yr)) → ((¬ ∃ s, ot_RR n m ne ef be s ∧ ot_gl n go s) → r = 0) → ((∃ s, ot_RR n m ne ef be s ∧ ot_gl n go s) → (∃ s, ot_R (ot_bs be n) (fun s => ot_vl s v = x) (ot_E n m ne ef (fun _ => False)) s ∧ ot_gl n go s) → r = 0) → ((∃ s, ot_RR n m ne ef be s ∧ ot_gl n go s) → (¬ ∃ s, ot_R (ot_bs be n) (fun s => ot_vl s v = x) (ot_E n m ne ef (fun _ => False)) s ∧ ot_gl n go s) → r = 1) → wpY_passes (fun r' v' => r' = r ∧ i_Rel (k + 5) u' v') (nI n, nI d, nI m, rz, aC, aN, aE, aB, aG, yl, yf, ym, yb, yd, yr) (nI v) (nI x) := fun r u' hu' h0 h1 h2 =>
      ot_rng (by omega) (fun _ _ _ => br_f ot_01' (ot_rng (by omega) (fun _ _ _ => br_f ot_01' (oy_findMet T0 ot_bfy0 ot_bop0 (fun ym hM => oy_meets T0 hM (fun s hs => ot_Rlt T0 hs) (fun q => br_f ot_01' (oy_findMet T0 hby ot_bop0 (fun ym hM => oy_meets T0 hM (fun s hs => ot_Rlt T0 hs) (fun q2 => br_f ot_01' ⟨(h1 q q2).symm, hu' _⟩) (fun q2 => br_t rfl ⟨(h2 q q2).symm, hu' _⟩)))) (fun q => br_t rfl ⟨(h0 q).symm, hu' _⟩)))) (fun w => absurd ⟨x, hx, rfl⟩ w))) (fun w => absurd ⟨v, hv, rfl⟩ w)
    refine ot_rng2 (by omega) (by omega) hv hx (br_f ot_01' (ox_plan T0 ot_bf0 ot_bop0 (fun hA k' od sn mv => br_f ot_01' (ox_plan T0 hbx ot_bop0 (fun hB k' od sn mv => br_f ot_01' ?_) (fun hB k' od sn mv => br_t rfl ?_))) (fun hA k' od sn mv => br_t rfl ?_)))
    · exact fy 0 _ (fun _ => i_mk T0) (fun _ => rfl) (fun _ _ => rfl) (fun _ w => absurd hB w)
    · exact fy 1 _ (fun _ => i_mk T0) (fun w => absurd hA w) (fun _ w => absurd w hB) (fun _ _ => rfl)
    · exact fy 0 _ (fun _ => i_mk T0) (fun _ => rfl) (fun _ _ => rfl) (fun w => absurd w hA)
  · have fin : (0 : Int32) = 0 ∧ i_Rel (k + 5) (nI n, nI d, nI m, mt, lc, aC, aN, aE, aB, aG, od, sn, mv, rm, bd, ls, ah) (nI n, nI d, nI m, rz, aC, aN, aE, aB, aG, yl, yf, ym, yb, yd, yr) := ⟨rfl, i_mk T0⟩
    have fy : wpY_passes (fun r' v' => r' = 0 ∧ i_Rel (k + 5) (nI n, nI d, nI m, mt, lc, aC, aN, aE, aB, aG, od, sn, mv, rm, bd, ls, ah) v') (nI n, nI d, nI m, rz, aC, aN, aE, aB, aG, yl, yf, ym, yb, yd, yr) v1 v2 :=
      ot_rng (by omega) (fun v hv e1 => br_f ot_01' (ot_rng (by omega) (fun x hx e2 => absurd ⟨v, x, hv, hx, e1, e2⟩ hno) (fun _ => br_t rfl fin))) (fun _ => br_t rfl fin)
    exact ot_rng3 (by omega) (by omega) (fun v x hv hx e1 e2 => absurd ⟨v, x, hv, hx, e1, e2⟩ hno) (br_t rfl fy)
theorem i_vc_needed {k : Nat} {u : SX} {v : SY} (I : i_Rel k u v) (hk : k + 5 ≤ 2562) (v1 : Int32) : wpX_needed (fun r u' => wpY_needed (fun r' v' => r' = r ∧ i_Rel (k + 5) u' v') v v1) u v1 := by
  obtain ⟨n, d, m, co, ne, ef, be, go, aC, aN, aE, aB, aG, mt, lc, rz, od, sn, mv, rm, bd, ls, ah, yl, yf, ym, yb, yd, yr, rfl, rfl, T⟩ := I
  have T0 := T
  obtain ⟨⟨⟨hn1, hn⟩, ⟨hd1, hd⟩, hm⟩, ⟨hC, hco⟩, ⟨hN, hne⟩, ⟨hE, hef⟩, ⟨hB, hbe⟩, ⟨hG, hgo⟩⟩ := T
  rcases Classical.em (∃ o, o < m ∧ v1 = nI o) with ⟨o, ho, rfl⟩ | hno
  · have hop : ot_bop (nI o) (fun q => q = o) := fun q hq => nI_eq (by omega) (by omega)
    have fy : ∀ (r : Int32) (u' : SX), (∀ ym, i_Rel (k + 5) u' (nI n, nI d, nI m, rz, aC, aN, aE, aB, aG, yl, yf, ym, yb, yd, yr)) → ((¬ ∃ s, ot_RR n m ne ef be s ∧ ot_gl n go s) → r = 0) → ((∃ s, ot_RR n m ne ef be s ∧ ot_gl n go s) → (∃ s, ot_R (ot_bs be n) (fun _ => False) (ot_E n m ne ef (fun q => q = o)) s ∧ ot_gl n go s) → r = 0) → ((∃ s, ot_RR n m ne ef be s ∧ ot_gl n go s) → (¬ ∃ s, ot_R (ot_bs be n) (fun _ => False) (ot_E n m ne ef (fun q => q = o)) s ∧ ot_gl n go s) → r = 1) → wpY_needed (fun r' v' => r' = r ∧ i_Rel (k + 5) u' v') (nI n, nI d, nI m, rz, aC, aN, aE, aB, aG, yl, yf, ym, yb, yd, yr) (nI o) := fun r u' hu' h0 h1 h2 =>
      ot_rng (by omega) (fun _ _ _ => br_f ot_01' (oy_findMet T0 ot_bfy0 ot_bop0 (fun ym hM => oy_meets T0 hM (fun s hs => ot_Rlt T0 hs) (fun q => br_f ot_01' (oy_findMet T0 ot_bfy0 hop (fun ym hM => oy_meets T0 hM (fun s hs => ot_Rlt T0 hs) (fun q2 => br_f ot_01' ⟨(h1 q q2).symm, hu' _⟩) (fun q2 => br_t rfl ⟨(h2 q q2).symm, hu' _⟩)))) (fun q => br_t rfl ⟨(h0 q).symm, hu' _⟩)))) (fun w => absurd ⟨o, ho, rfl⟩ w)
    refine ot_rng (by omega) (fun _ _ _ => br_f ot_01' (ox_plan T0 ot_bf0 ot_bop0 (fun hA k' od sn mv => br_f ot_01' (ox_plan T0 ot_bf0 hop (fun hB k' od sn mv => br_f ot_01' ?_) (fun hB k' od sn mv => br_t rfl ?_))) (fun hA k' od sn mv => br_t rfl ?_))) (fun w => absurd ⟨o, ho, rfl⟩ w)
    · exact fy 0 _ (fun _ => i_mk T0) (fun _ => rfl) (fun _ _ => rfl) (fun _ w => absurd hB w)
    · exact fy 1 _ (fun _ => i_mk T0) (fun w => absurd hA w) (fun _ w => absurd w hB) (fun _ _ => rfl)
    · exact fy 0 _ (fun _ => i_mk T0) (fun _ => rfl) (fun _ _ => rfl) (fun w => absurd w hA)
  · have fin : (0 : Int32) = 0 ∧ i_Rel (k + 5) (nI n, nI d, nI m, mt, lc, aC, aN, aE, aB, aG, od, sn, mv, rm, bd, ls, ah) (nI n, nI d, nI m, rz, aC, aN, aE, aB, aG, yl, yf, ym, yb, yd, yr) := ⟨rfl, i_mk T0⟩
    have fy : wpY_needed (fun r' v' => r' = 0 ∧ i_Rel (k + 5) (nI n, nI d, nI m, mt, lc, aC, aN, aE, aB, aG, od, sn, mv, rm, bd, ls, ah) v') (nI n, nI d, nI m, rz, aC, aN, aE, aB, aG, yl, yf, ym, yb, yd, yr) v1 := ot_rng (by omega) (fun v hv e1 => absurd ⟨v, hv, e1⟩ hno) (fun _ => br_t rfl fin)
    exact ot_rng (by omega) (fun v hv e1 => absurd ⟨v, hv, e1⟩ hno) (fun _ => br_t rfl fy)
theorem i_vc_cost {k : Nat} {u : SX} {v : SY} (I : i_Rel k u v) (hk : k + 5 ≤ 2562) : wpX_cost (fun r u' => wpY_cost (fun r' v' => r' = r ∧ i_Rel (k + 5) u' v') v) u := by
  obtain ⟨n, d, m, co, ne, ef, be, go, aC, aN, aE, aB, aG, mt, lc, rz, od, sn, mv, rm, bd, ls, ah, yl, yf, ym, yb, yd, yr, rfl, rfl, T⟩ := I
  have s0 := ot_s0 T
  have slt := ot_ok_lt T.1.1.2 s0
  have h0 : ot_RR n m ne ef be (ot_bs be n) := ot_R0 (fun z => z)
  simp only [wpX_cost]
  refine ox_best T (fun k' od sn mv f rm w hX hw hI hS => ?_)
  have l := hw.1 (ot_bs be n)
  have fy : ∀ (r : Int32) (u' : SX), (∀ yl yf, i_Rel (k + 5) u' (nI n, nI d, nI m, rz, aC, aN, aE, aB, aG, yl, yf, ym, yb, yd, yr)) → (w (ot_bs be n) = 1000000000 → r = -3) → (w (ot_bs be n) ≠ 1000000000 → r = nI (w (ot_bs be n) / 1024)) → wpY_cost (fun r' v' => r' = r ∧ i_Rel (k + 5) u' v') (nI n, nI d, nI m, rz, aC, aN, aE, aB, aG, yl, yf, ym, yb, yd, yr) := fun r u' hu' h1 h2 => by
    refine oy_findCosts T (fun yl yf w' hw' hI' hS' => oy_begin T ⟨vp_in_nI slt (by omega), ?_⟩)
    have e := ot_weq T hI hS hI' hS' h0
    have a := hw'.2.2 _ s0.1
    rw [e] at a
    rcases Classical.em (w (ot_bs be n) = 1000000000) with z | z
    · exact nm_r (e' := nI 1000000) (by rw [nI_clamp (by omega)]; exact a.1 z) (br_f (by decide) ⟨(h1 z).symm, hu' _ _⟩)
    · obtain ⟨C, L, e1, hC', hL, _, _⟩ := ot_Ib hI z
      exact nm_r (e' := nI (w (ot_bs be n) / 1024)) (by rw [nI_clamp (by omega)]; exact (a.2 z).1) (br_t (nI_lt (b := 1000000) (by omega) (by omega)) ⟨(h2 z).symm, hu' _ _⟩)
  rcases Classical.em (w (ot_bs be n) = 1000000000) with z | z
  · exact br_t (by rw [z]; rfl) (fy (-3) _ (fun _ _ => i_mk T) (fun _ => rfl) (fun y => absurd z y))
  · exact br_f (fun y => z ((nI_eq (by omega) (by omega)).mp (y.trans ot_big))) ⟨by decide, fy _ _ (fun _ _ => i_mk T) (fun y => absurd y z) (fun _ => pk_div (d := 1024) (by omega) (by omega) (by omega))⟩
theorem i_vc_length {k : Nat} {u : SX} {v : SY} (I : i_Rel k u v) (hk : k + 5 ≤ 2562) : wpX_length (fun r u' => wpY_length (fun r' v' => r' = r ∧ i_Rel (k + 5) u' v') v) u := by
  obtain ⟨n, d, m, co, ne, ef, be, go, aC, aN, aE, aB, aG, mt, lc, rz, od, sn, mv, rm, bd, ls, ah, yl, yf, ym, yb, yd, yr, rfl, rfl, T⟩ := I
  have s0 := ot_s0 T
  have slt := ot_ok_lt T.1.1.2 s0
  have h0 : ot_RR n m ne ef be (ot_bs be n) := ot_R0 (fun z => z)
  simp only [wpX_length]
  refine ox_best T (fun k' od sn mv f rm w hX hw hI hS => ?_)
  have l := hw.1 (ot_bs be n)
  have iv : vp_in (nI (ot_bs be n)) 1024 := vp_in_nI slt (by omega)
  have fy : ∀ (r : Int32) (u' : SX), (∀ yl yf, i_Rel (k + 5) u' (nI n, nI d, nI m, rz, aC, aN, aE, aB, aG, yl, yf, ym, yb, yd, yr)) → (w (ot_bs be n) = 1000000000 → r = -3) → (w (ot_bs be n) ≠ 1000000000 → r = nI (w (ot_bs be n) % 1024)) → wpY_length (fun r' v' => r' = r ∧ i_Rel (k + 5) u' v') (nI n, nI d, nI m, rz, aC, aN, aE, aB, aG, yl, yf, ym, yb, yd, yr) := fun r u' hu' h1 h2 => by
    refine oy_findCosts T (fun yl yf w' hw' hI' hS' => oy_begin T ⟨iv, ?_⟩)
    have e := ot_weq T hI hS hI' hS' h0
    have a := hw'.2.2 _ s0.1
    rw [e] at a
    rw [nI_clamp (by omega)]
    rcases Classical.em (w (ot_bs be n) = 1000000000) with z | z
    · exact br_f (by rw [a.1 z]; decide) ⟨(h1 z).symm, hu' _ _⟩
    · obtain ⟨C, L, e1, hC', hL, _, _⟩ := ot_Ib hI z
      exact br_t (by rw [(a.2 z).1]; exact nI_lt (b := 1000000) (by omega) (by omega)) ⟨iv, (a.2 z).2.trans (h2 z).symm, hu' _ _⟩
  rcases Classical.em (w (ot_bs be n) = 1000000000) with z | z
  · exact br_t (by rw [z]; rfl) (fy (-3) _ (fun _ _ => i_mk T) (fun _ => rfl) (fun y => absurd z y))
  · exact br_f (fun y => z ((nI_eq (by omega) (by omega)).mp (y.trans ot_big))) ⟨by decide, fy _ _ (fun _ _ => i_mk T) (fun y => absurd y z) (fun _ => pk_rem (d := 1024) (by omega) (by omega) (by omega))⟩
theorem i_vc_dead {k : Nat} {u : SX} {v : SY} (I : i_Rel k u v) (hk : k + 5 ≤ 2562) : wpX_dead (fun r u' => wpY_dead (fun r' v' => r' = r ∧ i_Rel (k + 5) u' v') v) u := by
  obtain ⟨n, d, m, co, ne, ef, be, go, aC, aN, aE, aB, aG, mt, lc, rz, od, sn, mv, rm, bd, ls, ah, yl, yf, ym, yb, yd, yr, rfl, rfl, T⟩ := I
  have p4 := ot_4n T.1.1.2
  refine ox_explore T ot_bf0 ot_bop0 (fun k' od sn mv f hX => ?_)
  refine ox_endG T hX (fun rm hw => ?_)
  refine ox_measure T hX (ot_XFle hX) ot_RRs hw (ot_w0I (fun s hs => (hX.2.1 s hs.1).1)) (fun s hs => ot_w0t hs) (fun rm w hw hI hS => ?_)
  refine ox_count hX hw ?_
  refine oy_findMet T ot_bfy0 ot_bop0 (fun ym hM => ?_)
  refine oy_findCosts T (fun yl yf w' hw' hI' hS' => ?_)
  refine oy_dea T hM hw' hI' ⟨?_, i_mk T⟩
  have sp := ot_split (ot_RR n m ne ef be) (fun s => w s ≠ 1000000000) 1024
  have e1 : cn (fun s => ot_RR n m ne ef be s ∧ ¬ w' s ≠ 1000000000) (4 ^ n) = cn (fun s => ot_RR n m ne ef be s ∧ ¬ w s ≠ 1000000000) 1024 := by
    rw [ot_cnup (M := 1024) (N := 4 ^ n) (fun s hs => ot_Rlt T hs.1) p4]
    refine cn_eq fun s _ => ⟨fun ⟨a, b⟩ => ⟨a, ?_⟩, fun ⟨a, b⟩ => ⟨a, ?_⟩⟩
    · rw [← ot_weq T hI hS hI' hS' a]; exact b
    · rw [ot_weq T hI hS hI' hS' a]; exact b
  have hk' : k' = cn (ot_RR n m ne ef be) 1024 := hX.2.2.2.1
  show nI (cn (fun s => ot_RR n m ne ef be s ∧ ¬ w' s ≠ 1000000000) (4 ^ n)) = nI k' - nI (cn (fun s => ot_RR n m ne ef be s ∧ w s ≠ 1000000000) 1024)
  rw [e1, pk_sub (by omega)]
  congr 1
  omega
end
section
/-! step -/
def ot_B1 (n : Nat) (ne ef co w : Nat → Nat) (o s : Nat) : Prop := ot_ap n ne o s ∧ w (ot_nx ef o s n) ≠ 1000000000 ∧ w s = w (ot_nx ef o s n) + (1024 * co o + 1)
theorem ot_B1ex {n m : Nat} {ne ef co : Nat → Nat} {R g : Nat → Prop} {w : Nat → Nat} (hI : ot_I (ot_EX n m ne ef R) co g w) (hS : ot_S (ot_EX n m ne ef R) co g w) {s : Nat} (h1 : w s ≠ 1000000000) (h2 : w s % 1024 ≠ 0) : ∃ o, o < m ∧ ot_B1 n ne ef co w o s ∧ ∀ o', o' < o → ¬ ot_B1 n ne ef co w o' s := by
  obtain ⟨C, L, e1, hC, hL, _, hW⟩ := ot_Ib hI h1
  obtain ⟨L', rfl⟩ : ∃ L', L = L' + 1 := ⟨L - 1, by omega⟩
  obtain ⟨o, t, C', he, hW', e⟩ := hW
  have a := ot_lb hS L' t C' hW'
  have i9 := hS.1 s
  have a2 : w t ≠ 1000000000 := by omega
  have b := hS.2.2 o s t he a2
  have hb : ot_B1 n ne ef co w o s := by
    have q := he.2.2.2
    subst q
    exact ⟨he.2.2.1, a2, by omega⟩
  obtain ⟨o', h1', h2'⟩ := pk_least (fun o => ot_B1 n ne ef co w o s) ⟨o, hb⟩
  have : ¬ o < o' := fun z => h2' o z hb
  exact ⟨o', by have := he.2.1; omega, h1', h2'⟩
theorem ot_B1len {E : Nat → Nat → Nat → Prop} {n : Nat} {ne ef co : Nat → Nat} {g : Nat → Prop} {w : Nat → Nat} (hI : ot_I E co g w) {s o : Nat} (h1 : w s ≠ 1000000000) (h : ot_B1 n ne ef co w o s) : w (ot_nx ef o s n) % 1024 + 1 = w s % 1024 ∧ w (ot_nx ef o s n) / 1024 + co o = w s / 1024 := by
  obtain ⟨C, L, e1, hC, hL, _, _⟩ := ot_Ib hI h1
  obtain ⟨C', L', e1', hC', hL', _, _⟩ := ot_Ib hI h.2.1
  have e := h.2.2
  rw [e1, e1'] at *
  omega
section
variable {n d m : Nat} {co ne ef be go : Nat → Nat} {aC aN aE aB aG od sn mv rm bd ls ah yl yf ym yb yd yr : Nat → Int32} {mt lc rz : Int32} {R g : Nat → Prop} {k : Nat} {f w : Nat → Nat}
theorem ox_first (T : ot_T n d m co ne ef be go aC aN aE aB aG) (hX : ot_XF n m ne ef (fun _ => False) R k od mv f) (hR : ∀ s o, R s → o < m → ot_ap n ne o s → R (ot_nx ef o s n)) (hw : ot_RM R w rm) {s o : Nat} (hs : R s) (h1 : w s ≠ 1000000000) (ho : o < m) (hb : ot_B1 n ne ef co w o s) (hl : ∀ o', o' < o → ¬ ot_B1 n ne ef co w o' s) {post : Int32 → Prop} (h : post (nI o)) : wpX_firstBestOperator post (nI n, nI d, nI m, mt, lc, aC, aN, aE, aB, aG, od, sn, mv, rm, bd, ls, ah) (nI s) := by
  have T0 := T
  obtain ⟨⟨⟨hn1, hn⟩, ⟨hd1, hd⟩, hm⟩, ⟨hC, hco⟩, ⟨hN, hne⟩, ⟨hE, hef⟩, ⟨hB, hbe⟩, ⟨hG, hgo⟩⟩ := T
  have slt := (hX.2.1 s hs).1
  have l := hw.1 s
  have iv : vp_in (nI s) 1024 := vp_in_nI slt (by omega)
  have key : ∀ fu i, i ≤ o → o - i < fu → wX_firstBestOperator_2 post (nI s) (nI n) (nI d) (nI m) mt lc aC aN aE aB aG od sn mv rm bd ls ah fu (nI i) := by
    intro fu
    induction fu with
    | zero => intro i _ h; omega
    | succ fu ih =>
    intro i hi hfu
    refine br_f (nI_ge (a := i) (b := m) (by omega) (by omega)) (ox_wayBy T0 hX hR hw hs (by omega) (fun x hx hy => ⟨iv, ?_⟩))
    rw [nI_clamp (by omega), hw.2.1 s hs]
    rcases Classical.em (i = o) with z | z
    · subst z
      exact br_t (by rw [hy.1 hb.1 hb.2.1, ← hb.2.2]) h
    · refine br_f (fun e => hl i (by omega) ?_) (nm_r (nI_1 i) (ih (i + 1) (by omega) (by omega)))
      have e := (nI_eq (by omega) (by omega)).mp e
      rcases Classical.em (ot_ap n ne i s ∧ w (ot_nx ef i s n) ≠ 1000000000) with q | q
      · exact ⟨q.1, q.2, by have := hy.1 q.1 q.2; omega⟩
      · have := hy.2 q; omega
  exact ⟨o + 1, key (o + 1) 0 (Nat.zero_le _) (by omega)⟩
theorem oy_first (T : ot_T n d m co ne ef be go aC aN aE aB aG) (hw : ot_LF n w yl yf) {E : Nat → Nat → Nat → Prop} (hI : ot_I E co g w) {s o : Nat} (hs : ot_ok n d s) (h1 : w s ≠ 1000000000) (ho : o < m) (hb : ot_B1 n ne ef co w o s) (hl : ∀ o', o' < o → ¬ ot_B1 n ne ef co w o' s) {post : Int32 → Prop} (h : post (nI o)) : wpY_firstBest post (nI n, nI d, nI m, rz, aC, aN, aE, aB, aG, yl, yf, ym, yb, yd, yr) (nI s) := by
  have T0 := T
  obtain ⟨⟨⟨hn1, hn⟩, ⟨hd1, hd⟩, hm⟩, ⟨hC, hco⟩, ⟨hN, hne⟩, ⟨hE, hef⟩, ⟨hB, hbe⟩, ⟨hG, hgo⟩⟩ := T
  have slt := ot_ok_lt hn hs
  have ws := (hw.2.2 s hs.1).2 h1
  have is : vp_in (nI s) 1024 := vp_in_nI slt (by omega)
  have cs : (nI s).toNatClampNeg = s := nI_clamp (by omega)
  obtain ⟨Cs, Ls, es, hCs, hLs, _, _⟩ := ot_Ib hI h1
  have key : ∀ fu i, i ≤ o → o - i < fu → wY_firstBest_2 post (nI s) (nI n) (nI d) (nI m) rz aC aN aE aB aG yl yf ym yb yd yr fu (nI i) := by
    intro fu
    induction fu with
    | zero => intro i _ h; omega
    | succ fu ih =>
    intro i hi hfu
    have io : vp_in (nI i) 10 := vp_in_nI (by omega) (by omega)
    have ci : (nI i).toNatClampNeg = i := nI_clamp (by omega)
    have nx1 : i ≠ o → wY_firstBest_2 post (nI s) (nI n) (nI d) (nI m) rz aC aN aE aB aG yl yf ym yb yd yr fu (nI (i + 1)) := fun q => ih (i + 1) (by omega) (by omega)
    refine br_f (nI_ge (a := i) (b := m) (by omega) (by omega)) (oy_use T0 hs (by omega) (fun ha => ?_) (fun ha => br_t (by decide) (nm_r (nI_1 i) (nx1 (fun q => ha (by rw [q]; exact hb.1))))))
    have tok := ot_nx_ok (o := i) hn hd hef hs n (Nat.le_refl _)
    have tlt := ot_ok_lt hn tok
    have it : vp_in (nI (ot_nx ef i s n)) 1024 := vp_in_nI tlt (by omega)
    have ct : (nI (ot_nx ef i s n)).toNatClampNeg = ot_nx ef i s n := nI_clamp (by omega)
    have wt := hw.2.2 _ tok.1
    have c9 := hco i
    refine br_f (nI_pos (by omega)) ⟨io, it, is, ?_⟩
    rw [ct, ci, cs, hC i (by omega), ws.1, ws.2]
    rcases Classical.em (w (ot_nx ef i s n) = 1000000000) with z | z
    · rw [wt.1 z, nI_add]
      exact br_f (fun e => by have := (nI_eq (by omega) (by omega)).mp e; omega) (nm_r (nI_1 i) (nx1 (fun q => by subst q; exact hb.2.1 z)))
    · rw [(wt.2 z).1, (wt.2 z).2, nI_add, nI_1]
      obtain ⟨C, L, e1, hC', hL, _, _⟩ := ot_Ib hI z
      rcases Classical.em (ot_B1 n ne ef co w i s) with y | y
      · have e : i = o := by
          rcases Nat.lt_or_ge i o with q | q
          · exact absurd y (hl i q)
          · omega
        have b := ot_B1len hI h1 y
        subst e
        exact br_t (by rw [← b.2, Nat.add_comm]) ⟨it, is, br_t (by rw [b.1]) h⟩
      · have no : ¬ (co i + w (ot_nx ef i s n) / 1024 = w s / 1024 ∧ w (ot_nx ef i s n) % 1024 + 1 = w s % 1024) := fun q => y ⟨ha, z, by omega⟩
        have i2 : i ≠ o := fun q => by subst q; exact y hb
        rcases Classical.em (co i + w (ot_nx ef i s n) / 1024 = w s / 1024) with q | q
        · exact br_t (by rw [q]) ⟨it, is, br_f (fun e => no ⟨q, (nI_eq (by omega) (by omega)).mp e⟩) (nm_r (nI_1 i) (nx1 i2))⟩
        · exact br_f (fun e => q ((nI_eq (by omega) (by omega)).mp e)) (nm_r (nI_1 i) (nx1 i2))
  exact ⟨o + 1, key (o + 1) 0 (Nat.zero_le _) (by omega)⟩
theorem ot_B1w {w w' : Nat → Nat} {s o : Nat} (e1 : w' s = w s) (e2 : ot_ap n ne o s → w' (ot_nx ef o s n) = w (ot_nx ef o s n)) : ot_B1 n ne ef co w' o s ↔ ot_B1 n ne ef co w o s := by
  constructor
  · intro ⟨a, b, c⟩
    rw [e1, e2 a] at *
    exact ⟨a, b, c⟩
  · intro ⟨a, b, c⟩
    have e2 := e2 a
    exact ⟨a, by rw [e2]; exact b, by rw [e1, e2]; exact c⟩
def ot_An (n m : Nat) (ne ef co w : Nat → Nat) : Nat → Nat → Nat → Prop
  | 0, s, r => r < m ∧ ot_B1 n ne ef co w r s ∧ ∀ o', o' < r → ¬ ot_B1 n ne ef co w o' s
  | j + 1, s, r => ∃ o, o < m ∧ ot_B1 n ne ef co w o s ∧ (∀ o', o' < o → ¬ ot_B1 n ne ef co w o' s) ∧ ot_An n m ne ef co w j (ot_nx ef o s n) r
theorem ot_lockX (T : ot_T n d m co ne ef be go aC aN aE aB aG) (hX : ot_XF n m ne ef (fun _ => False) (ot_RR n m ne ef be) k od mv f) (hw : ot_RM (ot_RR n m ne ef be) w rm) (hI : ot_I (ot_EX n m ne ef (ot_RR n m ne ef be)) co g w) (hS : ot_S (ot_EX n m ne ef (ot_RR n m ne ef be)) co g w) {i : Nat} (hi : i < 1024) :
    ∀ j s, j ≤ i → ot_RR n m ne ef be s → w s ≠ 1000000000 → j < w s % 1024 → ∃ r, ot_An n m ne ef co w j s r ∧ (∀ (post : Int32 → SX → Prop) fu, j < fu → post (nI r) (nI n, nI d, nI m, mt, lc, aC, aN, aE, aB, aG, od, sn, mv, rm, bd, ls, ah) → wX_step_35 post (nI i) (nI n) (nI d) (nI m) mt lc aC aN aE aB aG od sn mv rm bd ls ah fu (nI s) (nI (i - j))) := by
  intro j
  induction j with
  | zero =>
    intro s _ hs h1 h2
    obtain ⟨o, ho, hb, hl⟩ := ot_B1ex hI hS h1 (by omega)
    refine ⟨o, ⟨ho, hb, hl⟩, fun post fu hfu hp => ?_⟩
    obtain ⟨fu', rfl⟩ : ∃ q, fu = q + 1 := ⟨fu - 1, by omega⟩
    exact br_t (nI_le (by omega) (by omega)) (ox_first T hX ot_RRs hw hs h1 ho hb hl hp)
  | succ j ih =>
    intro s hj hs h1 h2
    obtain ⟨o, ho, hb, hl⟩ := ot_B1ex hI hS h1 (by omega)
    have ht := ot_RRs s o hs ho hb.1
    have ln := ot_B1len hI h1 hb
    have slt := (hX.2.1 s hs).1
    have m10 := T.1.2.2
    have em := (hX.2.2.2.2 s hs o ho).1 (fun z => z) hb.1
    obtain ⟨r, hA, hrX⟩ := ih (ot_nx ef o s n) (by omega) ht hb.2.1 (by omega)
    have ei : i - (j + 1) + 1 = i - j := by omega
    refine ⟨r, ⟨o, ho, hb, hl, hA⟩, fun post fu hfu hp => ?_⟩
    obtain ⟨fu', rfl⟩ : ∃ q, fu = q + 1 := ⟨fu - 1, by omega⟩
    refine br_f (nI_ge (by omega) (by omega)) (ox_first T hX ot_RRs hw hs h1 ho hb hl ?_)
    have e10 : nI s * 10 + nI o = nI (10 * s + o) := by rw [show nI s * 10 = nI (s * 10) from pk_mul s 10, nI_add, Nat.mul_comm]
    exact ⟨by rw [e10]; exact vp_in_nI (by omega) (by omega), nm_r (e' := nI (ot_nx ef o s n)) (by rw [e10, nI_clamp (by omega)]; exact em) (nm_r (e' := nI (i - j)) (by rw [nI_1, ei]) (hrX post fu' (by omega) hp))⟩
theorem ot_lockY (T : ot_T n d m co ne ef be go aC aN aE aB aG) {w' : Nat → Nat} (hw' : ot_LF n w' yl yf) {g' : Nat → Prop} (hI' : ot_I (ot_EY n d m ne ef) co g' w') (he : ∀ s, ot_RR n m ne ef be s → w' s = w s) {i : Nat} (hi : i < 1024) :
    ∀ j s r, j ≤ i → ot_RR n m ne ef be s → w s ≠ 1000000000 → ot_An n m ne ef co w j s r → ∀ (post : Int32 → SY → Prop) fu, j < fu → post (nI r) (nI n, nI d, nI m, rz, aC, aN, aE, aB, aG, yl, yf, ym, yb, yd, yr) → wY_step_39 post (nI i) (nI n) (nI d) (nI m) rz aC aN aE aB aG yl yf ym yb yd yr fu (nI s) (nI (i - j)) := by
  have m10 := T.1.2.2
  intro j
  induction j with
  | zero =>
    intro s r _ hs h1 hA post fu hfu hp
    obtain ⟨ho, hb, hl⟩ := hA
    have eb : ∀ o', o' < m → (ot_B1 n ne ef co w' o' s ↔ ot_B1 n ne ef co w o' s) := fun o' ho' => ot_B1w (he s hs) (fun ha => he _ (ot_RRs s o' hs ho' ha))
    obtain ⟨fu', rfl⟩ : ∃ q, fu = q + 1 := ⟨fu - 1, by omega⟩
    exact br_t (nI_le (by omega) (by omega)) (oy_first T hw' hI' (ot_Rok2 T hs) (by rw [he s hs]; exact h1) ho ((eb r ho).mpr hb) (fun o' q z => hl o' q ((eb o' (by omega)).mp z)) hp)
  | succ j ih =>
    intro s r hj hs h1 hA post fu hfu hp
    obtain ⟨o, ho, hb, hl, hA⟩ := hA
    have eb : ∀ o', o' < m → (ot_B1 n ne ef co w' o' s ↔ ot_B1 n ne ef co w o' s) := fun o' ho' => ot_B1w (he s hs) (fun ha => he _ (ot_RRs s o' hs ho' ha))
    have ht := ot_RRs s o hs ho hb.1
    have ei : i - (j + 1) + 1 = i - j := by omega
    obtain ⟨fu', rfl⟩ : ∃ q, fu = q + 1 := ⟨fu - 1, by omega⟩
    exact br_f (nI_ge (by omega) (by omega)) (oy_first T hw' hI' (ot_Rok2 T hs) (by rw [he s hs]; exact h1) ho ((eb o ho).mpr hb) (fun o' q z => hl o' q ((eb o' (by omega)).mp z)) (oy_use T (ot_Rok2 T hs) (by omega) (fun _ => nm_r (e' := nI (i - j)) (by rw [nI_1, ei]) (ih _ r (by omega) ht hb.2.1 hA post fu' (by omega) hp)) (fun z => absurd hb.1 z)))
end
theorem i_vc_step {k : Nat} {u : SX} {v : SY} (I : i_Rel k u v) (hk : k + 5 ≤ 2562) (v1 : Int32) : wpX_step (fun r u' => wpY_step (fun r' v' => r' = r ∧ i_Rel (k + 5) u' v') v v1) u v1 := by
  obtain ⟨n, d, m, co, ne, ef, be, go, aC, aN, aE, aB, aG, mt, lc, rz, od, sn, mv, rm, bd, ls, ah, yl, yf, ym, yb, yd, yr, rfl, rfl, T⟩ := I
  have s0 := ot_s0 T
  have slt := ot_ok_lt T.1.1.2 s0
  have h0 : ot_RR n m ne ef be (ot_bs be n) := ot_R0 (fun z => z)
  unfold wpX_step
  refine ox_best T (fun k' od sn mv f rm w hX hw hI hS => ?_)
  have l := hw.1 (ot_bs be n)
  have iv : vp_in (nI (ot_bs be n)) 1024 := vp_in_nI slt (by omega)
  have er : nI (w (ot_bs be n)) - nI (w (ot_bs be n)) / 1024 * 1024 = nI (w (ot_bs be n) % 1024) := pk_rem (d := 1024) (by omega) (by omega) (by omega)
  have fy : ∀ (u' : SX), (∀ yl yf, i_Rel (k + 5) u' (nI n, nI d, nI m, rz, aC, aN, aE, aB, aG, yl, yf, ym, yb, yd, yr)) → (w (ot_bs be n) = 1000000000 ∨ v1 < 0 ∨ nI (w (ot_bs be n) % 1024) ≤ v1) → wpY_step (fun r' v' => r' = -3 ∧ i_Rel (k + 5) u' v') (nI n, nI d, nI m, rz, aC, aN, aE, aB, aG, yl, yf, ym, yb, yd, yr) v1 := fun u' hu' h3 => by
    unfold wpY_step
    refine oy_findCosts T (fun yl yf w' hw' hI' hS' => oy_begin T ⟨iv, ?_⟩)
    have e := ot_weq T hI hS hI' hS' h0
    have a := hw'.2.2 _ s0.1
    rw [e] at a
    rw [nI_clamp (by omega)]
    rcases Classical.em (w (ot_bs be n) = 1000000000) with z | z
    · exact br_t (by rw [a.1 z]; decide) ⟨rfl, hu' _ _⟩
    · obtain ⟨C, L, e1, hC', hL, _, _⟩ := ot_Ib hI z
      refine br_f (by rw [(a.2 z).1]; exact nI_ge (b := 1000000) (by omega) (by omega)) (br_c (fun _ => ⟨rfl, hu' _ _⟩) (fun y => ⟨iv, ?_⟩))
      rw [(a.2 z).2]
      refine br_f (Int32.not_lt.mpr ?_) ⟨rfl, hu' _ _⟩
      rcases h3 with q | q | q
      · exact absurd q z
      · exact absurd q y
      · exact q
  rcases Classical.em (w (ot_bs be n) = 1000000000) with z | z
  · exact br_t (by rw [z]; rfl) (fy _ (fun _ _ => i_mk T) (Or.inl z))
  · refine br_f (fun y => z ((nI_eq (by omega) (by omega)).mp (y.trans ot_big))) ?_
    rcases pk_ix v1 (n := w (ot_bs be n) % 1024) (by omega) with y | y | ⟨i, hi, rfl⟩
    · exact br_t y (fy _ (fun _ _ => i_mk T) (Or.inr (Or.inl y)))
    · refine br_c (fun q => fy _ (fun _ _ => i_mk T) (Or.inr (Or.inl q))) (fun q => ⟨by decide, ?_⟩)
      rw [er]
      exact br_f (Int32.not_lt.mpr y) (fy _ (fun _ _ => i_mk T) (Or.inr (Or.inr y)))
    · refine br_f (nI_pos (by omega)) ⟨by decide, ?_⟩
      rw [er]
      refine br_t (nI_lt hi (by omega)) (ox_begin T ?_)
      obtain ⟨r, hA, hrX⟩ := ot_lockX (mt := nI k') (lc := lc) (sn := sn) (bd := bd) (ls := ls) (ah := ah) T hX hw hI hS (i := i) (by omega) i (ot_bs be n) (Nat.le_refl _) h0 z hi
      rw [Nat.sub_self, nI_0] at hrX
      refine ⟨i + 1, hrX _ (i + 1) (by omega) ?_⟩
      unfold wpY_step
      refine oy_findCosts T (fun yl yf w' hw' hI' hS' => oy_begin T ⟨iv, ?_⟩)
      have e := ot_weq T hI hS hI' hS' h0
      have a := hw'.2.2 _ s0.1
      rw [e] at a
      rw [nI_clamp (by omega)]
      obtain ⟨C, L, e1, hC', hL, _, _⟩ := ot_Ib hI z
      refine br_f (by rw [(a.2 z).1]; exact nI_ge (b := 1000000) (by omega) (by omega)) (br_f (nI_pos (by omega)) ⟨iv, ?_⟩)
      rw [(a.2 z).2]
      have q := ot_lockY (rz := rz) (ym := ym) (yb := yb) (yd := yd) (yr := yr) T hw' hI' (fun s hs => ot_weq T hI hS hI' hS' hs) (i := i) (by omega) i (ot_bs be n) r (Nat.le_refl _) h0 z hA
      rw [Nat.sub_self, nI_0] at q
      exact br_t (nI_lt hi (by omega)) ⟨i + 1, q _ (i + 1) (by omega) ⟨rfl, i_mk T⟩⟩
end
section
/-! returning -/
def ot_Bk (n m : Nat) (ne ef : Nat → Nat) (R : Nat → Prop) (s0 s : Nat) : Prop := ∀ P : Nat → Prop, P s0 → (∀ s o, R s → o < m → ot_ap n ne o s → P (ot_nx ef o s n) → P s) → P s
theorem ot_Bk0 {n m : Nat} {ne ef : Nat → Nat} {R : Nat → Prop} {s0 : Nat} : ot_Bk n m ne ef R s0 s0 := fun _ h _ => h
theorem ot_Bks {n m : Nat} {ne ef : Nat → Nat} {R : Nat → Prop} {s0 s o : Nat} (hs : R s) (ho : o < m) (ha : ot_ap n ne o s) (h : ot_Bk n m ne ef R s0 (ot_nx ef o s n)) : ot_Bk n m ne ef R s0 s := fun P h0 hP => hP s o hs ho ha (h P h0 hP)
theorem ot_BkW {n m : Nat} {ne ef co : Nat → Nat} {R : Nat → Prop} {s0 : Nat} : ∀ L s C, ot_W (ot_EX n m ne ef R) co (fun s => s = s0) L s C → ot_Bk n m ne ef R s0 s := by
  intro L
  induction L with
  | zero => intro s C h; rw [h.1]; exact ot_Bk0
  | succ L ih =>
    intro s C ⟨o, t, C', he, hw, _⟩
    have q := he.2.2.2
    subst q
    exact ot_Bks he.1 he.2.1 he.2.2.1 (ih _ C' hw)
theorem ot_Bkw {n m : Nat} {ne ef co : Nat → Nat} {R : Nat → Prop} {s0 : Nat} {w : Nat → Nat} (hc : ∀ o, co o ≤ 9) (hI : ot_I (ot_EX n m ne ef R) co (fun s => s = s0) w) (hS : ot_S (ot_EX n m ne ef R) co (fun s => s = s0) w) (s : Nat) : w s ≠ 1000000000 ↔ ot_Bk n m ne ef R s0 s := by
  constructor
  · intro h
    obtain ⟨C, L, _, _, _, _, hW⟩ := ot_Ib hI h
    exact ot_BkW L s C hW
  · intro h
    refine h (fun s => w s ≠ 1000000000) (by show w s0 ≠ 1000000000; rw [hS.2.1 s0 rfl]; omega) (fun s o hs ho ha ht => ?_)
    obtain ⟨C, L, e1, hC, hL, _, _⟩ := ot_Ib hI ht
    have := hS.2.2 o s _ ⟨hs, ho, ha, rfl⟩ ht
    have := hc o
    omega
section
variable {n d m : Nat} {co ne ef be go : Nat → Nat} {aC aN aE aB aG yl yf ym yd yr : Nat → Int32} {rz : Int32}
def ot_BI (n m : Nat) (ne ef : Nat → Nat) (R : Nat → Prop) (s0 : Nat) (yb : Nat → Int32) : Prop := (∀ s, s < 4 ^ n → yb s = 0 ∨ (yb s = 1 ∧ ot_Bk n m ne ef R s0 s)) ∧ yb s0 = 1
def ot_BC (n m : Nat) (ne ef : Nat → Nat) (R : Nat → Prop) (yb : Nat → Int32) (s o : Nat) : Prop := R s → o < m → ot_ap n ne o s → yb (ot_nx ef o s n) = 1 → yb s = 1
theorem oy_rt54 (T : ot_T n d m co ne ef be go aC aN aE aB aG) (hM : ot_MF n (ot_RR n m ne ef be) ym) {post : Int32 → SY → Prop} {J : Int32 → (Nat → Int32) → (Nat → Int32) → (Nat → Int32) → (Nat → Int32) → (Nat → Int32) → (Nat → Int32) → (Nat → Int32) → (Nat → Int32) → (Nat → Int32) → (Nat → Int32) → (Nat → Int32) → Prop} {yb0 : Nat → Int32}
    (hJ : ∀ c yb, ot_BI n m ne ef (ot_RR n m ne ef be) (ot_bs be n) yb → ((c = 0 ∧ yb = yb0 ∧ ∀ j, j < 10 * 4 ^ n → ot_BC n m ne ef (ot_RR n m ne ef be) yb (j / 10) (j % 10)) ∨ (c = 1 ∧ cn (fun s => yb0 s = 1) (4 ^ n) < cn (fun s => yb s = 1) (4 ^ n))) → J c aC aN aE aB aG yl yf ym yb yd yr) :
    ∀ fu i c yb, i ≤ 10 * 4 ^ n → 10 * 4 ^ n - i < fu → ot_BI n m ne ef (ot_RR n m ne ef be) (ot_bs be n) yb → ((c = 0 ∧ yb = yb0 ∧ ∀ j, j < i → ot_BC n m ne ef (ot_RR n m ne ef be) yb (j / 10) (j % 10)) ∨ (c = 1 ∧ cn (fun s => yb0 s = 1) (4 ^ n) < cn (fun s => yb s = 1) (4 ^ n))) → wY_returning_54 post J (nI n) (nI d) (nI m) rz fu c (nI i) aC aN aE aB aG yl yf ym yb yd yr := by
  have s0ok := ot_s0 T
  have T0 := T
  obtain ⟨⟨⟨hn1, hn⟩, ⟨hd1, hd⟩, hm⟩, ⟨hC, hco⟩, ⟨hN, hne⟩, ⟨hE, hef⟩, ⟨hB, hbe⟩, ⟨hG, hgo⟩⟩ := T
  have p4 := ot_4n hn
  have p1 := ot_4p n
  intro fu
  induction fu with
  | zero => intro i c yb _ h; omega
  | succ fu ih =>
  intro i c yb hi hfu hM' hc
  simp only [wY_returning_54, oy_st T0]
  rw [show 10 * nI (4 ^ n) = nI (10 * 4 ^ n) from pk_mul 10 _]
  rcases Nat.lt_or_ge i (10 * 4 ^ n) with z | z
  · have ed : nI i / 10 = nI (i / 10) := pk_div (d := 10) (by omega) (by omega) (by omega)
    have er : nI i - nI i / 10 * 10 = nI (i % 10) := pk_rem (d := 10) (by omega) (by omega) (by omega)
    have sl : i / 10 < 4 ^ n := by omega
    have ol : i % 10 < 10 := by omega
    have iv : vp_in (nI (i / 10)) 1024 := vp_in_nI (by omega) (by omega)
    have ci : (nI (i / 10)).toNatClampNeg = i / 10 := nI_clamp (by omega)
    have skip : ot_BC n m ne ef (ot_RR n m ne ef be) yb (i / 10) (i % 10) → wY_returning_54 post J (nI n) (nI d) (nI m) rz fu c (nI (i + 1)) aC aN aE aB aG yl yf ym yb yd yr := fun q => ih (i + 1) c yb (by omega) (by omega) hM' (hc.imp (fun y => ⟨y.1, y.2.1, lt_s y.2.2 q⟩) id)
    refine br_f (nI_ge z (by omega)) ⟨by decide, nm_r er ⟨by decide, ?_⟩⟩
    rw [ed]
    refine ⟨iv, ?_⟩
    rw [ci]
    rcases hM (i / 10) sl with ⟨y, hR⟩ | ⟨y, hR⟩
    · have sok := ot_Rok hn hd hef s0ok hR
      refine br_f (by rw [y]; decide) ⟨by decide, iv, ?_⟩
      rcases hM'.1 (i / 10) sl with e | ⟨e, _⟩
      · refine br_t e ?_
        rcases Nat.lt_or_ge (i % 10) m with a | a
        · refine br_f (nI_ge a (by omega)) ⟨by decide, oy_use T0 sok ol (fun ha => ?_) (fun ha => ?_)⟩
          · have tok := ot_nx_ok (o := i % 10) hn hd hef sok n (Nat.le_refl _)
            have tlt := ot_ok_lt hn tok
            refine br_f (nI_pos (by omega)) ⟨vp_in_nI tlt (by omega), ?_⟩
            rw [nI_clamp (by omega)]
            rcases hM'.1 _ tok.1 with q | ⟨q, hB'⟩
            · exact br_t q (nm_r (nI_1 i) (skip (fun _ _ _ w => absurd (q.symm.trans w) ot_01)))
            · refine br_f (by rw [q]; decide) ⟨by decide, ?_⟩
              rw [ed]
              refine ⟨iv, nm_r (e' := upd yb (i / 10) 1) (by rw [ci]; rfl) (nm_r (nI_1 i) (ih (i + 1) 1 _ (by omega) (by omega) ⟨fun s hs => ?_, ?_⟩ (Or.inr ⟨rfl, ?_⟩)))⟩
              · rcases Classical.em (s = i / 10) with g | g
                · rw [g, pk_us]; exact Or.inr ⟨rfl, ot_Bks hR a ha hB'⟩
                · rw [pk_un g]; exact hM'.1 s hs
              · rcases Classical.em (ot_bs be n = i / 10) with g | g
                · rw [g, pk_us]
                · rw [pk_un g]; exact hM'.2
              · rw [ot_cnupd sl (fun w => ot_01 (e.symm.trans w))]
                rcases hc with w | w
                · rw [w.2.1]; omega
                · omega
          · exact br_t (by decide) (nm_r (nI_1 i) (skip (fun _ _ w => absurd w ha)))
        · exact br_t (nI_le a (by omega)) (br_t (by decide) (nm_r (nI_1 i) (skip (fun _ w => by omega))))
      · exact br_f (by rw [e]; decide) (br_t (by decide) (nm_r (nI_1 i) (skip (fun _ _ _ _ => e))))
    · exact br_t y (br_t (by decide) (nm_r (nI_1 i) (skip (fun w => absurd w hR))))
  · refine br_t (nI_le z (by omega)) (hJ c yb hM' (hc.imp (fun y => ⟨y.1, y.2.1, fun j hj => y.2.2 j (by omega)⟩) id))
theorem oy_returning (T : ot_T n d m co ne ef be go aC aN aE aB aG) {yb : Nat → Int32} {post : Int32 → SY → Prop} (h : ∀ ym yb, post (nI (cn (fun s => ot_RR n m ne ef be s ∧ ot_Bk n m ne ef (ot_RR n m ne ef be) (ot_bs be n) s) (4 ^ n))) (nI n, nI d, nI m, rz, aC, aN, aE, aB, aG, yl, yf, ym, yb, yd, yr)) : wpY_returning post (nI n, nI d, nI m, rz, aC, aN, aE, aB, aG, yl, yf, ym, yb, yd, yr) := by
  have s0ok := ot_s0 T
  have T0 := T
  obtain ⟨⟨⟨hn1, hn⟩, ⟨hd1, hd⟩, hm⟩, ⟨hC, hco⟩, ⟨hN, hne⟩, ⟨hE, hef⟩, ⟨hB, hbe⟩, ⟨hG, hgo⟩⟩ := T
  have p4 := ot_4n hn
  have p1 := ot_4p n
  refine oy_findMet T0 ot_bfy0 ot_bop0 (fun ym hM => oy_begin T0 ?_)
  have k161 : ∀ yb, (∀ s, ot_RR n m ne ef be s → ((yb s = 1 ∧ ot_Bk n m ne ef (ot_RR n m ne ef be) (ot_bs be n) s) ∨ (yb s = 0 ∧ ¬ ot_Bk n m ne ef (ot_RR n m ne ef be) (ot_bs be n) s))) → ∃ fu, wY_returning_161 post (nI n) (nI d) (nI m) rz aC aN aE aB aG yl yf ym yb yd yr fu 0 0 := fun yb hb => by
    refine loop_0 (σ := Unit) (fun fu i _ => wY_returning_161 post (nI n) (nI d) (nI m) rz aC aN aE aB aG yl yf ym yb yd yr fu (nI (cn (fun s => ot_RR n m ne ef be s ∧ ot_Bk n m ne ef (ot_RR n m ne ef be) (ot_bs be n) s) i)) (nI i)) (fun _ _ => True) (4 ^ n) () trivial ?_ ?_
    · intro fu _ _
      simp only [wY_returning_161, oy_st T0]
      exact br_t (nI_le (Nat.le_refl _) (by omega)) (h ym yb)
    · intro fu i _ hi _ ih
      have ih : wY_returning_161 post (nI n) (nI d) (nI m) rz aC aN aE aB aG yl yf ym yb yd yr fu (nI (cn (fun s => ot_RR n m ne ef be s ∧ ot_Bk n m ne ef (ot_RR n m ne ef be) (ot_bs be n) s) i + b01 (ot_RR n m ne ef be i ∧ ot_Bk n m ne ef (ot_RR n m ne ef be) (ot_bs be n) i))) (nI (i + 1)) := ih () trivial
      simp only [wY_returning_161, oy_st T0]
      have iv : vp_in (nI i) 1024 := vp_in_nI (by omega) (by omega)
      refine br_f (nI_ge hi (by omega)) ⟨iv, ?_⟩
      rw [nI_clamp (by omega)]
      rcases hM i hi with ⟨a, b⟩ | ⟨a, b⟩
      · refine br_f (by rw [a]; decide) ⟨iv, ?_⟩
        rcases hb i b with ⟨e, q⟩ | ⟨e, q⟩
        · rw [b01_t ⟨b, q⟩] at ih
          exact br_f (by rw [e]; decide) (nm_r (nI_1 _) (nm_r (nI_1 i) ih))
        · rw [b01_f (fun w => q w.2)] at ih
          exact br_t e (nm_r (nI_1 i) ih)
      · rw [b01_f (fun w => b w.1)] at ih
        exact br_t a (nm_r (nI_1 i) ih)
  have key : ∀ fu c yb, ot_BI n m ne ef (ot_RR n m ne ef be) (ot_bs be n) yb → (c = 0 → ∀ j, j < 10 * 4 ^ n → ot_BC n m ne ef (ot_RR n m ne ef be) yb (j / 10) (j % 10)) → (c = 0 ∨ c = 1) → 4 ^ n - cn (fun s => yb s = 1) (4 ^ n) + (if c = 0 then 0 else 1) < fu → wY_returning_46 post (nI n) (nI d) (nI m) rz fu c aC aN aE aB aG yl yf ym yb yd yr := by
    intro fu
    induction fu with
    | zero => intro c yb _ _ _ h; omega
    | succ fu ih =>
    intro c yb hB' hC' hc hfu
    rcases hc with z | z
    · refine br_t z (k161 yb (fun s hs => ?_))
      have cl := hC' z
      rcases hB'.1 s (ot_Rlt T0 hs) with y | y
      · refine Or.inr ⟨y, fun hk => ?_⟩
        have := hk (fun s => yb s = 1) hB'.2 (fun s o hs ho ha ht => by
          have lt := ot_Rlt T0 hs
          have q := cl (10 * s + o) (by omega)
          rw [show (10 * s + o) / 10 = s by omega, show (10 * s + o) % 10 = o by omega] at q
          exact q hs ho ha ht)
        exact ot_01 (y.symm.trans this)
      · exact Or.inl y
    · subst z
      rw [if_neg ot_01'] at hfu
      have hle := cn_le (fun s => yb s = 1) (4 ^ n)
      refine br_f ot_01' ⟨10 * 4 ^ n + 1, oy_rt54 T0 hM (yb0 := yb) (fun c' yb' hM' hc' => ?_) (10 * 4 ^ n + 1) 0 0 yb (Nat.zero_le _) (by omega) hB' (Or.inl ⟨rfl, rfl, fun j hj => by omega⟩)⟩
      rcases hc' with ⟨q1, q2, q3⟩ | ⟨q1, q2⟩
      · subst q1 q2
        exact ih 0 yb' hM' (fun _ => q3) (Or.inl rfl) (by rw [if_pos rfl]; omega)
      · subst q1
        have hle' := cn_le (fun s => yb' s = 1) (4 ^ n)
        exact ih 1 yb' hM' (fun q => absurd q ot_01') (Or.inr rfl) (by rw [if_neg ot_01']; omega)
  refine loop_0 (fun fu i (yb : Nat → Int32) => wY_returning_14 post (nI (ot_bs be n)) (nI n) (nI d) (nI m) rz fu (nI i) aC aN aE aB aG yl yf ym yb yd yr) (fun i yb => ∀ j, j < i → (yb j = 1 ∧ j = ot_bs be n) ∨ (yb j = 0 ∧ ¬ j = ot_bs be n)) (4 ^ n) yb (fun j hj => by omega) ?_ ?_
  · intro fu yb hI
    simp only [wY_returning_14, oy_st T0]
    refine br_t (nI_le (Nat.le_refl _) (by omega)) ⟨4 ^ n + 2, key (4 ^ n + 2) 1 yb ⟨fun s hs => ?_, ?_⟩ (fun q => absurd q ot_01') (Or.inr rfl) (by rw [if_neg ot_01']; omega)⟩
    · rcases hI s hs with ⟨a, b⟩ | ⟨a, _⟩
      · exact Or.inr ⟨a, by rw [b]; exact ot_Bk0⟩
      · exact Or.inl a
    · rcases hI _ s0ok.1 with ⟨a, _⟩ | ⟨_, b⟩
      · exact a
      · exact absurd rfl b
  · intro fu i yb hi hI ih
    simp only [wY_returning_14, oy_st T0]
    have iv : vp_in (nI i) 1024 := vp_in_nI (by omega) (by omega)
    have slt := ot_ok_lt hn s0ok
    have nx1 : ∀ x, ((x = 1 ∧ i = ot_bs be n) ∨ (x = 0 ∧ ¬ i = ot_bs be n)) → wY_returning_14 post (nI (ot_bs be n)) (nI n) (nI d) (nI m) rz fu (nI (i + 1)) aC aN aE aB aG yl yf ym (upd yb i x) yd yr := fun x hx => ih _ (lt_s (fun j hj => by rw [pk_un (by omega)]; exact hI j hj) (by rw [pk_us]; exact hx))
    have e1 : ∀ x : Int32, upd yb (nI i).toNatClampNeg x = upd yb i x := fun x => by rw [nI_clamp (by omega)]
    refine br_f (nI_ge hi (by omega)) ?_
    rcases Classical.em (i = ot_bs be n) with z | z
    · exact br_t (by rw [z]) ⟨iv, nm_r (e1 _) (nm_r (nI_1 i) (nx1 1 (Or.inl ⟨rfl, z⟩)))⟩
    · exact br_f (fun u => z ((nI_eq (by omega) (by omega)).mp u)) ⟨iv, nm_r (e1 _) (nm_r (nI_1 i) (nx1 0 (Or.inr ⟨rfl, z⟩)))⟩
end
theorem i_vc_returning {k : Nat} {u : SX} {v : SY} (I : i_Rel k u v) (hk : k + 5 ≤ 2562) : wpX_returning (fun r u' => wpY_returning (fun r' v' => r' = r ∧ i_Rel (k + 5) u' v') v) u := by
  obtain ⟨n, d, m, co, ne, ef, be, go, aC, aN, aE, aB, aG, mt, lc, rz, od, sn, mv, rm, bd, ls, ah, yl, yf, ym, yb, yd, yr, rfl, rfl, T⟩ := I
  have p4 := ot_4n T.1.1.2
  have h0 : ot_RR n m ne ef be (ot_bs be n) := ot_R0 (fun z => z)
  refine ox_explore T ot_bf0 ot_bop0 (fun k' od sn mv f hX => ?_)
  refine ox_endB T hX h0 (fun rm hw => ?_)
  refine ox_measure T hX (ot_XFle hX) ot_RRs hw (ot_w0I (fun s hs => by rw [hs]; exact (hX.2.1 _ h0).1)) (fun s hs => ot_w0t hs) (fun rm w hw hI hS => ?_)
  refine ox_count hX hw ?_
  refine oy_returning T (fun ym yb => ⟨?_, i_mk T⟩)
  rw [← ot_cnup (M := 1024) (N := 4 ^ n) (fun s hs => ot_Rlt T hs.1) p4]
  congr 1
  exact cn_eq fun s _ => ⟨fun ⟨a, b⟩ => ⟨a, (ot_Bkw T.2.1.2 hI hS s).mpr b⟩, fun ⟨a, b⟩ => ⟨a, (ot_Bkw T.2.1.2 hI hS s).mp b⟩⟩
end
section
/-! relaxed: the component -/
def ot_HR (ah : Nat → Int32) (h : Nat → Prop) : Prop := (∀ f, f < 20 → (ah f = 1 ∧ h f) ∨ (ah f = 0 ∧ ¬ h f)) ∧ ∀ f, h f → f < 20
theorem ot_HRup {ah : Nat → Int32} {h h' : Nat → Prop} {f : Nat} (H : ot_HR ah h) (hf : f < 20) (e : ∀ q, h' q ↔ h q ∨ q = f) : ot_HR (upd ah f 1) h' := by
  refine ⟨fun q hq => ?_, fun q hq => ?_⟩
  · rcases Classical.em (q = f) with z | z
    · rw [z, pk_us]; exact Or.inl ⟨rfl, (e f).mpr (Or.inr rfl)⟩
    · rw [pk_un z]
      exact (H.1 q hq).imp (fun y => ⟨y.1, (e q).mpr (Or.inl y.2)⟩) (fun y => ⟨y.1, fun w => ((e q).mp w).elim y.2 z⟩)
  · rcases (e q).mp hq with z | z
    · exact H.2 q z
    · omega
theorem ot_HRc {ah : Nat → Int32} {h h' : Nat → Prop} (H : ot_HR ah h) (e : ∀ q, h' q ↔ h q) : ot_HR ah h' := ⟨fun q hq => (H.1 q hq).imp (fun y => ⟨y.1, (e q).mpr y.2⟩) (fun y => ⟨y.1, fun w => y.2 ((e q).mp w)⟩), fun q hq => H.2 q ((e q).mp hq)⟩
def ot_gh (n : Nat) (go : Nat → Nat) (h : Nat → Prop) : Prop := ∀ v, v < n → go v ≠ 0 → h (4 * v + (go v - 1))
def ot_ch (c : Nat) (o : Nat) : Prop := ((nI c >>> (nI o &&& 31)) &&& 1) = 1
/-- a round so far: h0 at its beginning, h now, o operators looked at -/
def ot_RI (n m : Nat) (ne ef be : Nat → Nat) (ch : Nat → Prop) (o : Nat) (h0 h : Nat → Prop) : Prop := (∀ f, h0 f → h f) ∧ (∀ f, h f → ot_F n m ne ef be ch f) ∧ ∀ o', o' < o → ch o' → ot_nd n ne h0 o' → ∀ v, v < n → ef (5 * o' + v) ≠ 0 → h (4 * v + (ef (5 * o' + v) - 1))
def ot_ad (n : Nat) (ef : Nat → Nat) (o : Nat) (h : Nat → Prop) (v f : Nat) : Prop := h f ∨ ∃ u, u < v ∧ ef (5 * o + u) ≠ 0 ∧ f = 4 * u + (ef (5 * o + u) - 1)
theorem ot_RIs {n m : Nat} {ne ef be : Nat → Nat} {ch h0 h : Nat → Prop} {o : Nat} (H : ot_RI n m ne ef be ch o h0 h) (ho : o < m) (hc : ch o) (hn : ot_nd n ne h o) : ot_RI n m ne ef be ch (o + 1) h0 (ot_ad n ef o h n) := by
  refine ⟨fun f hf => Or.inl (H.1 f hf), fun f hf => ?_, fun o' ho' hc' hn' v hv he => ?_⟩
  · rcases hf with hf | ⟨u, hu, he, e⟩
    · exact H.2.1 f hf
    · rw [e]; exact ot_Fcl o ho hc (fun v hv hz => H.2.1 _ (hn v hv hz)) u hu he
  · rcases Nat.lt_or_ge o' o with z | z
    · exact Or.inl (H.2.2 o' z hc' hn' v hv he)
    · have e : o' = o := by omega
      subst e
      exact Or.inr ⟨v, hv, he, rfl⟩
theorem ot_RIn {n m : Nat} {ne ef be : Nat → Nat} {ch h0 h : Nat → Prop} {o : Nat} (H : ot_RI n m ne ef be ch o h0 h) (hno : ¬ (ch o ∧ ot_nd n ne h o)) : ot_RI n m ne ef be ch (o + 1) h0 h := by
  refine ⟨H.1, H.2.1, fun o' ho' hc' hn' v hv he => ?_⟩
  rcases Nat.lt_or_ge o' o with z | z
  · exact H.2.2 o' z hc' hn' v hv he
  · have e : o' = o := by omega
    subst e
    exact absurd ⟨hc', fun u hu hz => H.1 _ (hn' u hu hz)⟩ hno
theorem ot_RI0 {n m j : Nat} {ne ef be : Nat → Nat} {ch h : Nat → Prop} (H : ot_rj n m ne ef be ch j h) : ot_RI n m ne ef be ch 0 h h := ⟨fun _ z => z, H.2.1, fun o' ho' => by omega⟩
theorem ot_RIe {n m j : Nat} {ne ef be : Nat → Nat} {ch h0 h : Nat → Prop} (Hj : ot_rj n m ne ef be ch j h0) (H : ot_RI n m ne ef be ch m h0 h) : ot_rj n m ne ef be ch (j + 1) h := ot_rjs Hj H.1 H.2.1 (fun o ho hc hn v hv he => H.2.2 o ho hc hn v hv he)
noncomputable def ot_sc (co : Nat → Nat) (ch : Nat → Prop) : Nat → Nat
  | 0 => 0
  | o + 1 => ot_sc co ch o + b01 (ch o) * co o
theorem ot_scle {co : Nat → Nat} (hc : ∀ o, co o ≤ 9) (ch : Nat → Prop) : ∀ m, ot_sc co ch m ≤ 9 * m
  | 0 => Nat.le_refl _
  | m + 1 => by
    have a := ot_scle hc ch m
    have b := hc m
    show ot_sc co ch m + b01 (ch m) * co m ≤ 9 * (m + 1)
    rcases Classical.em (ch m) with z | z
    · rw [b01_t z]; omega
    · rw [b01_f z]; omega
noncomputable def ot_rb (S : Nat → Nat) (G : Nat → Prop) (I : Nat) : Nat → Nat
  | 0 => I
  | c + 1 => @ite Nat (S c < ot_rb S G I c ∧ G c) (Classical.propDecidable _) (S c) (ot_rb S G I c)
theorem ot_rbt {S : Nat → Nat} {G : Nat → Prop} {I c : Nat} (h : S c < ot_rb S G I c ∧ G c) : ot_rb S G I (c + 1) = S c := if_pos h
theorem ot_rbf {S : Nat → Nat} {G : Nat → Prop} {I c : Nat} (h : ¬ (S c < ot_rb S G I c ∧ G c)) : ot_rb S G I (c + 1) = ot_rb S G I c := if_neg h
theorem ot_rbeq {S : Nat → Nat} {G : Nat → Prop} {I J : Nat} (hS : ∀ c, S c ≤ 90) (hI : 90 < I) (hJ : 90 < J) : ∀ c, (ot_rb S G I c = I ∧ ot_rb S G J c = J) ∨ (ot_rb S G I c = ot_rb S G J c ∧ ot_rb S G I c ≤ 90)
  | 0 => Or.inl ⟨rfl, rfl⟩
  | c + 1 => by
    have a := hS c
    rcases ot_rbeq (G := G) hS hI hJ c with ⟨e1, e2⟩ | ⟨e1, e2⟩
    · rcases Classical.em (G c) with z | z
      · rw [ot_rbt ⟨by omega, z⟩, ot_rbt ⟨by omega, z⟩]; exact Or.inr ⟨rfl, a⟩
      · rw [ot_rbf (fun y => z y.2), ot_rbf (fun y => z y.2)]; exact Or.inl ⟨e1, e2⟩
    · rcases Classical.em (S c < ot_rb S G I c ∧ G c) with z | z
      · rw [ot_rbt z, ot_rbt (by rw [← e1]; exact z)]; exact Or.inr ⟨rfl, a⟩
      · rw [ot_rbf z, ot_rbf (by rw [← e1]; exact z)]; exact Or.inr ⟨e1, e2⟩
section
variable {n d m : Nat} {co ne ef be go : Nat → Nat} {aC aN aE aB aG od sn mv rm bd ls ah : Nat → Int32} {mt lc : Int32} {h : Nat → Prop} {ch : Nat → Prop} {c : Nat}
theorem ox_holdB (T : ot_T n d m co ne ef be go aC aN aE aB aG) (H : ot_HR ah (fun _ => False)) {post : SX → Prop} (hP : ∀ ah, ot_HR ah (fun f => ∃ u, u < n ∧ f = 4 * u + be u) → post (nI n, nI d, nI m, mt, lc, aC, aN, aE, aB, aG, od, sn, mv, rm, bd, ls, ah)) : wpX_holdAll__starts post (nI n, nI d, nI m, mt, lc, aC, aN, aE, aB, aG, od, sn, mv, rm, bd, ls, ah) 0 := by
  obtain ⟨⟨⟨hn1, hn⟩, ⟨hd1, hd⟩, hm⟩, ⟨hC, hco⟩, ⟨hN, hne⟩, ⟨hE, hef⟩, ⟨hB, hbe⟩, ⟨hG, hgo⟩⟩ := T
  refine loop_0 (fun fu v (ah : Nat → Int32) => wX_holdAll__starts_2 post 0 (nI n) (nI d) (nI m) mt lc fu (nI v) aC aN aE aB aG od sn mv rm bd ls ah) (fun v ah => ot_HR ah (fun f => ∃ u, u < v ∧ f = 4 * u + be u)) n ah (ot_HRc H (fun q => ⟨fun ⟨u, hu, _⟩ => by omega, fun z => z.elim⟩)) ?_ ?_
  · intro fu ah hI
    exact br_t (nI_le (Nat.le_refl _) (by omega)) (hP ah hI)
  · intro fu v ah hv hI ih
    have b := hbe v
    have e0 : (0 : Int32) + nI v = nI v := Int32.zero_add _
    have e4 : nI v * 4 + nI (be v) = nI (4 * v + be v) := by rw [show nI v * 4 = nI (v * 4) from pk_mul v 4, nI_add, Nat.mul_comm]
    refine br_f (nI_ge hv (by omega)) ⟨by rw [e0]; exact vp_in_nI (by omega) (by omega), nm_r (e' := nI (be v)) (by rw [e0, nI_clamp (by omega), hB _ (by omega)]) (br_f (ot_nn (by omega)).1 ⟨by rw [e4]; exact vp_in_nI (by omega) (by omega), nm_r (e' := upd ah (4 * v + be v) 1) (by rw [e4, nI_clamp (by omega)]; rfl) (nm_r (nI_1 v) (ih _ (ot_HRup hI (by omega) (fun q => ?_))))⟩)⟩
    constructor
    · intro ⟨u, hu, e⟩
      rcases Classical.em (u = v) with z | z
      · subst z; exact Or.inr e
      · exact Or.inl ⟨u, by omega, e⟩
    · intro z
      rcases z with ⟨u, hu, e⟩ | e
      · exact ⟨u, by omega, e⟩
      · exact ⟨v, by omega, e⟩
theorem ox_holdE (T : ot_T n d m co ne ef be go aC aN aE aB aG) (H : ot_HR ah h) {o : Nat} (ho : o < 10) {x2 : Int32} (e2 : x2 = nI (5 * o)) {post : SX → Prop} (hP : ∀ ah, ot_HR ah (ot_ad n ef o h n) → post (nI n, nI d, nI m, mt, lc, aC, aN, aE, aB, aG, od, sn, mv, rm, bd, ls, ah)) : wpX_holdAll__effects post (nI n, nI d, nI m, mt, lc, aC, aN, aE, aB, aG, od, sn, mv, rm, bd, ls, ah) x2 := by
  subst e2
  obtain ⟨⟨⟨hn1, hn⟩, ⟨hd1, hd⟩, hm⟩, ⟨hC, hco⟩, ⟨hN, hne⟩, ⟨hE, hef⟩, ⟨hB, hbe⟩, ⟨hG, hgo⟩⟩ := T
  refine loop_0 (fun fu v (ah : Nat → Int32) => wX_holdAll__effects_2 post (nI (5 * o)) (nI n) (nI d) (nI m) mt lc fu (nI v) aC aN aE aB aG od sn mv rm bd ls ah) (fun v ah => ot_HR ah (ot_ad n ef o h v)) n ah (ot_HRc H (fun q => ⟨fun z => z.elim id (fun ⟨u, hu, _⟩ => by omega), Or.inl⟩)) ?_ ?_
  · intro fu ah hI
    exact br_t (nI_le (Nat.le_refl _) (by omega)) (hP ah hI)
  · intro fu v ah hv hI ih
    have b := hef (5 * o + v)
    refine br_f (nI_ge hv (by omega)) ⟨by rw [nI_add]; exact vp_in_nI (by omega) (by omega), nm_r (e' := ot_rv (ef (5 * o + v))) (by rw [nI_add, nI_clamp (by omega), hE _ (by omega)]) ?_⟩
    rcases Classical.em (ef (5 * o + v) = 0) with z | z
    · refine br_t ((ot_rvm _ (by omega)).mpr z) (nm_r (nI_1 v) (ih _ (ot_HRc hI (fun q => ?_))))
      constructor
      · intro y
        rcases y with y | ⟨u, hu, w, e⟩
        · exact Or.inl y
        · rcases Classical.em (u = v) with g | g
          · subst g; exact absurd z w
          · exact Or.inr ⟨u, by omega, w, e⟩
      · intro y
        exact y.imp id (fun ⟨u, hu, w, e⟩ => ⟨u, by omega, w, e⟩)
    · refine br_f (fun y => z ((ot_rvm _ (by omega)).mp y)) ?_
      rw [ot_rvp z]
      have e4 : nI v * 4 + nI (ef (5 * o + v) - 1) = nI (4 * v + (ef (5 * o + v) - 1)) := by rw [show nI v * 4 = nI (v * 4) from pk_mul v 4, nI_add, Nat.mul_comm]
      rw [e4]
      refine ⟨vp_in_nI (by omega) (by omega), nm_r (e' := upd ah (4 * v + (ef (5 * o + v) - 1)) 1) (by rw [nI_clamp (by omega)]; rfl) (nm_r (nI_1 v) (ih _ (ot_HRup hI (by omega) (fun q => ?_))))⟩
      constructor
      · intro y
        rcases y with y | ⟨u, hu, w, e⟩
        · exact Or.inl (Or.inl y)
        · rcases Classical.em (u = v) with g | g
          · subst g; exact Or.inr e
          · exact Or.inl (Or.inr ⟨u, by omega, w, e⟩)
      · intro y
        rcases y with y | e
        · exact y.imp id (fun ⟨u, hu, w, e⟩ => ⟨u, by omega, w, e⟩)
        · exact Or.inr ⟨v, by omega, z, e⟩
theorem ox_allN (T : ot_T n d m co ne ef be go aC aN aE aB aG) (H : ot_HR ah h) {o : Nat} (ho : o < 10) {x2 : Int32} (e2 : x2 = nI (5 * o)) {post : Int32 → Prop} (h1 : ot_nd n ne h o → post 1) (h0 : ¬ ot_nd n ne h o → post 0) : wpX_allHeld__needs post (nI n, nI d, nI m, mt, lc, aC, aN, aE, aB, aG, od, sn, mv, rm, bd, ls, ah) x2 := by
  subst e2
  obtain ⟨⟨⟨hn1, hn⟩, ⟨hd1, hd⟩, hm⟩, ⟨hC, hco⟩, ⟨hN, hne⟩, ⟨hE, hef⟩, ⟨hB, hbe⟩, ⟨hG, hgo⟩⟩ := T
  refine loop_0 (σ := Unit) (fun fu v _ => wX_allHeld__needs_2 post (nI (5 * o)) (nI n) (nI d) (nI m) mt lc aC aN aE aB aG od sn mv rm bd ls ah fu (nI v)) (fun v _ => ∀ u, u < v → ne (5 * o + u) ≠ 0 → h (4 * u + (ne (5 * o + u) - 1))) n () (fun u hu => by omega) ?_ ?_
  · intro fu _ hI
    exact br_t (nI_le (Nat.le_refl _) (by omega)) (h1 hI)
  · intro fu v _ hv hI ih
    have b := hne (5 * o + v)
    refine br_f (nI_ge hv (by omega)) ⟨by rw [nI_add]; exact vp_in_nI (by omega) (by omega), nm_r (e' := ot_rv (ne (5 * o + v))) (by rw [nI_add, nI_clamp (by omega), hN _ (by omega)]) ?_⟩
    rcases Classical.em (ne (5 * o + v) = 0) with z | z
    · exact br_t ((ot_rvm _ (by omega)).mpr z) (nm_r (nI_1 v) (ih () (lt_s hI (fun y => absurd z y))))
    · refine br_f (fun y => z ((ot_rvm _ (by omega)).mp y)) ?_
      rw [ot_rvp z]
      have e4 : nI v * 4 + nI (ne (5 * o + v) - 1) = nI (4 * v + (ne (5 * o + v) - 1)) := by rw [show nI v * 4 = nI (v * 4) from pk_mul v 4, nI_add, Nat.mul_comm]
      rw [e4]
      refine ⟨vp_in_nI (by omega) (by omega), ?_⟩
      rw [nI_clamp (by omega)]
      rcases H.1 (4 * v + (ne (5 * o + v) - 1)) (by omega) with ⟨y1, y2⟩ | ⟨y1, y2⟩
      · exact br_f (by rw [y1]; decide) (nm_r (nI_1 v) (ih () (lt_s hI (fun _ => y2))))
      · exact br_t y1 (h0 (fun q => y2 (q v hv z)))
theorem ox_allG (T : ot_T n d m co ne ef be go aC aN aE aB aG) (H : ot_HR ah h) {post : Int32 → Prop} (h1 : ot_gh n go h → post 1) (h0 : ¬ ot_gh n go h → post 0) : wpX_allHeld__goals post (nI n, nI d, nI m, mt, lc, aC, aN, aE, aB, aG, od, sn, mv, rm, bd, ls, ah) 0 := by
  obtain ⟨⟨⟨hn1, hn⟩, ⟨hd1, hd⟩, hm⟩, ⟨hC, hco⟩, ⟨hN, hne⟩, ⟨hE, hef⟩, ⟨hB, hbe⟩, ⟨hG, hgo⟩⟩ := T
  refine loop_0 (σ := Unit) (fun fu v _ => wX_allHeld__goals_2 post 0 (nI n) (nI d) (nI m) mt lc aC aN aE aB aG od sn mv rm bd ls ah fu (nI v)) (fun v _ => ∀ u, u < v → go u ≠ 0 → h (4 * u + (go u - 1))) n () (fun u hu => by omega) ?_ ?_
  · intro fu _ hI
    exact br_t (nI_le (Nat.le_refl _) (by omega)) (h1 hI)
  · intro fu v _ hv hI ih
    have b := hgo v
    have e0 : (0 : Int32) + nI v = nI v := Int32.zero_add _
    refine br_f (nI_ge hv (by omega)) ⟨by rw [e0]; exact vp_in_nI (by omega) (by omega), nm_r (e' := ot_rv (go v)) (by rw [e0, nI_clamp (by omega), hG _ (by omega)]) ?_⟩
    rcases Classical.em (go v = 0) with z | z
    · exact br_t ((ot_rvm _ (by omega)).mpr z) (nm_r (nI_1 v) (ih () (lt_s hI (fun y => absurd z y))))
    · refine br_f (fun y => z ((ot_rvm _ (by omega)).mp y)) ?_
      rw [ot_rvp z]
      have e4 : nI v * 4 + nI (go v - 1) = nI (4 * v + (go v - 1)) := by rw [show nI v * 4 = nI (v * 4) from pk_mul v 4, nI_add, Nat.mul_comm]
      rw [e4]
      refine ⟨vp_in_nI (by omega) (by omega), ?_⟩
      rw [nI_clamp (by omega)]
      rcases H.1 (4 * v + (go v - 1)) (by omega) with ⟨y1, y2⟩ | ⟨y1, y2⟩
      · exact br_f (by rw [y1]; decide) (nm_r (nI_1 v) (ih () (lt_s hI (fun _ => y2))))
      · exact br_t y1 (h0 (fun q => y2 (q v hv z)))
theorem ox_rr42 (T : ot_T n d m co ne ef be go aC aN aE aB aG) {post : Int32 → SX → Prop} {J : Int32 → Int32 → Int32 → Int32 → Int32 → Int32 → (Nat → Int32) → (Nat → Int32) → (Nat → Int32) → (Nat → Int32) → (Nat → Int32) → (Nat → Int32) → (Nat → Int32) → (Nat → Int32) → (Nat → Int32) → (Nat → Int32) → (Nat → Int32) → (Nat → Int32) → Prop} {r : Nat} {h0 : Nat → Prop}
    (hJ : ∀ ah h, ot_HR ah h → ot_RI n m ne ef be (ot_ch c) m h0 h → J (nI (r + 1)) (nI n) (nI d) (nI m) mt lc aC aN aE aB aG od sn mv rm bd ls ah) :
    ∀ fu o ah h, o ≤ m → m - o < fu → ot_HR ah h → ot_RI n m ne ef be (ot_ch c) o h0 h → wX_relaxedReachesGoal_42 post J (nI c) (nI r) fu (nI o) (nI n) (nI d) (nI m) mt lc aC aN aE aB aG od sn mv rm bd ls ah := by
  have T0 := T
  obtain ⟨⟨⟨hn1, hn⟩, ⟨hd1, hd⟩, hm⟩, ⟨hC, hco⟩, ⟨hN, hne⟩, ⟨hE, hef⟩, ⟨hB, hbe⟩, ⟨hG, hgo⟩⟩ := T
  intro fu
  induction fu with
  | zero => intro o ah h _ h; omega
  | succ fu ih =>
  intro o ah h ho hfu H hR
  rcases Nat.lt_or_ge o m with z | z
  · have e5 : nI o * 5 = nI (5 * o) := by rw [show nI o * 5 = nI (o * 5) from pk_mul o 5, Nat.mul_comm]
    have skip : ¬ (ot_ch c o ∧ ot_nd n ne h o) → wX_relaxedReachesGoal_42 post J (nI c) (nI r) fu (nI (o + 1)) (nI n) (nI d) (nI m) mt lc aC aN aE aB aG od sn mv rm bd ls ah := fun q => ih (o + 1) ah h (by omega) (by omega) H (ot_RIn hR q)
    refine br_f (nI_ge z (by omega)) (br_c (fun hc => ?_) (fun hc => nm_r (nI_1 o) (skip (fun q => hc q.1))))
    refine ox_allN T0 H (o := o) (by omega) e5 (fun hn' => br_f ot_01' ?_) (fun hn' => br_t rfl (nm_r (nI_1 o) (skip (fun q => hn' q.2))))
    exact ox_holdE T0 H (o := o) (by omega) e5 (fun ah' H' => nm_r (nI_1 o) (ih (o + 1) ah' _ (by omega) (by omega) H' (ot_RIs hR z hc hn')))
  · have e : o = m := by omega
    subst e
    exact br_t (nI_le (Nat.le_refl _) (by omega)) (nm_r (nI_1 r) (hJ ah h H hR))
theorem ox_rrg (T : ot_T n d m co ne ef be go aC aN aE aB aG) {post : Int32 → SX → Prop} (h1 : ot_gh n go (ot_F n m ne ef be (ot_ch c)) → ∀ ah, post 1 (nI n, nI d, nI m, mt, lc, aC, aN, aE, aB, aG, od, sn, mv, rm, bd, ls, ah)) (h0 : ¬ ot_gh n go (ot_F n m ne ef be (ot_ch c)) → ∀ ah, post 0 (nI n, nI d, nI m, mt, lc, aC, aN, aE, aB, aG, od, sn, mv, rm, bd, ls, ah)) : wpX_relaxedReachesGoal post (nI n, nI d, nI m, mt, lc, aC, aN, aE, aB, aG, od, sn, mv, rm, bd, ls, ah) (nI c) := by
  have T0 := T
  obtain ⟨⟨⟨hn1, hn⟩, ⟨hd1, hd⟩, hm⟩, ⟨hC, hco⟩, ⟨hN, hne⟩, ⟨hE, hef⟩, ⟨hB, hbe⟩, ⟨hG, hgo⟩⟩ := T
  have key : ∀ fu j ah h, j ≤ m → m - j < fu → ot_HR ah h → ot_rj n m ne ef be (ot_ch c) j h → wX_relaxedReachesGoal_32 post (nI c) fu (nI j) (nI n) (nI d) (nI m) mt lc aC aN aE aB aG od sn mv rm bd ls ah := by
    intro fu
    induction fu with
    | zero => intro j ah h _ h; omega
    | succ fu ih =>
    intro j ah h hj hfu H hR
    rcases Nat.lt_or_ge j m with z | z
    · exact br_f (nI_ge z (by omega)) ⟨m + 1, ox_rr42 T0 (fun ah' h' H' hR' => ih (j + 1) ah' h' (by omega) (by omega) H' (ot_RIe hR hR')) (m + 1) 0 ah h (Nat.zero_le _) (by omega) H (ot_RI0 hR)⟩
    · have ef' := fun f => ot_rje hR z f
      refine br_t (nI_le z (by omega)) (ox_allG T0 H (fun g => ⟨rfl, h1 (fun v hv hz => (ef' _).mp (g v hv hz)) ah⟩) (fun g => ⟨rfl, h0 (fun q => g (fun v hv hz => (ef' _).mpr (q v hv hz))) ah⟩))
  refine loop_0 (fun fu f (ah : Nat → Int32) => wX_relaxedReachesGoal_2 post (nI c) (nI n) (nI d) (nI m) mt lc fu (nI f) aC aN aE aB aG od sn mv rm bd ls ah) (fun f ah => ∀ q, q < f → ah q = 0) 20 ah (fun q hq => by omega) ?_ ?_
  · intro fu ah hI
    refine br_t (by decide) (ox_holdB T0 ⟨fun f hf => Or.inr ⟨hI f hf, fun z => z⟩, fun f z => z.elim⟩ (fun ah' H' => ⟨m + 1, key (m + 1) 0 ah' _ (Nat.zero_le _) (by omega) H' (ot_rj0 (fun v hv => ⟨v, hv, rfl⟩) (fun f ⟨u, hu, e⟩ => by rw [e]; exact ot_F0 hu))⟩))
  · intro fu f ah hf hI ih
    exact br_f (nI_ge (b := 20) hf (by decide)) ⟨vp_in_nI hf (by omega), nm_r (e' := upd ah f 0) (by rw [nI_clamp (by omega)]; rfl) (nm_r (nI_1 f) (ih _ (lt_s (fun q hq => by rw [pk_un (by omega)]; exact hI q hq) pk_us)))⟩
theorem ox_sum (T : ot_T n d m co ne ef be go aC aN aE aB aG) {post : Int32 → Prop} (h : post (nI (ot_sc co (ot_ch c) m))) : wpX_sumOfCosts post (nI n, nI d, nI m, mt, lc, aC, aN, aE, aB, aG, od, sn, mv, rm, bd, ls, ah) (nI c) := by
  obtain ⟨⟨⟨hn1, hn⟩, ⟨hd1, hd⟩, hm⟩, ⟨hC, hco⟩, ⟨hN, hne⟩, ⟨hE, hef⟩, ⟨hB, hbe⟩, ⟨hG, hgo⟩⟩ := T
  refine loop_0 (σ := Unit) (fun fu o _ => wX_sumOfCosts_4 post (nI c) (nI n) (nI d) (nI m) mt lc aC aN aE aB aG od sn mv rm bd ls ah fu (nI (ot_sc co (ot_ch c) o)) (nI o)) (fun _ _ => True) m () trivial ?_ ?_
  · intro fu _ _
    exact br_t (nI_le (Nat.le_refl _) (by omega)) h
  · intro fu o _ ho _ ih
    have ih : wX_sumOfCosts_4 post (nI c) (nI n) (nI d) (nI m) mt lc aC aN aE aB aG od sn mv rm bd ls ah fu (nI (ot_sc co (ot_ch c) o + b01 (ot_ch c o) * co o)) (nI (o + 1)) := ih () trivial
    refine br_f (nI_ge ho (by omega)) ?_
    rcases Classical.em (ot_ch c o) with z | z
    · rw [b01_t z, Nat.one_mul] at ih
      exact br_t z ⟨vp_in_nI (by omega) (by omega), nm_r (e' := nI (ot_sc co (ot_ch c) o + co o)) (by rw [nI_clamp (by omega), hC o (by omega), nI_add]) (nm_r (nI_1 o) ih)⟩
    · rw [b01_f z, Nat.zero_mul] at ih
      exact br_f z (nm_r (nI_1 o) ih)
theorem ox_relaxed (T : ot_T n d m co ne ef be go aC aN aE aB aG) {post : Int32 → SX → Prop} (h1 : ot_rb (fun c => ot_sc co (ot_ch c) m) (fun c => ot_gh n go (ot_F n m ne ef be (ot_ch c))) 1000000000 (2 ^ m) = 1000000000 → ∀ ah, post (-3) (nI n, nI d, nI m, mt, lc, aC, aN, aE, aB, aG, od, sn, mv, rm, bd, ls, ah)) (h0 : ot_rb (fun c => ot_sc co (ot_ch c) m) (fun c => ot_gh n go (ot_F n m ne ef be (ot_ch c))) 1000000000 (2 ^ m) ≠ 1000000000 → ∀ ah, post (nI (ot_rb (fun c => ot_sc co (ot_ch c) m) (fun c => ot_gh n go (ot_F n m ne ef be (ot_ch c))) 1000000000 (2 ^ m))) (nI n, nI d, nI m, mt, lc, aC, aN, aE, aB, aG, od, sn, mv, rm, bd, ls, ah)) : wpX_relaxed post (nI n, nI d, nI m, mt, lc, aC, aN, aE, aB, aG, od, sn, mv, rm, bd, ls, ah) := by
  have T0 := T
  obtain ⟨⟨⟨hn1, hn⟩, ⟨hd1, hd⟩, hm⟩, ⟨hC, hco⟩, ⟨hN, hne⟩, ⟨hE, hef⟩, ⟨hB, hbe⟩, ⟨hG, hgo⟩⟩ := T
  have pm : 2 ^ m ≤ 1024 := Nat.pow_le_pow_right (n := 2) (by decide) hm
  have s90 : ∀ c, ot_sc co (ot_ch c) m ≤ 90 := fun c => by have := ot_scle hco (ot_ch c) m; omega
  have rb := ot_rbeq (S := fun c => ot_sc co (ot_ch c) m) (G := fun c => ot_gh n go (ot_F n m ne ef be (ot_ch c))) (I := 1000000000) (J := 1000000000) s90 (by omega) (by omega)
  refine loop_0 (fun fu c (ah : Nat → Int32) => wX_relaxed_5 post fu (nI (ot_rb (fun c => ot_sc co (ot_ch c) m) (fun c => ot_gh n go (ot_F n m ne ef be (ot_ch c))) 1000000000 c)) (nI c) (nI n) (nI d) (nI m) mt lc aC aN aE aB aG od sn mv rm bd ls ah) (fun _ _ => True) (2 ^ m) ah trivial ?_ ?_
  · intro fu ah _
    refine br_t (by rw [ot_p2 m (by omega)]; exact nI_le (Nat.le_refl _) (by omega)) ?_
    rcases rb (2 ^ m) with ⟨e, _⟩ | ⟨_, e⟩
    · exact br_f (by rw [e]; decide) (h1 e ah)
    · exact br_t (by have := nI_lt (b := 1000000000) (Nat.lt_of_le_of_lt e (by omega)) (by omega); exact this) (h0 (by omega) ah)
  · intro fu c ah hc _ ih
    have sc := s90 c
    have q9 : ot_rb (fun c => ot_sc co (ot_ch c) m) (fun c => ot_gh n go (ot_F n m ne ef be (ot_ch c))) 1000000000 c ≤ 1000000000 := by
      rcases rb c with ⟨e, _⟩ | ⟨_, e⟩ <;> omega
    refine br_f (by rw [ot_p2 m (by omega)]; exact nI_ge hc (by omega)) (ox_sum T0 ?_)
    rcases Nat.lt_or_ge (ot_sc co (ot_ch c) m) (ot_rb (fun c => ot_sc co (ot_ch c) m) (fun c => ot_gh n go (ot_F n m ne ef be (ot_ch c))) 1000000000 c) with z | z
    · refine br_f (nI_ge z (by omega)) (ox_rrg T0 (fun g ah' => br_f ot_01' (nm_r (nI_1 c) ?_)) (fun g ah' => br_t rfl (nm_r (nI_1 c) ?_)))
      · have := ih ah' trivial
        rw [ot_rbt ⟨z, g⟩] at this
        exact this
      · have := ih ah' trivial
        rw [ot_rbf (fun y => g y.2)] at this
        exact this
    · refine br_t (nI_le z (by omega)) (nm_r (nI_1 c) ?_)
      have := ih ah trivial
      rw [ot_rbf (fun y => by have := y.1; omega)] at this
      exact this
end
end
section
/-! relaxed: the reference -/
def ot_BR (x : Int32) (h : Nat → Prop) : Prop := (∀ f, f < 20 → (bt x f = true ↔ h f)) ∧ ∀ f, h f → f < 20
theorem ot_bt1 : ∀ f, f < 20 → ∀ i, i < 20 → bt ((1 : Int32) <<< (nI f &&& 31)) i = decide (i = f) := by decide +kernel
theorem ot_bit (x : Int32) {f : Nat} (hf : f < 20) : ((x >>> (nI f &&& 31)) &&& 1) = 0 ↔ bt x f = false := by
  have a := b_sshr f (by omega) x (i := 0) (by omega)
  rw [if_pos (by omega), Nat.add_zero] at a
  rw [pk_and _ 1 (by decide)]
  have b : bt (x >>> (nI f &&& 31)) 0 = decide ((x >>> (nI f &&& 31)).toBitVec.toNat % 2 = 1) := Nat.testBit_zero _
  rw [← a, b]
  have l : (x >>> (nI f &&& 31)).toBitVec.toNat % 2 ^ 1 < 2 := Nat.mod_lt _ (by decide)
  rw [show (2 : Nat) ^ 1 = 2 from rfl] at *
  rw [show (0 : Int32) = nI 0 from rfl, nI_eq (by omega) (by omega), decide_eq_false_iff_not]
  omega
theorem ot_BRup {x : Int32} {h h' : Nat → Prop} {f : Nat} (H : ot_BR x h) (hf : f < 20) (e : ∀ q, h' q ↔ h q ∨ q = f) : ot_BR (x ||| ((1 : Int32) <<< (nI f &&& 31))) h' := by
  refine ⟨fun q hq => ?_, fun q hq => ?_⟩
  · rw [b_or, ot_bt1 f hf q hq, Bool.or_eq_true, decide_eq_true_eq, e, H.1 q hq]
  · rcases (e q).mp hq with z | z
    · exact H.2 q z
    · omega
theorem ot_BRor {x y : Int32} {h g h' : Nat → Prop} (H : ot_BR x h) (G : ot_BR y g) (e : ∀ q, h' q ↔ h q ∨ g q) : ot_BR (x ||| y) h' := by
  refine ⟨fun q hq => ?_, fun q hq => ?_⟩
  · rw [b_or, Bool.or_eq_true, e, H.1 q hq, G.1 q hq]
  · exact ((e q).mp hq).elim (H.2 q) (G.2 q)
theorem ot_BRc {x : Int32} {h h' : Nat → Prop} (H : ot_BR x h) (e : ∀ q, h' q ↔ h q) : ot_BR x h' := ⟨fun q hq => (H.1 q hq).trans (e q).symm, fun q hq => H.2 q ((e q).mp hq)⟩
theorem ot_BR0 : ot_BR 0 (fun _ => False) := ⟨fun f _ => by rw [b_0]; exact ⟨fun z => absurd z (by decide), fun z => z.elim⟩, fun _ z => z.elim⟩
section
variable {n d m : Nat} {co ne ef be go : Nat → Nat} {aC aN aE aB aG yl yf ym yb yd yr : Nat → Int32} {rz : Int32} {h : Nat → Prop} {x : Int32} {c : Nat}
theorem oy_hasN (T : ot_T n d m co ne ef be go aC aN aE aB aG) (H : ot_BR x h) {o : Nat} (ho : o < 10) {post : Int32 → Prop} (h1 : ot_nd n ne h o → post 1) (h0 : ¬ ot_nd n ne h o → post 0) : wpY_hasAll post (nI n, nI d, nI m, rz, aC, aN, aE, aB, aG, yl, yf, ym, yb, yd, yr) (nI o) x := by
  obtain ⟨⟨⟨hn1, hn⟩, ⟨hd1, hd⟩, hm⟩, ⟨hC, hco⟩, ⟨hN, hne⟩, ⟨hE, hef⟩, ⟨hB, hbe⟩, ⟨hG, hgo⟩⟩ := T
  refine loop_0 (σ := Unit) (fun fu v _ => wY_hasAll_2 post (nI o) x (nI n) (nI d) (nI m) rz aC aN aE aB aG yl yf ym yb yd yr fu (nI v)) (fun v _ => ∀ u, u < v → ne (5 * o + u) ≠ 0 → h (4 * u + (ne (5 * o + u) - 1))) n () (fun u hu => by omega) ?_ ?_
  · intro fu _ hI
    exact br_t (nI_le (Nat.le_refl _) (by omega)) (h1 hI)
  · intro fu v _ hv hI ih
    have b := hne (5 * o + v)
    have e5 : 5 * nI o + nI v = nI (5 * o + v) := by rw [show 5 * nI o = nI (5 * o) from pk_mul 5 o, nI_add]
    refine br_f (nI_ge hv (by omega)) (br_t (nI_pos' (by omega)) ?_)
    rw [e5]
    refine ⟨vp_in_nI (by omega) (by omega), ?_⟩
    rw [nI_clamp (by omega), hN _ (by omega)]
    rcases Classical.em (ne (5 * o + v) = 0) with z | z
    · exact br_t ((ot_rvn _ (by omega)).mpr z) (nm_r (nI_1 v) (ih () (lt_s hI (fun y => absurd z y))))
    · refine br_f (fun y => z ((ot_rvn _ (by omega)).mp y)) ?_
      have e4 : 4 * nI v + nI (ne (5 * o + v) - 1) = nI (4 * v + (ne (5 * o + v) - 1)) := by rw [show 4 * nI v = nI (4 * v) from pk_mul 4 v, nI_add]
      rw [ot_rvp z, e4]
      have bt' := ot_bit x (f := 4 * v + (ne (5 * o + v) - 1)) (by omega)
      have hh := H.1 (4 * v + (ne (5 * o + v) - 1)) (by omega)
      rcases Classical.em (h (4 * v + (ne (5 * o + v) - 1))) with y | y
      · exact br_f (fun w => by rw [bt'.mp w] at hh; exact absurd (hh.mpr y) (by decide)) (nm_r (nI_1 v) (ih () (lt_s hI (fun _ => y))))
      · refine br_t (bt'.mpr ?_) (h0 (fun q => y (q v hv z)))
        rcases e : bt x (4 * v + (ne (5 * o + v) - 1)) with _ | _
        · rfl
        · exact absurd (hh.mp e) y
theorem oy_hasG (T : ot_T n d m co ne ef be go aC aN aE aB aG) (H : ot_BR x h) {post : Int32 → Prop} (h1 : ot_gh n go h → post 1) (h0 : ¬ ot_gh n go h → post 0) : wpY_hasAll post (nI n, nI d, nI m, rz, aC, aN, aE, aB, aG, yl, yf, ym, yb, yd, yr) (-1) x := by
  obtain ⟨⟨⟨hn1, hn⟩, ⟨hd1, hd⟩, hm⟩, ⟨hC, hco⟩, ⟨hN, hne⟩, ⟨hE, hef⟩, ⟨hB, hbe⟩, ⟨hG, hgo⟩⟩ := T
  refine loop_0 (σ := Unit) (fun fu v _ => wY_hasAll_2 post (-1) x (nI n) (nI d) (nI m) rz aC aN aE aB aG yl yf ym yb yd yr fu (nI v)) (fun v _ => ∀ u, u < v → go u ≠ 0 → h (4 * u + (go u - 1))) n () (fun u hu => by omega) ?_ ?_
  · intro fu _ hI
    exact br_t (nI_le (Nat.le_refl _) (by omega)) (h1 hI)
  · intro fu v _ hv hI ih
    have b := hgo v
    refine br_f (nI_ge hv (by omega)) (br_f (by decide) ⟨vp_in_nI (by omega) (by omega), ?_⟩)
    rw [nI_clamp (by omega), hG _ (by omega)]
    rcases Classical.em (go v = 0) with z | z
    · exact br_t ((ot_rvn _ (by omega)).mpr z) (nm_r (nI_1 v) (ih () (lt_s hI (fun y => absurd z y))))
    · refine br_f (fun y => z ((ot_rvn _ (by omega)).mp y)) ?_
      have e4 : 4 * nI v + nI (go v - 1) = nI (4 * v + (go v - 1)) := by rw [show 4 * nI v = nI (4 * v) from pk_mul 4 v, nI_add]
      rw [ot_rvp z, e4]
      have bt' := ot_bit x (f := 4 * v + (go v - 1)) (by omega)
      have hh := H.1 (4 * v + (go v - 1)) (by omega)
      rcases Classical.em (h (4 * v + (go v - 1))) with y | y
      · exact br_f (fun w => by rw [bt'.mp w] at hh; exact absurd (hh.mpr y) (by decide)) (nm_r (nI_1 v) (ih () (lt_s hI (fun _ => y))))
      · refine br_t (bt'.mpr ?_) (h0 (fun q => y (q v hv z)))
        rcases e : bt x (4 * v + (go v - 1)) with _ | _
        · rfl
        · exact absurd (hh.mp e) y
theorem oy_factsOf (T : ot_T n d m co ne ef be go aC aN aE aB aG) {o : Nat} (ho : o < 10) {post : Int32 → Prop} (hP : ∀ y, ot_BR y (ot_ad n ef o (fun _ => False) n) → post y) : wpY_factsOf post (nI n, nI d, nI m, rz, aC, aN, aE, aB, aG, yl, yf, ym, yb, yd, yr) (nI o) := by
  obtain ⟨⟨⟨hn1, hn⟩, ⟨hd1, hd⟩, hm⟩, ⟨hC, hco⟩, ⟨hN, hne⟩, ⟨hE, hef⟩, ⟨hB, hbe⟩, ⟨hG, hgo⟩⟩ := T
  refine loop_0 (fun fu v (y : Int32) => wY_factsOf_4 post (nI o) (nI n) (nI d) (nI m) rz aC aN aE aB aG yl yf ym yb yd yr fu y (nI v)) (fun v y => ot_BR y (ot_ad n ef o (fun _ => False) v)) n 0 (ot_BRc ot_BR0 (fun q => ⟨fun z => z.elim id (fun ⟨u, hu, _⟩ => by omega), Or.inl⟩)) ?_ ?_
  · intro fu y hI
    exact br_t (nI_le (Nat.le_refl _) (by omega)) (hP y hI)
  · intro fu v y hv hI ih
    have b := hef (5 * o + v)
    have e5 : 5 * nI o + nI v = nI (5 * o + v) := by rw [show 5 * nI o = nI (5 * o) from pk_mul 5 o, nI_add]
    refine br_f (nI_ge hv (by omega)) ⟨by rw [e5]; exact vp_in_nI (by omega) (by omega), nm_r (e' := ot_rv (ef (5 * o + v))) (by rw [e5, nI_clamp (by omega), hE _ (by omega)]) ?_⟩
    rcases Classical.em (ef (5 * o + v) = 0) with z | z
    · refine br_t ((ot_rvn _ (by omega)).mpr z) (nm_r (nI_1 v) (ih _ (ot_BRc hI (fun q => ?_))))
      constructor
      · intro w
        rcases w with w | ⟨u, hu, w, e⟩
        · exact Or.inl w
        · rcases Classical.em (u = v) with g | g
          · subst g; exact absurd z w
          · exact Or.inr ⟨u, by omega, w, e⟩
      · intro w
        exact w.imp id (fun ⟨u, hu, w, e⟩ => ⟨u, by omega, w, e⟩)
    · refine br_f (fun w => z ((ot_rvn _ (by omega)).mp w)) ?_
      have e4 : 4 * nI v + nI (ef (5 * o + v) - 1) = nI (4 * v + (ef (5 * o + v) - 1)) := by rw [show 4 * nI v = nI (4 * v) from pk_mul 4 v, nI_add]
      rw [ot_rvp z, e4]
      refine nm_e (nm_r (nI_1 v) (ih _ (ot_BRup hI (by omega) (fun q => ?_))))
      constructor
      · intro w
        rcases w with w | ⟨u, hu, w, e⟩
        · exact Or.inl (Or.inl w)
        · rcases Classical.em (u = v) with g | g
          · subst g; exact Or.inr e
          · exact Or.inl (Or.inr ⟨u, by omega, w, e⟩)
      · intro w
        rcases w with w | e
        · exact w.imp id (fun ⟨u, hu, w, e⟩ => ⟨u, by omega, w, e⟩)
        · exact Or.inr ⟨v, by omega, z, e⟩
theorem oy_comes (T : ot_T n d m co ne ef be go aC aN aE aB aG) {post : Int32 → Prop} (h1 : ot_gh n go (ot_F n m ne ef be (ot_ch c)) → post 1) (h0 : ¬ ot_gh n go (ot_F n m ne ef be (ot_ch c)) → post 0) : wpY_comes post (nI n, nI d, nI m, rz, aC, aN, aE, aB, aG, yl, yf, ym, yb, yd, yr) (nI c) := by
  have T0 := T
  obtain ⟨⟨⟨hn1, hn⟩, ⟨hd1, hd⟩, hm⟩, ⟨hC, hco⟩, ⟨hN, hne⟩, ⟨hE, hef⟩, ⟨hB, hbe⟩, ⟨hG, hgo⟩⟩ := T
  have em10 : 10 * nI m = nI (10 * m) := pk_mul 10 m
  have fin : ∀ fu j x h i, i = 10 * m → m ≤ j → ot_BR x h → ot_rj n m ne ef be (ot_ch c) j h → wY_comes_35 post (nI c) (nI n) (nI d) (nI m) rz aC aN aE aB aG yl yf ym yb yd yr (fu + 1) x (nI i) := fun fu j x h i hi hj H hR => by
    have ef' := fun f => ot_rje hR hj f
    refine br_t (by rw [em10]; exact nI_le (by omega) (by omega)) (oy_hasG T0 H (fun g => ⟨rfl, h1 (fun v hv hz => (ef' _).mp (g v hv hz))⟩) (fun g => ⟨rfl, h0 (fun q => g (fun v hv hz => (ef' _).mpr (q v hv hz)))⟩))
  have key : ∀ fu j o x h hh, 0 < m → o < m → j < 10 → 10 * m - (m * j + o) < fu → ot_BR x h → ot_rj n m ne ef be (ot_ch c) j hh → ot_RI n m ne ef be (ot_ch c) o hh h → wY_comes_35 post (nI c) (nI n) (nI d) (nI m) rz aC aN aE aB aG yl yf ym yb yd yr fu x (nI (m * j + o)) := by
    intro fu
    induction fu with
    | zero => intro j o x h hh _ _ _ h; omega
    | succ fu ih =>
    intro j o x h hh m0 ho hj hfu H hR hI
    have mj : m * j + m ≤ 10 * m := by
      have : m * (j + 1) ≤ m * 10 := Nat.mul_le_mul_left m (by omega)
      rw [Nat.mul_succ] at this
      omega
    have er : nI (m * j + o) - nI (m * j + o) / nI m * nI m = nI o := by
      rw [pk_rem (by omega) m0 (by omega), Nat.mul_add_mod, Nat.mod_eq_of_lt ho]
    have go1 : ∀ x h, ot_BR x h → ot_RI n m ne ef be (ot_ch c) (o + 1) hh h → wY_comes_35 post (nI c) (nI n) (nI d) (nI m) rz aC aN aE aB aG yl yf ym yb yd yr fu x (nI (m * j + o + 1)) := fun x h H hI => by
      rcases Nat.lt_or_ge (o + 1) m with z | z
      · exact ih j (o + 1) x h hh m0 z hj (by omega) H hR hI
      · have eo : o + 1 = m := by omega
        rw [eo] at hI
        have hR' := ot_RIe hR hI
        rcases Nat.lt_or_ge (j + 1) 10 with y | y
        · have := ih (j + 1) 0 x h h m0 m0 y (by rw [Nat.mul_succ]; omega) H hR' (ot_RI0 hR')
          rw [show m * (j + 1) + 0 = m * j + o + 1 by rw [Nat.mul_succ]; omega] at this
          exact this
        · obtain ⟨fu', rfl⟩ : ∃ q, fu = q + 1 := ⟨fu - 1, by omega⟩
          have ej : j = 9 := by omega
          subst ej
          exact fin fu' 10 x h _ (by omega) hm H hR'
    refine br_f (by rw [em10]; exact nI_ge (by omega) (by omega)) ⟨nI_ne0 m0 (by omega), nm_r er (br_c (fun hc => ?_) (fun hc => nm_r (nI_1 _) (go1 x h H (ot_RIn hI (fun q => hc q.1)))))⟩
    refine oy_hasN T0 H (by omega) (fun hn' => br_f ot_01' (oy_factsOf T0 (by omega) (fun y Hy => nm_e (nm_r (nI_1 _) ?_)))) (fun hn' => br_t rfl (nm_r (nI_1 _) (go1 x h H (ot_RIn hI (fun q => hn' q.2)))))
    refine go1 _ _ (ot_BRor H Hy (fun q => ?_)) (ot_RIs hI ho hc hn')
    exact ⟨fun w => w.imp id (fun u => Or.inr u), fun w => w.imp id (fun u => u.elim (fun z => z.elim) id)⟩
  refine loop_0 (fun fu v (y : Int32) => wY_comes_4 post (nI c) (nI n) (nI d) (nI m) rz aC aN aE aB aG yl yf ym yb yd yr fu y (nI v)) (fun v y => ot_BR y (fun f => ∃ u, u < v ∧ f = 4 * u + be u)) n 0 (ot_BRc ot_BR0 (fun q => ⟨fun ⟨u, hu, _⟩ => by omega, fun z => z.elim⟩)) ?_ ?_
  · intro fu y hI
    have r0 : ot_rj n m ne ef be (ot_ch c) 0 (fun f => ∃ u, u < n ∧ f = 4 * u + be u) := ot_rj0 (fun v hv => ⟨v, hv, rfl⟩) (fun f ⟨u, hu, e⟩ => by rw [e]; exact ot_F0 hu)
    refine br_t (nI_le (Nat.le_refl _) (by omega)) ?_
    rcases Nat.eq_zero_or_pos m with z | z
    · exact ⟨1, fin 0 0 y _ 0 (by omega) (by omega) hI r0⟩
    · exact ⟨10 * m + 1, key (10 * m + 1) 0 0 y _ _ z z (by omega) (by omega) hI r0 (ot_RI0 r0)⟩
  · intro fu v y hv hI ih
    have b := hbe v
    have e4 : 4 * nI v + nI (be v) = nI (4 * v + be v) := by rw [show 4 * nI v = nI (4 * v) from pk_mul 4 v, nI_add]
    refine br_f (nI_ge hv (by omega)) ⟨vp_in_nI (by omega) (by omega), ?_⟩
    rw [nI_clamp (by omega), hB _ (by omega), e4]
    refine nm_e (nm_r (nI_1 v) (ih _ (ot_BRup hI (by omega) (fun q => ?_))))
    constructor
    · intro ⟨u, hu, e⟩
      rcases Classical.em (u = v) with z | z
      · subst z; exact Or.inr e
      · exact Or.inl ⟨u, by omega, e⟩
    · intro z
      rcases z with ⟨u, hu, e⟩ | e
      · exact ⟨u, by omega, e⟩
      · exact ⟨v, by omega, e⟩
theorem oy_relaxed (T : ot_T n d m co ne ef be go aC aN aE aB aG) {post : Int32 → Prop} (h1 : ot_rb (fun c => ot_sc co (ot_ch c) m) (fun c => ot_gh n go (ot_F n m ne ef be (ot_ch c))) 1000000 (2 ^ m) = 1000000 → post (-3)) (h0 : ot_rb (fun c => ot_sc co (ot_ch c) m) (fun c => ot_gh n go (ot_F n m ne ef be (ot_ch c))) 1000000 (2 ^ m) ≠ 1000000 → post (nI (ot_rb (fun c => ot_sc co (ot_ch c) m) (fun c => ot_gh n go (ot_F n m ne ef be (ot_ch c))) 1000000 (2 ^ m)))) : wpY_relaxed post (nI n, nI d, nI m, rz, aC, aN, aE, aB, aG, yl, yf, ym, yb, yd, yr) := by
  have T0 := T
  obtain ⟨⟨⟨hn1, hn⟩, ⟨hd1, hd⟩, hm⟩, ⟨hC, hco⟩, ⟨hN, hne⟩, ⟨hE, hef⟩, ⟨hB, hbe⟩, ⟨hG, hgo⟩⟩ := T
  have pm : 2 ^ m ≤ 1024 := Nat.pow_le_pow_right (n := 2) (by decide) hm
  have s90 : ∀ c, ot_sc co (ot_ch c) m ≤ 90 := fun c => by have := ot_scle hco (ot_ch c) m; omega
  have rb := ot_rbeq (S := fun c => ot_sc co (ot_ch c) m) (G := fun c => ot_gh n go (ot_F n m ne ef be (ot_ch c))) (I := 1000000) (J := 1000000) s90 (by omega) (by omega)
  refine loop_0 (σ := Unit) (fun fu c _ => wY_relaxed_5 post (nI n) (nI d) (nI m) rz aC aN aE aB aG yl yf ym yb yd yr fu (nI (ot_rb (fun c => ot_sc co (ot_ch c) m) (fun c => ot_gh n go (ot_F n m ne ef be (ot_ch c))) 1000000 c)) (nI c)) (fun _ _ => True) (2 ^ m) () trivial ?_ ?_
  · intro fu _ _
    refine br_t (by rw [ot_p2 m (by omega)]; exact nI_le (Nat.le_refl _) (by omega)) ?_
    rcases rb (2 ^ m) with ⟨e, _⟩ | ⟨_, e⟩
    · exact br_f (by rw [e]; decide) (h1 e)
    · exact br_t (by have := nI_lt (b := 1000000) (Nat.lt_of_le_of_lt e (by omega)) (by omega); exact this) (h0 (by omega))
  · intro fu c _ hc _ ih
    have ih := ih () trivial
    have sc := s90 c
    have q9 : ot_rb (fun c => ot_sc co (ot_ch c) m) (fun c => ot_gh n go (ot_F n m ne ef be (ot_ch c))) 1000000 c ≤ 1000000 := by
      rcases rb c with ⟨e, _⟩ | ⟨_, e⟩ <;> omega
    refine br_f (by rw [ot_p2 m (by omega)]; exact nI_ge hc (by omega)) ?_
    refine loop_0 (σ := Unit) (fun fu' o _ => wY_relaxed_20 post (wY_relaxed_5 post (nI n) (nI d) (nI m) rz aC aN aE aB aG yl yf ym yb yd yr fu) (nI (ot_rb (fun c => ot_sc co (ot_ch c) m) (fun c => ot_gh n go (ot_F n m ne ef be (ot_ch c))) 1000000 c)) (nI c) (nI n) (nI d) (nI m) rz aC aN aE aB aG yl yf ym yb yd yr fu' (nI (ot_sc co (ot_ch c) o)) (nI o)) (fun _ _ => True) m () trivial ?_ ?_
    · intro fu' _ _
      refine br_t (nI_le (Nat.le_refl _) (by omega)) ?_
      rcases Nat.lt_or_ge (ot_sc co (ot_ch c) m) (ot_rb (fun c => ot_sc co (ot_ch c) m) (fun c => ot_gh n go (ot_F n m ne ef be (ot_ch c))) 1000000 c) with z | z
      · refine br_f (nI_ge z (by omega)) (oy_comes T0 (fun g => br_f ot_01' (nm_r (nI_1 c) ?_)) (fun g => br_t rfl (nm_r (nI_1 c) ?_)))
        · rw [ot_rbt ⟨z, g⟩] at ih
          exact ih
        · rw [ot_rbf (fun y => g y.2)] at ih
          exact ih
      · refine br_t (nI_le z (by omega)) (nm_r (nI_1 c) ?_)
        rw [ot_rbf (fun y => by have := y.1; omega)] at ih
        exact ih
    · intro fu' o _ ho _ ih'
      have ih' : wY_relaxed_20 post (wY_relaxed_5 post (nI n) (nI d) (nI m) rz aC aN aE aB aG yl yf ym yb yd yr fu) (nI (ot_rb (fun c => ot_sc co (ot_ch c) m) (fun c => ot_gh n go (ot_F n m ne ef be (ot_ch c))) 1000000 c)) (nI c) (nI n) (nI d) (nI m) rz aC aN aE aB aG yl yf ym yb yd yr fu' (nI (ot_sc co (ot_ch c) o + b01 (ot_ch c o) * co o)) (nI (o + 1)) := ih' () trivial
      refine br_f (nI_ge ho (by omega)) ?_
      rcases Classical.em (ot_ch c o) with z | z
      · rw [b01_t z, Nat.one_mul] at ih'
        exact br_t z ⟨vp_in_nI (by omega) (by omega), nm_r (e' := nI (ot_sc co (ot_ch c) o + co o)) (by rw [nI_clamp (by omega), hC o (by omega), nI_add]) (nm_r (nI_1 o) ih')⟩
      · rw [b01_f z, Nat.zero_mul] at ih'
        exact br_f z (nm_r (nI_1 o) ih')
end
theorem i_vc_relaxed {k : Nat} {u : SX} {v : SY} (I : i_Rel k u v) (hk : k + 5 ≤ 2562) : wpX_relaxed (fun r u' => wpY_relaxed (fun r' => r' = r ∧ i_Rel (k + 5) u' v) v) u := by
  obtain ⟨n, d, m, co, ne, ef, be, go, aC, aN, aE, aB, aG, mt, lc, rz, od, sn, mv, rm, bd, ls, ah, yl, yf, ym, yb, yd, yr, rfl, rfl, T⟩ := I
  have s90 : ∀ c, ot_sc co (ot_ch c) m ≤ 90 := fun c => by have := ot_scle T.2.1.2 (ot_ch c) m; have := T.1.2.2; omega
  have rb := ot_rbeq (S := fun c => ot_sc co (ot_ch c) m) (G := fun c => ot_gh n go (ot_F n m ne ef be (ot_ch c))) (I := 1000000000) (J := 1000000) s90 (by omega) (by omega) (2 ^ m)
  refine ox_relaxed T (fun e ah => oy_relaxed T (fun e' => ⟨rfl, i_mk T⟩) (fun e' => ?_)) (fun e ah => oy_relaxed T (fun e' => ?_) (fun e' => ⟨?_, i_mk T⟩))
  · rcases rb with ⟨_, q⟩ | ⟨_, q⟩
    · exact absurd q e'
    · omega
  · rcases rb with ⟨q, _⟩ | ⟨q, q2⟩
    · exact absurd q e
    · omega
  · rcases rb with ⟨q, _⟩ | ⟨q, q2⟩
    · exact absurd q e
    · rw [q]
end
section
/-! bounds: lists of facts, the greatest of a list, the component's tests of an operator -/
def ot_BD (I : Nat) (b : Nat → Nat) (bd : Nat → Int32) : Prop := (∀ p, b p ≤ I) ∧ ∀ p, p < 400 → bd p = nI (b p)
def ot_LS (S : Nat → Prop) (k : Nat) (ls : Nat → Int32) (lf : Nat → Nat) : Prop := (∀ i, i < k → ls i = nI (lf i) ∧ lf i < 20) ∧ ∀ q, S q ↔ ∃ i, i < k ∧ lf i = q
theorem ot_LS0 {ls : Nat → Int32} : ot_LS (fun _ => False) 0 ls (fun _ => 0) := ⟨fun i hi => by omega, fun q => ⟨fun z => z.elim, fun ⟨i, hi, _⟩ => by omega⟩⟩
theorem ot_LSup {S S' : Nat → Prop} {k f : Nat} {ls : Nat → Int32} {lf : Nat → Nat} (h : ot_LS S k ls lf) (hf : f < 20) (e : ∀ q, S' q ↔ S q ∨ q = f) : ot_LS S' (k + 1) (upd ls k (nI f)) (ot_up lf k f) := by
  refine ⟨fun i hi => ?_, fun q => ?_⟩
  · rcases Classical.em (i = k) with z | z
    · rw [z, pk_us, ot_us]; exact ⟨rfl, hf⟩
    · rw [pk_un z, ot_un z]; exact h.1 i (by omega)
  · rw [e, h.2]
    constructor
    · intro z
      rcases z with ⟨i, hi, y⟩ | y
      · exact ⟨i, by omega, by rw [ot_un (by omega)]; exact y⟩
      · exact ⟨k, by omega, by rw [ot_us]; exact y.symm⟩
    · intro ⟨i, hi, y⟩
      rcases Classical.em (i = k) with z | z
      · rw [z, ot_us] at y; exact Or.inr y.symm
      · rw [ot_un z] at y; exact Or.inl ⟨i, by omega, y⟩
theorem ot_LSc {S S' : Nat → Prop} {k : Nat} {ls : Nat → Int32} {lf : Nat → Nat} (h : ot_LS S k ls lf) (e : ∀ q, S' q ↔ S q) : ot_LS S' k ls lf := ⟨h.1, fun q => (e q).trans (h.2 q)⟩
/-- facts of a row of a table: values x + 1 at places t + u, u below v -/
def ot_fs (tb : Nat → Nat) (t v q : Nat) : Prop := ∃ u, u < v ∧ tb (t + u) ≠ 0 ∧ q = 4 * u + (tb (t + u) - 1)
theorem ot_fs0 (tb : Nat → Nat) (t v : Nat) (h : tb (t + v) = 0) (q : Nat) : ot_fs tb t (v + 1) q ↔ ot_fs tb t v q := by
  constructor
  · intro ⟨u, hu, w, e⟩
    rcases Classical.em (u = v) with g | g
    · subst g; exact absurd h w
    · exact ⟨u, by omega, w, e⟩
  · intro ⟨u, hu, w, e⟩
    exact ⟨u, by omega, w, e⟩
theorem ot_fs1 (tb : Nat → Nat) (t v : Nat) (h : tb (t + v) ≠ 0) (q : Nat) : ot_fs tb t (v + 1) q ↔ ot_fs tb t v q ∨ q = 4 * v + (tb (t + v) - 1) := by
  constructor
  · intro ⟨u, hu, w, e⟩
    rcases Classical.em (u = v) with g | g
    · subst g; exact Or.inr e
    · exact Or.inl ⟨u, by omega, w, e⟩
  · intro z
    rcases z with ⟨u, hu, w, e⟩ | e
    · exact ⟨u, by omega, w, e⟩
    · exact ⟨v, by omega, h, e⟩
def ot_Mx (pr : Prop) (k : Nat) (lf b : Nat → Nat) (M : Nat) : Prop := M = 0 ∨ ∃ i j, i ≤ j ∧ j < k ∧ (pr ∨ i = j) ∧ b (20 * lf i + lf j) = M
def ot_GM (pr : Prop) (k : Nat) (lf b : Nat → Nat) (M : Nat) : Prop := (∀ i j, i ≤ j → j < k → (pr ∨ i = j) → b (20 * lf i + lf j) ≤ M) ∧ ot_Mx pr k lf b M
def ot_md (x : Int32) (pr : Prop) : Prop := (x = 1 ∧ ¬ pr) ∨ (¬ x = 1 ∧ pr)
section
variable {n d m : Nat} {co ne ef be go : Nat → Nat} {aC aN aE aB aG od sn mv rm bd ls ah : Nat → Int32} {mt lc : Int32} {pr : Prop}
theorem ox_listN (T : ot_T n d m co ne ef be go aC aN aE aB aG) {o : Nat} (ho : o < 10) {x2 : Int32} (e2 : x2 = nI (5 * o)) {post : SX → Prop} (hP : ∀ k ls lf, k ≤ n → ot_LS (ot_fs ne (5 * o) n) k ls lf → post (nI n, nI d, nI m, mt, nI k, aC, aN, aE, aB, aG, od, sn, mv, rm, bd, ls, ah)) : wpX_listFacts__needs post (nI n, nI d, nI m, mt, 0, aC, aN, aE, aB, aG, od, sn, mv, rm, bd, ls, ah) x2 := by
  subst e2
  obtain ⟨⟨⟨hn1, hn⟩, ⟨hd1, hd⟩, hm⟩, ⟨hC, hco⟩, ⟨hN, hne⟩, ⟨hE, hef⟩, ⟨hB, hbe⟩, ⟨hG, hgo⟩⟩ := T
  have key : ∀ fu v k ls lf, v ≤ n → n - v < fu → k ≤ v → ot_LS (ot_fs ne (5 * o) v) k ls lf → wX_listFacts__needs_2 post (nI (5 * o)) (nI n) (nI d) (nI m) mt fu (nI v) (nI k) aC aN aE aB aG od sn mv rm bd ls ah := by
    intro fu
    induction fu with
    | zero => intro v k ls lf _ h; omega
    | succ fu ih =>
    intro v k ls lf hv hfu hk H
    rcases Nat.lt_or_ge v n with z | z
    · have b := hne (5 * o + v)
      refine br_f (nI_ge z (by omega)) ⟨by rw [nI_add]; exact vp_in_nI (by omega) (by omega), nm_r (e' := ot_rv (ne (5 * o + v))) (by rw [nI_add, nI_clamp (by omega), hN _ (by omega)]) ?_⟩
      rcases Classical.em (ne (5 * o + v) = 0) with y | y
      · exact br_t ((ot_rvm _ (by omega)).mpr y) (nm_r (nI_1 v) (ih (v + 1) k ls lf (by omega) (by omega) (by omega) (ot_LSc H (ot_fs0 ne (5 * o) v y))))
      · refine br_f (fun q => y ((ot_rvm _ (by omega)).mp q)) ⟨vp_in_nI (by omega) (by omega), ?_⟩
        have e4 : nI v * 4 + nI (ne (5 * o + v) - 1) = nI (4 * v + (ne (5 * o + v) - 1)) := by rw [show nI v * 4 = nI (v * 4) from pk_mul v 4, nI_add, Nat.mul_comm]
        rw [ot_rvp y, e4]
        exact nm_r (e' := upd ls k (nI (4 * v + (ne (5 * o + v) - 1)))) (by rw [nI_clamp (by omega)]) (nm_r (nI_1 k) (nm_r (nI_1 v) (ih (v + 1) (k + 1) _ _ (by omega) (by omega) (by omega) (ot_LSup H (by omega) (ot_fs1 ne (5 * o) v y)))))
    · have e : v = n := by omega
      subst e
      exact br_t (nI_le (Nat.le_refl _) (by omega)) (hP k ls lf hk H)
  exact ⟨n + 1, key (n + 1) 0 0 ls _ (Nat.zero_le _) (by omega) (Nat.le_refl _) (ot_LSc ot_LS0 (fun q => ⟨fun ⟨u, hu, _⟩ => by omega, fun z => z.elim⟩))⟩
theorem ox_listG (T : ot_T n d m co ne ef be go aC aN aE aB aG) {post : SX → Prop} (hP : ∀ k ls lf, k ≤ n → ot_LS (ot_fs go 0 n) k ls lf → post (nI n, nI d, nI m, mt, nI k, aC, aN, aE, aB, aG, od, sn, mv, rm, bd, ls, ah)) : wpX_listFacts__goals post (nI n, nI d, nI m, mt, 0, aC, aN, aE, aB, aG, od, sn, mv, rm, bd, ls, ah) 0 := by
  obtain ⟨⟨⟨hn1, hn⟩, ⟨hd1, hd⟩, hm⟩, ⟨hC, hco⟩, ⟨hN, hne⟩, ⟨hE, hef⟩, ⟨hB, hbe⟩, ⟨hG, hgo⟩⟩ := T
  have key : ∀ fu v k ls lf, v ≤ n → n - v < fu → k ≤ v → ot_LS (ot_fs go 0 v) k ls lf → wX_listFacts__goals_2 post 0 (nI n) (nI d) (nI m) mt fu (nI v) (nI k) aC aN aE aB aG od sn mv rm bd ls ah := by
    intro fu
    induction fu with
    | zero => intro v k ls lf _ h; omega
    | succ fu ih =>
    intro v k ls lf hv hfu hk H
    rcases Nat.lt_or_ge v n with z | z
    · have b := hgo v
      have e0 : (0 : Int32) + nI v = nI v := Int32.zero_add _
      have z0 : 0 + v = v := Nat.zero_add v
      refine br_f (nI_ge z (by omega)) ⟨by rw [e0]; exact vp_in_nI (by omega) (by omega), nm_r (e' := ot_rv (go v)) (by rw [e0, nI_clamp (by omega), hG _ (by omega)]) ?_⟩
      rcases Classical.em (go v = 0) with y | y
      · exact br_t ((ot_rvm _ (by omega)).mpr y) (nm_r (nI_1 v) (ih (v + 1) k ls lf (by omega) (by omega) (by omega) (ot_LSc H (ot_fs0 go 0 v (by rw [z0]; exact y)))))
      · refine br_f (fun q => y ((ot_rvm _ (by omega)).mp q)) ⟨vp_in_nI (by omega) (by omega), ?_⟩
        have e4 : nI v * 4 + nI (go v - 1) = nI (4 * v + (go v - 1)) := by rw [show nI v * 4 = nI (v * 4) from pk_mul v 4, nI_add, Nat.mul_comm]
        have f1 := ot_fs1 go 0 v (by rw [z0]; exact y)
        rw [z0] at f1
        rw [ot_rvp y, e4]
        exact nm_r (e' := upd ls k (nI (4 * v + (go v - 1)))) (by rw [nI_clamp (by omega)]) (nm_r (nI_1 k) (nm_r (nI_1 v) (ih (v + 1) (k + 1) _ _ (by omega) (by omega) (by omega) (ot_LSup H (by omega) f1))))
    · have e : v = n := by omega
      subst e
      exact br_t (nI_le (Nat.le_refl _) (by omega)) (hP k ls lf hk H)
  exact ⟨n + 1, key (n + 1) 0 0 ls _ (Nat.zero_le _) (by omega) (Nat.le_refl _) (ot_LSc ot_LS0 (fun q => ⟨fun ⟨u, hu, _⟩ => by omega, fun z => z.elim⟩))⟩
theorem ox_hasE (T : ot_T n d m co ne ef be go aC aN aE aB aG) {o f : Nat} (ho : o < 10) (hf : f < 20) {post : Int32 → Prop} (h1 : ef (5 * o + f / 4) = f % 4 + 1 → post 1) (h0 : ef (5 * o + f / 4) ≠ f % 4 + 1 → post 0) : wpX_hasEffect post (nI n, nI d, nI m, mt, lc, aC, aN, aE, aB, aG, od, sn, mv, rm, bd, ls, ah) (nI o) (nI f) := by
  obtain ⟨⟨⟨hn1, hn⟩, ⟨hd1, hd⟩, hm⟩, ⟨hC, hco⟩, ⟨hN, hne⟩, ⟨hE, hef⟩, ⟨hB, hbe⟩, ⟨hG, hgo⟩⟩ := T
  have b := hef (5 * o + f / 4)
  have e4 : nI f / 4 = nI (f / 4) := pk_div (d := 4) (by omega) (by omega) (by omega)
  have er : nI f - nI f / 4 * 4 = nI (f % 4) := pk_rem (d := 4) (by omega) (by omega) (by omega)
  have e5 : nI o * 5 + nI (f / 4) = nI (5 * o + f / 4) := by rw [show nI o * 5 = nI (o * 5) from pk_mul o 5, nI_add, Nat.mul_comm]
  have ex : aE (nI o * 5 + nI f / 4).toNatClampNeg = ot_rv (ef (5 * o + f / 4)) := by rw [e4, e5, nI_clamp (by omega), hE _ (by omega)]
  refine ⟨by decide, by rw [e4, e5]; exact vp_in_nI (by omega) (by omega), by decide, ?_⟩
  rw [ex, er]
  rcases Classical.em (ef (5 * o + f / 4) = f % 4 + 1) with z | z
  · exact br_t ((ot_rve _ (by omega) _ (by omega)).mpr z) (h1 z)
  · exact br_f (fun y => z ((ot_rve _ (by omega) _ (by omega)).mp y)) (h0 z)
theorem ox_takes (T : ot_T n d m co ne ef be go aC aN aE aB aG) {o f : Nat} (ho : o < 10) (hf : f < 20) {post : Int32 → Prop} (h0 : (ef (5 * o + f / 4) = 0 ∨ ef (5 * o + f / 4) = f % 4 + 1) → post 0) (h1 : ¬ (ef (5 * o + f / 4) = 0 ∨ ef (5 * o + f / 4) = f % 4 + 1) → post 1) : wpX_takesBack post (nI n, nI d, nI m, mt, lc, aC, aN, aE, aB, aG, od, sn, mv, rm, bd, ls, ah) (nI o) (nI f) := by
  obtain ⟨⟨⟨hn1, hn⟩, ⟨hd1, hd⟩, hm⟩, ⟨hC, hco⟩, ⟨hN, hne⟩, ⟨hE, hef⟩, ⟨hB, hbe⟩, ⟨hG, hgo⟩⟩ := T
  have b := hef (5 * o + f / 4)
  have e4 : nI f / 4 = nI (f / 4) := pk_div (d := 4) (by omega) (by omega) (by omega)
  have er : nI f - nI f / 4 * 4 = nI (f % 4) := pk_rem (d := 4) (by omega) (by omega) (by omega)
  have e5 : nI o * 5 + nI (f / 4) = nI (5 * o + f / 4) := by rw [show nI o * 5 = nI (o * 5) from pk_mul o 5, nI_add, Nat.mul_comm]
  refine ⟨by decide, by rw [e4, e5]; exact vp_in_nI (by omega) (by omega), nm_r (e' := ot_rv (ef (5 * o + f / 4))) (by rw [e4, e5, nI_clamp (by omega), hE _ (by omega)]) ?_⟩
  rcases Classical.em (ef (5 * o + f / 4) = 0) with y | y
  · exact br_t ((ot_rvm _ (by omega)).mpr y) (h0 (Or.inl y))
  · refine br_f (fun q => y ((ot_rvm _ (by omega)).mp q)) ⟨by decide, ?_⟩
    rw [er]
    rcases Classical.em (ef (5 * o + f / 4) = f % 4 + 1) with z | z
    · exact br_t ((ot_rve _ (by omega) _ (by omega)).mpr z) (h0 (Or.inr z))
    · exact br_f (fun q => z ((ot_rve _ (by omega) _ (by omega)).mp q)) (h1 (fun q => q.elim y z))
theorem ox_brings (T : ot_T n d m co ne ef be go aC aN aE aB aG) {o f g : Nat} (ho : o < 10) (hf : f < 20) (hg : g < 20) {post : Int32 → Prop} (h1 : ot_bg ef o f g → post 1) (h0 : ¬ ot_bg ef o f g → post 0) : wpX_bringsAbout post (nI n, nI d, nI m, mt, lc, aC, aN, aE, aB, aG, od, sn, mv, rm, bd, ls, ah) (nI o) (nI f) (nI g) := by
  unfold wpX_bringsAbout
  refine ox_takes T ho hf (fun a => br_t rfl (ox_takes T ho hg (fun b => br_t rfl (ox_hasE T ho hf (fun c => br_f ot_01' (h1 ⟨a, b, Or.inl c⟩)) (fun c => br_t rfl (ox_hasE T ho hg (fun e => br_f ot_01' (h1 ⟨a, b, Or.inr e⟩)) (fun e => br_t rfl (h0 (fun q => q.2.2.elim c e))))))) (fun b => br_f ot_01' (h0 (fun q => b q.2.1))))) (fun a => br_f ot_01' (h0 (fun q => a q.1)))
theorem ox_rest (T : ot_T n d m co ne ef be go aC aN aE aB aG) {o f g : Nat} (ho : o < 10) (hf : f < 20) (hg : g < 20) (hb : ot_bg ef o f g) {post : SX → Prop} (hP : ∀ k ls lf, k ≤ 6 → ot_LS (ot_rs n ne ef o f g) k ls lf → post (nI n, nI d, nI m, mt, nI k, aC, aN, aE, aB, aG, od, sn, mv, rm, bd, ls, ah)) : wpX_listRest post (nI n, nI d, nI m, mt, lc, aC, aN, aE, aB, aG, od, sn, mv, rm, bd, ls, ah) (nI o) (nI f) (nI g) := by
  have n5 := T.1.1.2
  refine ox_listN T (o := o) ho (by rw [show nI o * 5 = nI (o * 5) from pk_mul o 5, Nat.mul_comm]) (fun k ls lf hk H => ?_)
  refine ox_hasE T ho hf (fun c => br_f ot_01' ?_) (fun c => br_t rfl ?_)
  · refine ox_hasE T ho hg (fun e => br_f ot_01' (hP k ls lf (by omega) (ot_LSc H (fun q => ?_)))) (fun e => br_t rfl ⟨vp_in_nI (by omega) (by omega), nm_r (e' := upd ls k (nI g)) (by rw [nI_clamp (by omega)]) (nm_r (nI_1 k) (hP (k + 1) _ _ (by omega) (ot_LSup H hg (fun q => ?_))))⟩)
    · exact ⟨fun z => z.elim id (fun z => z.elim (fun y => by have := y.2; omega) (fun y => by have := y.2; omega)), Or.inl⟩
    · have g0 : ef (5 * o + g / 4) = 0 := hb.2.1.elim id (fun z => absurd z e)
      exact ⟨fun z => z.elim Or.inl (fun z => z.elim (fun y => by have := y.2; omega) (fun y => Or.inr y.1)), fun z => z.elim Or.inl (fun y => Or.inr (Or.inr ⟨y, g0⟩))⟩
  · have f0 : ef (5 * o + f / 4) = 0 := hb.1.elim id (fun z => absurd z c)
    have g1 : ef (5 * o + g / 4) = g % 4 + 1 := hb.2.2.elim (fun z => absurd z c) id
    refine ox_hasE T ho hf (fun e => absurd e c) (fun e => br_t rfl ⟨vp_in_nI (by omega) (by omega), nm_r (e' := upd ls k (nI f)) (by rw [nI_clamp (by omega)]) (nm_r (nI_1 k) (hP (k + 1) _ _ (by omega) (ot_LSup H hf (fun q => ?_))))⟩)
    exact ⟨fun z => z.elim Or.inl (fun z => z.elim (fun y => Or.inr y.1) (fun y => by have := y.2; omega)), fun z => z.elim Or.inl (fun y => Or.inr (Or.inl ⟨y, f0⟩))⟩
theorem ox_gb32 {S : Nat → Prop} {k i L : Nat} {lf b : Nat → Nat} (H : ot_LS S k ls lf) (hk : k ≤ 6) (hB : ot_BD 1000000000 b bd) {x1 : Int32} {post : Int32 → Prop} {J : Int32 → Int32 → Prop} (hiL : i ≤ L) (hL : L < k) (hpr : pr ∨ L = i) (hfull : pr → L + 1 = k)
    (hJ : ∀ M, M ≤ 1000000000 → (∀ i' j, i' ≤ j → j < k → (pr ∨ i' = j) → i' < i + 1 → b (20 * lf i' + lf j) ≤ M) → ot_Mx pr k lf b M → J (nI M) (nI (i + 1))) :
    ∀ fu j M, i ≤ j → j ≤ L + 1 → L + 1 - j < fu → M ≤ 1000000000 → (∀ i' j', i' ≤ j' → j' < k → (pr ∨ i' = j') → (i' < i ∨ (i' = i ∧ j' < j)) → b (20 * lf i' + lf j') ≤ M) → ot_Mx pr k lf b M → wX_greatestBound_32 post J x1 (nI i) (nI L) (nI n) (nI d) (nI m) mt (nI k) aC aN aE aB aG od sn mv rm bd ls ah fu (nI M) (nI j) := by
  intro fu
  induction fu with
  | zero => intro j M _ _ h; omega
  | succ fu ih =>
  intro j M hij hjL hfu hM h1 h2
  rcases Nat.lt_or_ge L j with z | z
  · refine br_t (nI_lt z (by omega)) (nm_r (nI_1 i) (hJ M hM (fun i' j' a c e g => h1 i' j' a c e ?_) h2))
    rcases Nat.lt_or_ge i' i with y | y
    · exact Or.inl y
    · refine Or.inr ⟨by omega, ?_⟩
      rcases e with e | e
      · have := hfull e; omega
      · rcases hpr with q | q
        · have := hfull q; omega
        · omega
  · have hi := H.1 i (by omega)
    have hj := H.1 j (by omega)
    have e20 : nI (lf i) * 20 + nI (lf j) = nI (20 * lf i + lf j) := by rw [show nI (lf i) * 20 = nI (lf i * 20) from pk_mul (lf i) 20, nI_add, Nat.mul_comm]
    have l := hB.1 (20 * lf i + lf j)
    have pj : pr ∨ i = j := hpr.imp id (fun q => by omega)
    refine br_f (nI_nlt z (by omega)) ⟨vp_in_nI (by omega) (by omega), vp_in_nI (by omega) (by omega), ?_⟩
    rw [nI_clamp (n := i) (by omega), nI_clamp (n := j) (by omega), hi.1, hj.1, e20]
    refine ⟨vp_in_nI (by omega) (by omega), nm_r (e' := nI (b (20 * lf i + lf j))) (by rw [nI_clamp (by omega)]; exact hB.2 _ (by omega)) ?_⟩
    rcases Nat.lt_or_ge M (b (20 * lf i + lf j)) with y | y
    · refine br_f (nI_ge y (by omega)) (nm_r (nI_1 j) (ih (j + 1) _ (by omega) (by omega) (by omega) l (fun i' j' a c e g => ?_) (Or.inr ⟨i, j, hij, by omega, pj, rfl⟩)))
      rcases Classical.em (i' = i ∧ j' = j) with w | w
      · rw [w.1, w.2]; exact Nat.le_refl _
      · have := h1 i' j' a c e (by omega); omega
    · refine br_t (nI_le y (by omega)) (nm_r (nI_1 j) (ih (j + 1) M (by omega) (by omega) (by omega) hM (fun i' j' a c e g => ?_) h2))
      rcases Classical.em (i' = i ∧ j' = j) with w | w
      · rw [w.1, w.2]; exact y
      · exact h1 i' j' a c e (by omega)
theorem ox_greatest {S : Nat → Prop} {k : Nat} {lf b : Nat → Nat} (H : ot_LS S k ls lf) (hk : k ≤ 6) (hB : ot_BD 1000000000 b bd) {x1 : Int32} (hx : ot_md x1 pr) {post : Int32 → Prop} (hP : ∀ M, M ≤ 1000000000 → ot_GM pr k lf b M → post (nI M)) : wpX_greatestBound post (nI n, nI d, nI m, mt, nI k, aC, aN, aE, aB, aG, od, sn, mv, rm, bd, ls, ah) x1 := by
  have key : ∀ fu i M, i ≤ k → k - i < fu → M ≤ 1000000000 → (∀ i' j, i' ≤ j → j < k → (pr ∨ i' = j) → i' < i → b (20 * lf i' + lf j) ≤ M) → ot_Mx pr k lf b M → wX_greatestBound_4 post x1 (nI n) (nI d) (nI m) mt (nI k) aC aN aE aB aG od sn mv rm bd ls ah fu (nI M) (nI i) := by
    intro fu
    induction fu with
    | zero => intro i M _ h; omega
    | succ fu ih =>
    intro i M hi hfu hM h1 h2
    rcases Nat.lt_or_ge i k with z | z
    · refine br_f (nI_ge z (by omega)) ?_
      rcases hx with ⟨x, p⟩ | ⟨x, p⟩
      · exact br_t x ⟨2, ox_gb32 (pr := pr) (L := i) H hk hB (Nat.le_refl _) z (Or.inr rfl) (fun q => absurd q p) (fun M' a b' c => ih (i + 1) M' (by omega) (by omega) a b' c) 2 i M (Nat.le_refl _) (by omega) (by omega) hM (fun i' j' a c e g => h1 i' j' a c e (by omega)) h2⟩
      · refine br_f x (nm_r (e' := nI (k - 1)) ?_ ⟨k + 1, ox_gb32 (pr := pr) (L := k - 1) H hk hB (by omega) (by omega) (Or.inl p) (fun _ => by omega) (fun M' a b' c => ih (i + 1) M' (by omega) (by omega) a b' c) (k + 1) i M (Nat.le_refl _) (by omega) (by omega) hM (fun i' j' a c e g => h1 i' j' a c e (by omega)) h2⟩)
        exact ot_rvp (x := k) (by omega)
    · exact br_t (nI_le z (by omega)) (hP M hM ⟨fun i' j a c e => h1 i' j a c e (by omega), h2⟩)
  exact ⟨k + 1, key (k + 1) 0 0 (Nat.zero_le _) (by omega) (Nat.zero_le _) (fun i' j a c e g => by omega) (Or.inl rfl)⟩
end
end
section
/-! bounds: a round of the component -/
def ot_Hc (n m : Nat) (ne ef co : Nat → Nat) (pr : Prop) (Dn : Nat → Nat → Nat → Prop) (b0 b : Nat → Nat) : Prop := ∀ o f g, o < m → f < 4 * n → g < 4 * n → (pr ∨ f = g) → (f = g ∨ f / 4 ≠ g / 4) → ot_bg ef o f g → Dn o f g → ∀ k, (∀ a c, ot_rs n ne ef o f g a → ot_rs n ne ef o f g c → (pr ∨ a = c) → b0 (20 * a + c) ≤ k) → b (20 * f + g) ≤ k + co o
def ot_Sy (b : Nat → Nat) : Prop := ∀ f g, f < 20 → g < 20 → b (20 * f + g) = b (20 * g + f)
def ot_Bx (n m : Nat) (ne ef co be : Nat → Nat) (pr : Prop) (Dn : Nat → Nat → Nat → Prop) (b0 b : Nat → Nat) : Prop := ot_J (ot_Z n be pr) (ot_H n m ne ef co pr) (ot_dm pr) 1000000000 b ∧ (∀ p, b p ≤ b0 p) ∧ (∀ p, b0 p ≤ 1000000000) ∧ ot_Sy b ∧ (∀ p, ot_Z n be True p → b p = 0) ∧ ot_Hc n m ne ef co pr Dn b0 b
theorem ot_prs {pr : Prop} {a c : Nat} (h : pr ∨ a = c) : pr ∨ c = a := h.imp id Eq.symm
section
variable {n d m : Nat} {co ne ef be go : Nat → Nat} {aC aN aE aB aG od sn mv rm bd ls ah : Nat → Int32} {mt lc : Int32} {pr : Prop} {Dn : Nat → Nat → Nat → Prop} {b0 b : Nat → Nat}
theorem ot_GMle {o f g k M : Nat} {lf : Nat → Nat} (H : ot_LS (ot_rs n ne ef o f g) k ls lf) (G : ot_GM pr k lf b M) (hle : ∀ p, b p ≤ b0 p) {q : Nat} (h : ∀ a c, ot_rs n ne ef o f g a → ot_rs n ne ef o f g c → (pr ∨ a = c) → b0 (20 * a + c) ≤ q) : M ≤ q := by
  rcases G.2 with z | ⟨i, j, h1, h2, h3, h4⟩
  · omega
  · have a := h (lf i) (lf j) ((H.2 _).mpr ⟨i, by omega, rfl⟩) ((H.2 _).mpr ⟨j, h2, rfl⟩) (h3.imp id (fun e => by rw [e]))
    have c := hle (20 * lf i + lf j)
    omega
theorem ot_GMD (hn : n ≤ 5) (hd : d ≤ 4) (hne : ∀ j, ne j ≤ d) (hbe : ∀ j, be j < d) {I o f g k M : Nat} {lf : Nat → Nat} (H : ot_LS (ot_rs n ne ef o f g) k ls lf) (G : ot_GM pr k lf b M) (hM : M < I) (hJ : ∀ p, ot_dm pr p → b p < I → ot_D (ot_Z n be pr) (ot_H n m ne ef co pr) p (b p)) {a c : Nat} (ha : ot_rs n ne ef o f g a) (hc : ot_rs n ne ef o f g c) (hp : pr ∨ a = c) : ot_D (ot_Z n be pr) (ot_H n m ne ef co pr) (20 * a + c) M := by
  obtain ⟨i, hi, rfl⟩ := (H.2 _).mp ha
  obtain ⟨j, hj, rfl⟩ := (H.2 _).mp hc
  have li := (H.1 i hi).2
  have lj := (H.1 j hj).2
  have one : ∀ i j, i ≤ j → j < k → (pr ∨ i = j) → lf i < 20 → lf j < 20 → ot_D (ot_Z n be pr) (ot_H n m ne ef co pr) (20 * lf i + lf j) M := fun i j h1 h2 h3 l1 l2 => by
    have q := G.1 i j h1 h2 h3
    exact ot_Dm (hJ _ ⟨lf i, lf j, l1, l2, h3.imp id (fun e => by rw [e]), rfl⟩ (by omega)) q
  rcases hp with p | p
  · rcases Nat.lt_or_ge j i with z | z
    · exact ot_Dsym hn hd hne (fun v _ => hbe v) lj li (one j i (by omega) hi (Or.inl p) lj li)
    · exact one i j z hj (Or.inl p) li lj
  · rw [← p]
    exact one i i (Nat.le_refl _) hi (Or.inr rfl) li li
theorem ot_HcD {Dn' : Nat → Nat → Nat → Prop} (h : ot_Hc n m ne ef co pr Dn b0 b) (hD : ∀ o f g, f < 4 * n → g < 4 * n → (pr ∨ f = g) → (f = g ∨ f / 4 ≠ g / 4) → Dn' o f g → Dn o f g) : ot_Hc n m ne ef co pr Dn' b0 b := fun o f g ho hf hg hp hx hb hd k hk => h o f g ho hf hg hp hx hb (hD o f g hf hg hp hx hd) k hk
theorem ot_BxD {Dn' : Nat → Nat → Nat → Prop} (h : ot_Bx n m ne ef co be pr Dn b0 b) (hD : ∀ o f g, f < 4 * n → g < 4 * n → (pr ∨ f = g) → (f = g ∨ f / 4 ≠ g / 4) → Dn' o f g → Dn o f g) : ot_Bx n m ne ef co be pr Dn' b0 b := ⟨h.1, h.2.1, h.2.2.1, h.2.2.2.1, h.2.2.2.2.1, ot_HcD h.2.2.2.2.2 hD⟩
theorem ot_Bxge {o f g k M : Nat} {lf : Nat → Nat} (B : ot_Bx n m ne ef co be pr Dn b0 b) (H : ot_LS (ot_rs n ne ef o f g) k ls lf) (G : ot_GM pr k lf b M) (hl : b (20 * f + g) ≤ M + co o) : ot_Bx n m ne ef co be pr (fun o' f' g' => Dn o' f' g' ∨ (o' = o ∧ f' = f ∧ g' = g)) b0 b := by
  refine ⟨B.1, B.2.1, B.2.2.1, B.2.2.2.1, B.2.2.2.2.1, fun o' f' g' ho hf hg hp hx hb hd q hq => ?_⟩
  rcases hd with hd | ⟨e1, e2, e3⟩
  · exact B.2.2.2.2.2 o' f' g' ho hf hg hp hx hb hd q hq
  · subst e1 e2 e3
    have := ot_GMle H G B.2.1 hq
    omega
theorem ot_Bxle (T : ot_T n d m co ne ef be go aC aN aE aB aG) {o f g k M : Nat} {lf : Nat → Nat} (B : ot_Bx n m ne ef co be pr Dn b0 b) (ho : o < m) (hf : f < 4 * n) (hg : g < 4 * n) (hp : pr ∨ f = g) (hx : f = g ∨ f / 4 ≠ g / 4) (hb : ot_bg ef o f g) (H : ot_LS (ot_rs n ne ef o f g) k ls lf) (G : ot_GM pr k lf b M) (hl : M + co o < b (20 * f + g)) : ot_Bx n m ne ef co be pr (fun o' f' g' => Dn o' f' g' ∨ (o' = o ∧ f' = f ∧ g' = g)) b0 (ot_up (ot_up b (20 * f + g) (M + co o)) (20 * g + f) (M + co o)) := by
  obtain ⟨⟨⟨hn1, hn⟩, ⟨hd1, hd⟩, hm⟩, ⟨hC, hco⟩, ⟨hN, hne⟩, ⟨hE, hef⟩, ⟨hB, hbe⟩, ⟨hG, hgo⟩⟩ := T
  have sy := B.2.2.2.1 f g (by omega) (by omega)
  have bi := fun p => Nat.le_trans (B.2.1 p) (B.2.2.1 p)
  have b9 := bi (20 * f + g)
  have D1 : ot_D (ot_Z n be pr) (ot_H n m ne ef co pr) (20 * f + g) (M + co o) := ot_Dh (Q := fun q => ∃ a c, ot_rs n ne ef o f g a ∧ ot_rs n ne ef o f g c ∧ (pr ∨ a = c) ∧ q = 20 * a + c) ⟨o, f, g, ho, hf, hg, rfl, hp, hx, hb, rfl, rfl⟩ (fun q ⟨a, c, ha, hc, hac, e⟩ => by
    rw [e]
    exact ot_GMD hn hd hne hbe H G (by omega) (fun p hd' hp' => (B.1 p hd' hp').1) ha hc hac)
  have D2 := ot_Dsym (pr := pr) hn hd hne (fun v _ => hbe v) (by omega) (by omega) D1
  have zz : ∃ z, z < 400 ∧ b z = 0 := ⟨20 * (4 * 0 + be 0) + (4 * 0 + be 0), by have := hbe 0; omega, B.2.2.2.2.1 _ ⟨0, 0, by omega, by omega, Or.inl trivial, rfl⟩⟩
  obtain ⟨z, z4, z0⟩ := zz
  have hM : M = 0 ∨ ∃ q, q < 400 ∧ ot_dm pr q ∧ b q = M := by
    rcases G.2 with y | ⟨i, j, h1, h2, h3, h4⟩
    · exact Or.inl y
    · have li := (H.1 i (by omega)).2
      have lj := (H.1 j h2).2
      exact Or.inr ⟨20 * lf i + lf j, by omega, ⟨lf i, lf j, li, lj, h3.imp id (fun e => by rw [e]), rfl⟩, h4⟩
  have J1 := ot_Jup B.1 D1 (hco o) hl b9 hM ⟨z4, z0⟩
  have le1 := ot_ule (w := b) (s := 20 * f + g) (Nat.le_of_lt hl)
  have J2 : ot_J (ot_Z n be pr) (ot_H n m ne ef co pr) (ot_dm pr) 1000000000 (ot_up (ot_up b (20 * f + g) (M + co o)) (20 * g + f) (M + co o)) := by
    rcases Classical.em (f = g) with e | e
    · subst e
      have : ot_up (ot_up b (20 * f + f) (M + co o)) (20 * f + f) (M + co o) = ot_up b (20 * f + f) (M + co o) := by
        funext j
        rcases Classical.em (j = 20 * f + f) with q | q
        · rw [q, ot_us, ot_us]
        · rw [ot_un q]
      rw [this]; exact J1
    · have ne1 : 20 * g + f ≠ 20 * f + g := by omega
      refine ot_Jup J1 D2 (hco o) (by rw [ot_un ne1]; omega) (by rw [ot_un ne1]; omega) ?_ ⟨z4, by rw [ot_un (fun y => by rw [y] at z0; omega)]; exact z0⟩
      rcases hM with y | ⟨q, q1, q2, q3⟩
      · exact Or.inl y
      · exact Or.inr ⟨q, q1, q2, by rw [ot_un (fun y => by rw [y] at q3; omega)]; exact q3⟩
  have le2 : ∀ p, ot_up (ot_up b (20 * f + g) (M + co o)) (20 * g + f) (M + co o) p ≤ b p := fun p => by
    rcases Classical.em (p = 20 * g + f) with e | e
    · rw [e, ot_us]; omega
    · rw [ot_un e]; exact le1 p
  have at1 : ot_up (ot_up b (20 * f + g) (M + co o)) (20 * g + f) (M + co o) (20 * f + g) = M + co o := by
    rcases Classical.em (20 * f + g = 20 * g + f) with e | e
    · rw [e, ot_us]
    · rw [ot_un e, ot_us]
  refine ⟨J2, fun p => Nat.le_trans (le2 p) (B.2.1 p), B.2.2.1, fun f' g' hf' hg' => ?_, fun p hp' => by have := B.2.2.2.2.1 p hp'; have := le2 p; omega, fun o' f' g' ho' hf' hg' hp' hx' hb' hd' q hq => ?_⟩
  · rcases Classical.em ((f' = f ∧ g' = g) ∨ (f' = g ∧ g' = f)) with e | e
    · rcases e with ⟨e1, e2⟩ | ⟨e1, e2⟩
      · subst e1 e2; rw [at1, ot_us]
      · subst e1 e2; rw [at1, ot_us]
    · rw [ot_un (by omega), ot_un (by omega), ot_un (by omega), ot_un (by omega)]
      exact B.2.2.2.1 f' g' hf' hg'
  · rcases hd' with hd' | ⟨e1, e2, e3⟩
    · exact Nat.le_trans (le2 _) (B.2.2.2.2.2 o' f' g' ho' hf' hg' hp' hx' hb' hd' q hq)
    · subst e1 e2 e3
      have := ot_GMle H G B.2.1 hq
      rw [at1]
      omega
theorem ot_BDup {I x p : Nat} (h : ot_BD I b bd) (hx : x ≤ I) : ot_BD I (ot_up b p x) (upd bd p (nI x)) := by
  refine ⟨fun q => ?_, fun q hq => ?_⟩
  · rcases Classical.em (q = p) with e | e
    · rw [e, ot_us]; exact hx
    · rw [ot_un e]; exact h.1 q
  · rcases Classical.em (q = p) with e | e
    · rw [e, ot_us, pk_us]
    · rw [ot_un e, pk_un e]; exact h.2 q hq
theorem ox_lower (T : ot_T n d m co ne ef be go aC aN aE aB aG) {x3 : Int32} (hx3 : ot_md x3 pr) {f g : Nat} (hf : f < 4 * n) (hg : g < 4 * n) (hp : pr ∨ f = g) (hBb : ot_BD 1000000000 b bd) (B : ot_Bx n m ne ef co be pr Dn b0 b) {post : Int32 → SX → Prop} (hP : ∀ r lc ls bd b', (r = 0 → b' = b) → ot_BD 1000000000 b' bd → ot_Bx n m ne ef co be pr (fun o f' g' => Dn o f' g' ∨ (f' = f ∧ g' = g)) b0 b' → post r (nI n, nI d, nI m, mt, lc, aC, aN, aE, aB, aG, od, sn, mv, rm, bd, ls, ah)) : wpX_lowerBound post (nI n, nI d, nI m, mt, lc, aC, aN, aE, aB, aG, od, sn, mv, rm, bd, ls, ah) (nI f) (nI g) x3 := by
  have T0 := T
  obtain ⟨⟨⟨hn1, hn⟩, ⟨hd1, hd⟩, hm⟩, ⟨hC, hco⟩, ⟨hN, hne⟩, ⟨hE, hef⟩, ⟨hB, hbe⟩, ⟨hG, hgo⟩⟩ := T
  have e4f : nI f / 4 = nI (f / 4) := pk_div (d := 4) (by omega) (by omega) (by omega)
  have e4g : nI g / 4 = nI (g / 4) := pk_div (d := 4) (by omega) (by omega) (by omega)
  have efg : nI f * 20 + nI g = nI (20 * f + g) := by rw [show nI f * 20 = nI (f * 20) from pk_mul f 20, nI_add, Nat.mul_comm]
  have egf : nI g * 20 + nI f = nI (20 * g + f) := by rw [show nI g * 20 = nI (g * 20) from pk_mul g 20, nI_add, Nat.mul_comm]
  have ifg : vp_in (nI (20 * f + g)) 400 := vp_in_nI (by omega) (by omega)
  have igf : vp_in (nI (20 * g + f)) 400 := vp_in_nI (by omega) (by omega)
  have key : (f = g ∨ f / 4 ≠ g / 4) → ∀ fu o r lc ls bd b', (r = 0 ∨ r = 1) → (r = 0 → b' = b) → o ≤ m → m - o < fu → ot_BD 1000000000 b' bd → ot_Bx n m ne ef co be pr (fun o' f' g' => Dn o' f' g' ∨ (o' < o ∧ f' = f ∧ g' = g)) b0 b' → wX_lowerBound_22 post (nI f) (nI g) x3 fu r (nI o) (nI n) (nI d) (nI m) mt lc aC aN aE aB aG od sn mv rm bd ls ah := by
    intro hx fu
    induction fu with
    | zero => intro o r lc ls bd b' _ _ _ h; omega
    | succ fu ih =>
    intro o r lc ls bd b' hr hr0 ho hfu hB' B'
    rcases Nat.lt_or_ge o m with z | z
    · have hD : ∀ o' f' g', (Dn o' f' g' ∨ (o' < o + 1 ∧ f' = f ∧ g' = g)) → (Dn o' f' g' ∨ (o' < o ∧ f' = f ∧ g' = g)) ∨ (o' = o ∧ f' = f ∧ g' = g) := fun o' f' g' y => by
        rcases y with y | ⟨y1, y2⟩
        · exact Or.inl (Or.inl y)
        · rcases Nat.lt_or_ge o' o with q | q
          · exact Or.inl (Or.inr ⟨q, y2⟩)
          · exact Or.inr ⟨by omega, y2⟩
      refine br_f (nI_ge z (by omega)) (ox_brings T0 (by omega) (by omega) (by omega) (fun hb => br_f ot_01' ?_) (fun hb => br_t rfl (nm_r (nI_1 o) (ih (o + 1) r lc ls bd b' hr hr0 (by omega) (by omega) hB' ?_))))
      · refine ox_rest T0 (by omega) (by omega) (by omega) hb (fun k ls lf hk H => ?_)
        refine ox_greatest (pr := pr) H hk hB' hx3 (fun M hM G => ⟨vp_in_nI (by omega) (by omega), ?_⟩)
        have c9 := hco o
        have l := hB'.1 (20 * f + g)
        refine nm_r (e' := nI (M + co o)) (by rw [nI_clamp (by omega), hC o (by omega), nI_add]) ?_
        rw [efg, egf]
        refine ⟨ifg, ?_⟩
        rw [nI_clamp (n := 20 * f + g) (by omega), nI_clamp (n := 20 * g + f) (by omega), hB'.2 _ (by omega)]
        rcases Nat.lt_or_ge (M + co o) (b' (20 * f + g)) with y | y
        · refine br_f (nI_ge y (by omega)) ⟨ifg, nm_e ⟨igf, nm_e (nm_r (nI_1 o) (ih (o + 1) 1 (nI k) ls _ _ (Or.inr rfl) (fun q => absurd q ot_01') (by omega) (by omega) (ot_BDup (ot_BDup hB' (by omega)) (by omega)) (ot_BxD (ot_Bxle T0 B' z hf hg hp hx hb H G y) (fun o' f' g' _ _ _ _ => hD o' f' g'))))⟩⟩
        · exact br_t (nI_le y (by omega)) (nm_r (nI_1 o) (ih (o + 1) r (nI k) ls bd b' hr hr0 (by omega) (by omega) hB' (ot_BxD (ot_Bxge B' H G y) (fun o' f' g' _ _ _ _ => hD o' f' g'))))
      · refine ⟨B'.1, B'.2.1, B'.2.2.1, B'.2.2.2.1, B'.2.2.2.2.1, fun o' f' g' a1 a2 a3 a4 a5 a6 a7 q hq => ?_⟩
        rcases hD o' f' g' a7 with y | ⟨y1, y2, y3⟩
        · exact B'.2.2.2.2.2 o' f' g' a1 a2 a3 a4 a5 a6 y q hq
        · subst y1 y2 y3; exact absurd a6 hb
    · refine br_t (nI_le z (by omega)) ⟨by rcases hr with q | q <;> rw [q] <;> rfl, hP r lc ls bd b' hr0 hB' ?_⟩
      refine ⟨B'.1, B'.2.1, B'.2.2.1, B'.2.2.2.1, B'.2.2.2.2.1, fun o' f' g' a1 a2 a3 a4 a5 a6 a7 q hq => B'.2.2.2.2.2 o' f' g' a1 a2 a3 a4 a5 a6 (a7.imp id (fun y => ⟨by omega, y⟩)) q hq⟩
  have start : (f = g ∨ f / 4 ≠ g / 4) → ∃ n22 : Nat, wX_lowerBound_22 post (nI f) (nI g) x3 n22 0 0 (nI n) (nI d) (nI m) mt lc aC aN aE aB aG od sn mv rm bd ls ah := fun hx => ⟨m + 1, key hx (m + 1) 0 0 lc ls bd b (Or.inl rfl) (fun _ => rfl) (Nat.zero_le _) (by omega) hBb (ot_BxD B (fun o' f' g' _ _ _ _ y => y.elim id (fun w => by omega)))⟩
  rcases Classical.em (f = g) with z | z
  · exact br_t (by rw [z]) (start (Or.inl z))
  · refine br_f (fun e => z ((nI_eq (by omega) (by omega)).mp e)) ⟨by decide, by decide, ?_⟩
    rw [e4f, e4g]
    rcases Classical.em (f / 4 = g / 4) with y | y
    · refine br_t (by rw [y]) (hP 0 lc ls bd b (fun _ => rfl) hBb (ot_BxD B (fun o' f' g' _ _ _ w u => u.elim id (fun q => ?_))))
      rw [q.1, q.2] at w
      exact absurd y (w.elim (fun e => absurd e z) id)
    · exact br_f (fun e => y ((nI_eq (by omega) (by omega)).mp e)) (start (Or.inr y))
end
end
section
/-! bounds: the component's table whole -/
section
variable {n d m : Nat} {co ne ef be go : Nat → Nat} {aC aN aE aB aG od sn mv rm ah : Nat → Int32} {mt : Int32} {pr : Prop} {b0 b : Nat → Nat}
theorem ox_fb58 (T : ot_T n d m co ne ef be go aC aN aE aB aG) {x1 x2 x4 : Int32} (hx1 : ot_md x1 pr) {post : SX → Prop} {J16 J : Int32 → Int32 → Int32 → Int32 → Int32 → Int32 → Int32 → (Nat → Int32) → (Nat → Int32) → (Nat → Int32) → (Nat → Int32) → (Nat → Int32) → (Nat → Int32) → (Nat → Int32) → (Nat → Int32) → (Nat → Int32) → (Nat → Int32) → (Nat → Int32) → (Nat → Int32) → Prop} {f L : Nat} (hf : f < 4 * n) (hfL : f ≤ L) (hL : L < 4 * n) (hpr : pr ∨ L = f) (hfull : pr → L + 1 = 4 * n)
    (hJ : ∀ c lc ls bd b, (c = 0 → b = b0) → ot_BD 1000000000 b bd → ot_Bx n m ne ef co be pr (fun _ f' g' => f' < f + 1 ∧ f' ≤ g') b0 b → J c (nI (f + 1)) (nI n) (nI d) (nI m) mt lc aC aN aE aB aG od sn mv rm bd ls ah) :
    ∀ fu g c lc ls bd b, f ≤ g → g ≤ L + 1 → L + 1 - g < fu → (c = 0 → b = b0) → ot_BD 1000000000 b bd → ot_Bx n m ne ef co be pr (fun _ f' g' => (f' < f ∧ f' ≤ g') ∨ (f' = f ∧ f' ≤ g' ∧ g' < g)) b0 b → wX_findBounds_58 post J16 J x1 x2 x4 (nI f) (nI L) fu c (nI g) (nI n) (nI d) (nI m) mt lc aC aN aE aB aG od sn mv rm bd ls ah := by
  have T0 := T
  obtain ⟨⟨⟨hn1, hn⟩, ⟨hd1, hd⟩, hm⟩, ⟨hC, hco⟩, ⟨hN, hne⟩, ⟨hE, hef⟩, ⟨hB, hbe⟩, ⟨hG, hgo⟩⟩ := T
  intro fu
  induction fu with
  | zero => intro g c lc ls bd b _ _ h; omega
  | succ fu ih =>
  intro g c lc ls bd b hfg hgL hfu hc hBb B
  rcases Nat.lt_or_ge L g with z | z
  · refine br_t (nI_lt z (by omega)) (nm_r (nI_1 f) (hJ c lc ls bd b hc hBb (ot_BxD B (fun o f' g' a1 a2 a3 _ a5 => ?_))))
    rcases Nat.lt_or_ge f' f with y | y
    · exact Or.inl ⟨y, a5.2⟩
    · refine Or.inr ⟨by omega, a5.2, ?_⟩
      rcases a3 with q | q
      · have := hfull q; omega
      · omega
  · refine br_f (nI_nlt z (by omega)) (ox_lower T0 hx1 hf (by omega) (hpr.imp id (fun q => by omega)) hBb B (fun r lc' ls' bd' b' hr hBb' B' => ?_))
    have B2 := ot_BxD (Dn' := fun _ f' g' => (f' < f ∧ f' ≤ g') ∨ (f' = f ∧ f' ≤ g' ∧ g' < g + 1)) B' (fun o f' g' _ _ _ _ y => by
      rcases y with y | ⟨y1, y2, y3⟩
      · exact Or.inl (Or.inl y)
      · rcases Classical.em (g' = g) with q | q
        · exact Or.inr ⟨y1, q⟩
        · exact Or.inl (Or.inr ⟨y1, y2, by omega⟩))
    rcases Classical.em (r = 0) with y | y
    · exact br_t y (nm_r (nI_1 g) (ih (g + 1) c lc' ls' bd' b' (by omega) (by omega) (by omega) (fun q => (hr y).trans (hc q)) hBb' B2))
    · exact br_f y (nm_r (nI_1 g) (ih (g + 1) 1 lc' ls' bd' b' (by omega) (by omega) (by omega) (fun q => absurd q ot_01') hBb' B2))
theorem ox_fb33 (T : ot_T n d m co ne ef be go aC aN aE aB aG) {x1 : Int32} (hx1 : ot_md x1 pr) {post : SX → Prop} {J : Int32 → Int32 → Int32 → Int32 → Int32 → Int32 → Int32 → (Nat → Int32) → (Nat → Int32) → (Nat → Int32) → (Nat → Int32) → (Nat → Int32) → (Nat → Int32) → (Nat → Int32) → (Nat → Int32) → (Nat → Int32) → (Nat → Int32) → (Nat → Int32) → (Nat → Int32) → Prop} {r : Nat}
    (hJ : ∀ c lc ls bd b, (c = 0 → b = b0) → ot_BD 1000000000 b bd → ot_Bx n m ne ef co be pr (fun _ f' g' => f' ≤ g') b0 b → J c (nI (r + 1)) (nI n) (nI d) (nI m) mt lc aC aN aE aB aG od sn mv rm bd ls ah) :
    ∀ fu f c lc ls bd b, f ≤ 4 * n → 4 * n - f < fu → (c = 0 → b = b0) → ot_BD 1000000000 b bd → ot_Bx n m ne ef co be pr (fun _ f' g' => f' < f ∧ f' ≤ g') b0 b → wX_findBounds_33 post J x1 (nI (4 * n)) (nI r) fu c (nI f) (nI n) (nI d) (nI m) mt lc aC aN aE aB aG od sn mv rm bd ls ah := by
  have T0 := T
  obtain ⟨⟨⟨hn1, hn⟩, ⟨hd1, hd⟩, hm⟩, ⟨hC, hco⟩, ⟨hN, hne⟩, ⟨hE, hef⟩, ⟨hB, hbe⟩, ⟨hG, hgo⟩⟩ := T
  intro fu
  induction fu with
  | zero => intro f c lc ls bd b _ h; omega
  | succ fu ih =>
  intro f c lc ls bd b hf hfu hc hBb B
  rcases Nat.lt_or_ge f (4 * n) with z | z
  · refine br_f (nI_ge z (by omega)) ?_
    have go1 : ∀ L, f ≤ L → L < 4 * n → (pr ∨ L = f) → (pr → L + 1 = 4 * n) → ∃ n58, wX_findBounds_58 post J (wX_findBounds_33 post J x1 (nI (4 * n)) (nI r) fu) x1 (nI (4 * n)) (nI r) (nI f) (nI L) n58 c (nI f) (nI n) (nI d) (nI m) mt lc aC aN aE aB aG od sn mv rm bd ls ah := fun L h1 h2 h3 h4 =>
      ⟨L + 2, ox_fb58 T0 hx1 z h1 h2 h3 h4 (fun c lc ls bd b a e g => ih (f + 1) c lc ls bd b (by omega) (by omega) a e g) (L + 2) f c lc ls bd b (Nat.le_refl _) (by omega) (by omega) hc hBb (ot_BxD B (fun o f' g' _ _ _ _ y => y.elim id (fun q => by omega)))⟩
    rcases hx1 with ⟨x, p⟩ | ⟨x, p⟩
    · exact br_t x (go1 f (Nat.le_refl _) z (Or.inr rfl) (fun q => absurd q p))
    · refine br_f x (nm_r (e' := nI (4 * n - 1)) ?_ (go1 (4 * n - 1) (by omega) (by omega) (Or.inl p) (fun _ => by omega)))
      exact ot_rvp (x := 4 * n) (by omega)
  · exact br_t (nI_le z (by omega)) (nm_r (nI_1 r) (hJ c lc ls bd b hc hBb (ot_BxD B (fun o f' g' a1 _ _ _ y => ⟨by omega, y⟩))))
theorem ot_round (T : ot_T n d m co ne ef be go aC aN aE aB aG) (B : ot_Bx n m ne ef co be pr (fun _ f' g' => f' ≤ g') b0 b) : ∀ p c Q k, ot_H n m ne ef co pr p c Q → (∀ q, Q q → b0 q ≤ k) → b p ≤ k + c := by
  obtain ⟨⟨⟨hn1, hn⟩, ⟨hd1, hd⟩, hm⟩, ⟨hC, hco⟩, ⟨hN, hne⟩, ⟨hE, hef⟩, ⟨hB, hbe⟩, ⟨hG, hgo⟩⟩ := T
  intro p c Q k hH hq
  obtain ⟨o, f, g, ho, hf, hg, e, hp, hx, hb, hc, hQ⟩ := hH
  subst e hc hQ
  rcases Nat.lt_or_ge g f with z | z
  · rw [B.2.2.2.1 f g (by omega) (by omega)]
    exact B.2.2.2.2.2 o g f ho hg hf (ot_prs hp) (hx.imp Eq.symm (fun y w => y w.symm)) (ot_bgs hb) (by omega) k (fun a c ha hc hac => hq _ ⟨a, c, ot_rss ha, ot_rss hc, hac, rfl⟩)
  · exact B.2.2.2.2.2 o f g ho hf hg hp hx hb z k (fun a c ha hc hac => hq _ ⟨a, c, ha, hc, hac, rfl⟩)
theorem ot_Zpr {p : Nat} (h : ot_Z n be pr p) : ot_Z n be True p := by
  obtain ⟨v, u, hv, hu, _, e⟩ := h
  exact ⟨v, u, hv, hu, Or.inl trivial, e⟩
theorem ox_first2 (T : ot_T n d m co ne ef be go aC aN aE aB aG) {lc : Int32} {ls bd : Nat → Int32} {post : SX → Prop} (h : ∀ bd, ot_BD 1000000000 (ot_w0 (ot_Z n be True)) bd → post (nI n, nI d, nI m, mt, lc, aC, aN, aE, aB, aG, od, sn, mv, rm, bd, ls, ah)) : wpX_setFirstBounds post (nI n, nI d, nI m, mt, lc, aC, aN, aE, aB, aG, od, sn, mv, rm, bd, ls, ah) := by
  have T0 := T
  obtain ⟨⟨⟨hn1, hn⟩, ⟨hd1, hd⟩, hm⟩, ⟨hC, hco⟩, ⟨hN, hne⟩, ⟨hE, hef⟩, ⟨hB, hbe⟩, ⟨hG, hgo⟩⟩ := T
  have k35 : ∀ (J : Int32 → (Nat → Int32) → (Nat → Int32) → (Nat → Int32) → (Nat → Int32) → (Nat → Int32) → (Nat → Int32) → (Nat → Int32) → (Nat → Int32) → (Nat → Int32) → (Nat → Int32) → (Nat → Int32) → (Nat → Int32) → Prop) v, v < n → (∀ bd, (∀ p, p < 400 → ((∃ v' u', v' < v + 1 ∧ u' < n ∧ p = 20 * (4 * v' + be v') + (4 * u' + be u')) → bd p = 0) ∧ ((¬ ∃ v' u', v' < v + 1 ∧ u' < n ∧ p = 20 * (4 * v' + be v') + (4 * u' + be u')) → bd p = 1000000000)) → J (nI (v + 1)) aC aN aE aB aG od sn mv rm bd ls ah) →
      ∀ bd, (∀ p, p < 400 → ((∃ v' u', v' < v ∧ u' < n ∧ p = 20 * (4 * v' + be v') + (4 * u' + be u')) → bd p = 0) ∧ ((¬ ∃ v' u', v' < v ∧ u' < n ∧ p = 20 * (4 * v' + be v') + (4 * u' + be u')) → bd p = 1000000000)) → ∃ fu, wX_setFirstBounds_35 post J (nI v) (nI n) (nI d) (nI m) mt lc fu 0 aC aN aE aB aG od sn mv rm bd ls ah := by
    intro J v hv hJ bd h0
    have b1 := hbe v
    refine loop_0 (fun fu u (bd : Nat → Int32) => wX_setFirstBounds_35 post J (nI v) (nI n) (nI d) (nI m) mt lc fu (nI u) aC aN aE aB aG od sn mv rm bd ls ah) (fun u bd => ∀ p, p < 400 → ((∃ v' u', ((v' < v ∧ u' < n) ∨ (v' = v ∧ u' < u)) ∧ p = 20 * (4 * v' + be v') + (4 * u' + be u')) → bd p = 0) ∧ ((¬ ∃ v' u', ((v' < v ∧ u' < n) ∨ (v' = v ∧ u' < u)) ∧ p = 20 * (4 * v' + be v') + (4 * u' + be u')) → bd p = 1000000000)) n bd (fun p hp => ?_) ?_ ?_
    · have a := h0 p hp
      refine ⟨fun ⟨v', u', hh, e⟩ => a.1 ⟨v', u', ?_, ?_, e⟩, fun hno => a.2 (fun ⟨v', u', q1, q2, e⟩ => hno ⟨v', u', Or.inl ⟨q1, q2⟩, e⟩)⟩
      · rcases hh with q | q
        · exact q.1
        · exact absurd q.2 (Nat.not_lt_zero _)
      · rcases hh with q | q
        · exact q.2
        · exact absurd q.2 (Nat.not_lt_zero _)
    · intro fu bd hI
      refine br_t (nI_le (Nat.le_refl _) (by omega)) (nm_r (nI_1 v) (hJ bd (fun p hp => ?_)))
      have a := hI p hp
      refine ⟨fun ⟨v', u', q1, q2, e⟩ => a.1 ⟨v', u', ?_, e⟩, fun hno => a.2 (fun ⟨v', u', hh, e⟩ => hno ⟨v', u', ?_, ?_, e⟩)⟩
      · rcases Nat.lt_or_ge v' v with y | y
        · exact Or.inl ⟨y, q2⟩
        · exact Or.inr ⟨by omega, q2⟩
      · rcases hh with q | q
        · have := q.1; omega
        · have := q.1; omega
      · rcases hh with q | q
        · exact q.2
        · exact q.2
    · intro fu u bd hu hI ih
      have b2 := hbe u
      have ev : nI v * 4 + nI (be v) = nI (4 * v + be v) := by rw [show nI v * 4 = nI (v * 4) from pk_mul v 4, nI_add, Nat.mul_comm]
      have eu : nI u * 4 + nI (be u) = nI (4 * u + be u) := by rw [show nI u * 4 = nI (u * 4) from pk_mul u 4, nI_add, Nat.mul_comm]
      have e20 : nI (4 * v + be v) * 20 + nI (4 * u + be u) = nI (20 * (4 * v + be v) + (4 * u + be u)) := by rw [show nI (4 * v + be v) * 20 = nI ((4 * v + be v) * 20) from pk_mul _ 20, nI_add, Nat.mul_comm]
      refine br_f (nI_ge hu (by omega)) ⟨vp_in_nI (by omega) (by omega), nm_r (e' := nI (4 * v + be v)) (by rw [nI_clamp (by omega), hB v (by omega), ev]) ⟨vp_in_nI (by omega) (by omega), nm_r (e' := nI (4 * u + be u)) (by rw [nI_clamp (by omega), hB u (by omega), eu]) ?_⟩⟩
      rw [e20]
      refine ⟨vp_in_nI (by omega) (by omega), nm_r (e' := upd bd (20 * (4 * v + be v) + (4 * u + be u)) 0) (by rw [nI_clamp (by omega)]) (nm_r (nI_1 u) (ih _ (fun p hp => ?_)))⟩
      rcases Classical.em (p = 20 * (4 * v + be v) + (4 * u + be u)) with y | y
      · rw [y, pk_us]
        exact ⟨fun _ => rfl, fun hno => absurd ⟨v, u, Or.inr ⟨rfl, by omega⟩, rfl⟩ hno⟩
      · rw [pk_un y]
        have a := hI p hp
        refine ⟨fun ⟨v', u', hh, e⟩ => a.1 ⟨v', u', ?_, e⟩, fun hno => a.2 (fun ⟨v', u', hh, e⟩ => hno ⟨v', u', hh.imp id (fun q => ⟨q.1, Nat.lt_succ_of_lt q.2⟩), e⟩)⟩
        rcases hh with q | q
        · exact Or.inl q
        · refine Or.inr ⟨q.1, ?_⟩
          rcases Nat.lt_or_ge u' u with w | w
          · exact w
          · exfalso
            have e1 : u' = u := Nat.le_antisymm (Nat.le_of_lt_succ q.2) w
            rw [e1, q.1] at e
            exact y e
  have k25 : ∀ fu v bd, v ≤ n → n - v < fu → (∀ p, p < 400 → ((∃ v' u', v' < v ∧ u' < n ∧ p = 20 * (4 * v' + be v') + (4 * u' + be u')) → bd p = 0) ∧ ((¬ ∃ v' u', v' < v ∧ u' < n ∧ p = 20 * (4 * v' + be v') + (4 * u' + be u')) → bd p = 1000000000)) → wX_setFirstBounds_25 post (nI n) (nI d) (nI m) mt lc fu (nI v) aC aN aE aB aG od sn mv rm bd ls ah := by
    intro fu
    induction fu with
    | zero => intro v bd _ h; omega
    | succ fu ih =>
    intro v bd hv hfu hI
    rcases Nat.lt_or_ge v n with z | z
    · exact br_f (nI_ge z (by omega)) (k35 _ v z (fun bd' hI' => ih (v + 1) bd' z (by omega) hI') bd hI)
    · refine br_t (nI_le z (by omega)) (h bd ⟨ot_w0le _, fun p hp => ?_⟩)
      have a := hI p hp
      have ev : v = n := Nat.le_antisymm hv z
      rcases Classical.em (ot_Z n be True p) with y | y
      · rw [ot_w0t y]
        obtain ⟨v', u', q1, q2, _, e⟩ := y
        exact a.1 ⟨v', u', by rw [ev]; exact q1, q2, e⟩
      · rw [ot_w0f y]
        exact a.2 (fun ⟨v', u', q1, q2, e⟩ => y ⟨v', u', by rw [← ev]; exact q1, q2, Or.inl trivial, e⟩)
  refine loop_0 (fun fu p (bd : Nat → Int32) => wX_setFirstBounds_2 post (nI n) (nI d) (nI m) mt lc fu (nI p) aC aN aE aB aG od sn mv rm bd ls ah) (fun p bd => ∀ q, q < p → bd q = 1000000000) 400 bd (fun q hq => by omega) ?_ ?_
  · intro fu bd hI
    exact br_t (by decide) ⟨n + 1, k25 (n + 1) 0 bd (Nat.zero_le _) (by omega) (fun p hp => ⟨fun ⟨v', u', q, _⟩ => absurd q (Nat.not_lt_zero _), fun _ => hI p hp⟩)⟩
  · intro fu p bd hp hI ih
    exact br_f (nI_ge (b := 400) hp (by decide)) ⟨vp_in_nI hp (by omega), nm_r (e' := upd bd p 1000000000) (by rw [nI_clamp (by omega)]) (nm_r (nI_1 p) (ih _ (lt_s (fun q hq => by rw [pk_un (by omega)]; exact hI q hq) pk_us)))⟩
theorem ox_findB (T : ot_T n d m co ne ef be go aC aN aE aB aG) {lc : Int32} {ls bd : Nat → Int32} {x1 : Int32} (hx1 : ot_md x1 pr) {post : SX → Prop} (h : ∀ lc ls bd b, ot_BD 1000000000 b bd → ot_J (ot_Z n be pr) (ot_H n m ne ef co pr) (ot_dm pr) 1000000000 b → ot_LB (ot_Z n be pr) (ot_H n m ne ef co pr) b → ot_Sy b → post (nI n, nI d, nI m, mt, lc, aC, aN, aE, aB, aG, od, sn, mv, rm, bd, ls, ah)) : wpX_findBounds post (nI n, nI d, nI m, mt, lc, aC, aN, aE, aB, aG, od, sn, mv, rm, bd, ls, ah) x1 := by
  have T0 := T
  obtain ⟨⟨⟨hn1, hn⟩, ⟨hd1, hd⟩, hm⟩, ⟨hC, hco⟩, ⟨hN, hne⟩, ⟨hE, hef⟩, ⟨hB, hbe⟩, ⟨hG, hgo⟩⟩ := T
  have dle : ∀ b, (∃ p, ot_U (ot_Z n be pr) (ot_H n m ne ef co pr) b p) → ∃ p, p < 400 ∧ ot_U (ot_Z n be pr) (ot_H n m ne ef co pr) b p := fun b ⟨p, k, hd', hk⟩ => ⟨p, ot_D400 hn hd (fun v _ => hbe v) hd', k, hd', hk⟩
  have key : ∀ fu r c lc ls bd b, r ≤ 400 → 400 - r < fu → (c = 0 → ot_LB (ot_Z n be pr) (ot_H n m ne ef co pr) b) → ot_BD 1000000000 b bd → ot_Bx n m ne ef co be pr (fun _ _ _ => False) b b → (ot_LB (ot_Z n be pr) (ot_H n m ne ef co pr) b ∨ cn (ot_U (ot_Z n be pr) (ot_H n m ne ef co pr) b) 400 + r ≤ 400) → wX_findBounds_16 post x1 (nI (4 * n)) fu c (nI r) (nI n) (nI d) (nI m) mt lc aC aN aE aB aG od sn mv rm bd ls ah := by
    intro fu
    induction fu with
    | zero => intro r c lc ls bd b _ h; omega
    | succ fu ih =>
    intro r c lc ls bd b hr hfu hc hBb B hU
    rcases Classical.em (c = 0) with z | z
    · exact br_t z (h lc ls bd b hBb B.1 (hc z) B.2.2.2.1)
    · refine br_f z ?_
      rcases Nat.lt_or_ge r 400 with y | y
      · refine br_f (nI_ge (b := 400) y (by decide)) ⟨4 * n + 1, ox_fb33 (b0 := b) T0 hx1 (fun c' lc' ls' bd' b' hc' hBb' B' => ?_) (4 * n + 1) 0 0 lc ls bd b (Nat.zero_le _) (by omega) (fun _ => rfl) hBb (ot_BxD B (fun o f' g' _ _ _ _ w => by omega))⟩
        have rd := ot_round T0 B'
        refine ih (r + 1) c' lc' ls' bd' b' (by omega) (by omega) (fun p => ?_) hBb' ⟨B'.1, fun _ => Nat.le_refl _, hBb'.1, B'.2.2.2.1, B'.2.2.2.2.1, fun _ _ _ _ _ _ _ _ _ w => w.elim⟩ ?_
        · have e := hc' p
          subst e
          exact ot_LBs (fun p hp => B'.2.2.2.2.1 p (ot_Zpr hp)) rd
        · rcases hU with u | u
          · exact Or.inl (fun p k hk => Nat.le_trans (B'.2.1 p) (u p k hk))
          · rcases Classical.em (∃ p, ot_U (ot_Z n be pr) (ot_H n m ne ef co pr) b p) with w | w
            · have := ot_rd (Z := ot_Z n be pr) B'.2.1 (fun p hp => B.2.2.2.2.1 p (ot_Zpr hp)) rd (M := 400) (fun p c Q hH => ot_H400 hn hH) w
              exact Or.inr (by omega)
            · exact Or.inl (fun p k hk => Nat.le_trans (B'.2.1 p) (ot_LB0 w p k hk))
      · refine br_t (nI_le (a := 400) y (by omega)) (h lc ls bd b hBb B.1 ?_ B.2.2.2.1)
        rcases hU with u | u
        · exact u
        · refine ot_LB0 (fun w => ?_)
          obtain ⟨p, hp, hu⟩ := dle b w
          exact ot_cn0 (by omega) hp hu
  refine ox_first2 T0 (fun bd hBb => ?_)
  have e4 : nI n * 4 = nI (4 * n) := by rw [show nI n * 4 = nI (n * 4) from pk_mul n 4, Nat.mul_comm]
  have zl : ∀ p, ot_Z n be True p → p < 400 := fun p ⟨v, u, hv, hu, _, e⟩ => by
    have b1 := hbe v
    have b2 := hbe u
    omega
  refine nm_r e4 ⟨401, key 401 0 1 lc ls bd _ (by omega) (by omega) (fun q => absurd q ot_01') hBb ⟨fun p hdm hp => ?_, fun _ => Nat.le_refl _, ot_w0le _, fun f g hf hg => ?_, fun p hp => ot_w0t hp, fun _ _ _ _ _ _ _ _ _ w => w.elim⟩ (Or.inr (by rw [Nat.add_zero]; exact cn_le _ 400))⟩
  · rcases Classical.em (ot_Z n be True p) with y | y
    · rw [ot_w0t y]
      refine ⟨ot_Dz 0 ?_, Nat.zero_le _⟩
      obtain ⟨v, u, hv, hu, _, e⟩ := y
      obtain ⟨f, g, hf, hg, hp', e'⟩ := hdm
      have b1 := hbe v
      have b2 := hbe u
      refine ⟨v, u, hv, hu, hp'.imp id (fun q => ?_), e⟩
      have e1 : 4 * v + be v = f := by omega
      have e2 : 4 * u + be u = g := by omega
      omega
    · rw [ot_w0f y] at hp
      omega
  · have sw : ∀ f g, f < 20 → g < 20 → ot_Z n be True (20 * f + g) → ot_Z n be True (20 * g + f) := fun f g hf hg ⟨v, u, hv, hu, _, e⟩ => by
      have b1 := hbe v
      have b2 := hbe u
      exact ⟨u, v, hu, hv, Or.inl trivial, by omega⟩
    rcases Classical.em (ot_Z n be True (20 * f + g)) with y | y
    · rw [ot_w0t y, ot_w0t (sw f g hf hg y)]
    · rw [ot_w0f y, ot_w0f (fun q => y (sw g f hg hf q))]
end
end
section
/-! bounds: the reference's lists -/
def ot_ij (k : Nat) (lf : Nat → Nat) : Prop := ∀ i j, i < k → j < k → lf i = lf j → i = j
def ot_tr (b : Nat → Nat) (p : Nat) : Nat := b (20 * (p % 20) + p / 20)
theorem ot_trv (b : Nat → Nat) {x y : Nat} (hy : y < 20) : ot_tr b (20 * x + y) = b (20 * y + x) := by
  unfold ot_tr
  rw [show (20 * x + y) % 20 = y by omega, show (20 * x + y) / 20 = x by omega]
def ot_mdy (x : Int32) (pr : Prop) : Prop := (x = 0 ∧ ¬ pr) ∨ (¬ x = 0 ∧ pr)
def ot_nc (k : Nat) (lf : Nat → Nat) : Prop := ∀ i j, i < k → j < i → lf i / 4 ≠ lf j / 4
def ot_cs (S : Nat → Prop) : Prop := ∃ a c, S a ∧ S c ∧ a ≠ c ∧ a / 4 = c / 4
section
variable {n d m : Nat} {co ne ef be go : Nat → Nat} {aC aN aE aB aG yl yf ym yb yd : Nat → Int32} {pr : Prop}
theorem oy_add {S : Nat → Prop} {k f : Nat} {yr : Nat → Int32} {lf : Nat → Nat} {x0 x1' x2' : Int32} (H : ot_LS S k yr lf) (hj : ot_ij k lf) (hk : k < 10) (hf : f < 20) {post : SY → Prop} (hP : ∀ k' yr lf, k' ≤ k + 1 → ot_LS (fun q => S q ∨ q = f) k' yr lf → ot_ij k' lf → post (x0, x1', x2', nI k', aC, aN, aE, aB, aG, yl, yf, ym, yb, yd, yr)) : wpY_addRest post (x0, x1', x2', nI k, aC, aN, aE, aB, aG, yl, yf, ym, yb, yd, yr) (nI f) := by
  refine loop_0 (σ := Unit) (fun fu i _ => wY_addRest_2 post (nI f) x0 x1' x2' (nI k) aC aN aE aB aG yl yf ym yb yd yr fu (nI i)) (fun i _ => ∀ j, j < i → lf j ≠ f) k () (fun j hj => by omega) ?_ ?_
  · intro fu _ hI
    refine br_t (nI_le (Nat.le_refl _) (by omega)) ⟨vp_in_nI hk (by omega), nm_r (e' := upd yr k (nI f)) (by rw [nI_clamp (by omega)]) (nm_r (nI_1 k) (hP (k + 1) _ (ot_up lf k f) (Nat.le_refl _) (ot_LSup H hf (fun q => Iff.rfl)) (fun i j hi hj' e => ?_)))⟩
    rcases Classical.em (i = k) with a | a
    · rcases Classical.em (j = k) with b | b
      · omega
      · rw [a, ot_us, ot_un b] at e
        exact absurd e.symm (hI j (by omega))
    · rcases Classical.em (j = k) with b | b
      · rw [b, ot_us, ot_un a] at e
        exact absurd e (hI i (by omega))
      · rw [ot_un a, ot_un b] at e
        exact hj i j (by omega) (by omega) e
  · intro fu i _ hi hI ih
    have e := H.1 i hi
    refine br_f (nI_ge hi (by omega)) ⟨vp_in_nI (by omega) (by omega), ?_⟩
    rw [nI_clamp (by omega), e.1]
    rcases Classical.em (lf i = f) with z | z
    · refine br_t (by rw [z]) (hP k yr lf (by omega) (ot_LSc H (fun q => ⟨fun y => y.elim id (fun w => ?_), Or.inl⟩)) hj)
      exact (H.2 q).mpr ⟨i, hi, z.trans w.symm⟩
    · exact br_f (fun y => z ((nI_eq (by omega) (by omega)).mp y)) (nm_r (nI_1 i) (ih () (lt_s hI z)))
theorem oy_touch (T : ot_T n d m co ne ef be go aC aN aE aB aG) {rz : Int32} {yr : Nat → Int32} {o f : Nat} (ho : o < 10) (hf : f < 20) {post : Int32 → Prop} (h0 : ef (5 * o + f / 4) = 0 → post 0) (h1 : ef (5 * o + f / 4) = f % 4 + 1 → post 1) (h2 : ¬ (ef (5 * o + f / 4) = 0 ∨ ef (5 * o + f / 4) = f % 4 + 1) → post (-1)) : wpY_touches post (nI n, nI d, nI m, rz, aC, aN, aE, aB, aG, yl, yf, ym, yb, yd, yr) (nI o) (nI f) := by
  obtain ⟨⟨⟨hn1, hn⟩, ⟨hd1, hd⟩, hm⟩, ⟨hC, hco⟩, ⟨hN, hne⟩, ⟨hE, hef⟩, ⟨hB, hbe⟩, ⟨hG, hgo⟩⟩ := T
  have b := hef (5 * o + f / 4)
  have e4 : nI f / 4 = nI (f / 4) := pk_div (d := 4) (by omega) (by omega) (by omega)
  have er : nI f - nI f / 4 * 4 = nI (f % 4) := pk_rem (d := 4) (by omega) (by omega) (by omega)
  have e5 : 5 * nI o + nI (f / 4) = nI (5 * o + f / 4) := by rw [show 5 * nI o = nI (5 * o) from pk_mul 5 o, nI_add]
  refine ⟨by decide, by rw [e4, e5]; exact vp_in_nI (by omega) (by omega), nm_r (e' := ot_rv (ef (5 * o + f / 4))) (by rw [e4, e5, nI_clamp (by omega), hE _ (by omega)]) ?_⟩
  rcases Classical.em (ef (5 * o + f / 4) = 0) with y | y
  · exact br_f (fun q => (ot_rvg _ (by omega)).mp q y) (h0 y)
  · refine br_t ((ot_rvg _ (by omega)).mpr y) ⟨by decide, ?_⟩
    rw [er]
    rcases Classical.em (ef (5 * o + f / 4) = f % 4 + 1) with z | z
    · exact br_t ((ot_rve _ (by omega) _ (by omega)).mpr z) (h1 z)
    · exact br_f (fun q => z ((ot_rve _ (by omega) _ (by omega)).mp q)) (h2 (fun q => q.elim y z))
theorem oy_fr118 {S : Nat → Prop} {k : Nat} {yr : Nat → Int32} {lf : Nat → Nat} (H : ot_LS S k yr lf) (hj : ot_ij k lf) (hk : k ≤ 10) {post : Int32 → SY → Prop} (h0 : ot_cs S → post 0 (nI n, nI d, nI m, nI k, aC, aN, aE, aB, aG, yl, yf, ym, yb, yd, yr)) (h1 : ot_nc k lf → post 1 (nI n, nI d, nI m, nI k, aC, aN, aE, aB, aG, yl, yf, ym, yb, yd, yr)) : ∃ n118 : Nat, wY_findRest_118 post (nI n) (nI d) (nI m) (nI k) aC aN aE aB aG yl yf ym yb yd yr n118 0 := by
  have key : ∀ fu i, i ≤ k → k - i < fu → (∀ i' j, i' < i → j < i' → lf i' / 4 ≠ lf j / 4) → wY_findRest_118 post (nI n) (nI d) (nI m) (nI k) aC aN aE aB aG yl yf ym yb yd yr fu (nI i) := by
    intro fu
    induction fu with
    | zero => intro i _ h; omega
    | succ fu ih =>
    intro i hi hfu hI
    rcases Nat.lt_or_ge i k with z | z
    · refine br_f (nI_ge z (by omega)) ?_
      have ei := H.1 i z
      refine loop_0 (σ := Unit) (fun fu' j _ => wY_findRest_130 post (wY_findRest_118 post (nI n) (nI d) (nI m) (nI k) aC aN aE aB aG yl yf ym yb yd yr fu) (nI i) (nI n) (nI d) (nI m) (nI k) aC aN aE aB aG yl yf ym yb yd yr fu' (nI j)) (fun j _ => ∀ q, q < j → lf i / 4 ≠ lf q / 4) i () (fun q hq => by omega) ?_ ?_
      · intro fu' _ hJ
        exact br_t (nI_le (Nat.le_refl _) (by omega)) (nm_r (nI_1 i) (ih (i + 1) z (by omega) (fun i' j a c => by
          rcases Classical.em (i' = i) with q | q
          · subst q; exact hJ j c
          · exact hI i' j (by omega) c)))
      · intro fu' j _ hji hJ ih'
        have ej := H.1 j (by omega)
        have e4i : nI (lf i) / 4 = nI (lf i / 4) := pk_div (d := 4) (by omega) (by omega) (by omega)
        have e4j : nI (lf j) / 4 = nI (lf j / 4) := pk_div (d := 4) (by omega) (by omega) (by omega)
        refine br_f (nI_ge hji (by omega)) ⟨vp_in_nI (by omega) (by omega), by decide, vp_in_nI (by omega) (by omega), by decide, ?_⟩
        rw [nI_clamp (n := i) (by omega), nI_clamp (n := j) (by omega), ei.1, ej.1, e4i, e4j]
        rcases Classical.em (lf i / 4 = lf j / 4) with y | y
        · exact br_t (by rw [y]) (h0 ⟨lf i, lf j, (H.2 _).mpr ⟨i, z, rfl⟩, (H.2 _).mpr ⟨j, by omega, rfl⟩, fun e => by have := hj i j z (by omega) e; omega, y⟩)
        · exact br_f (fun e => y ((nI_eq (by omega) (by omega)).mp e)) (nm_r (nI_1 j) (ih' () (lt_s hJ y)))
    · exact br_t (nI_le z (by omega)) (h1 (fun i' j a c => hI i' j (by omega) c))
  exact ⟨k + 1, key (k + 1) 0 (Nat.zero_le _) (by omega) (fun i' j a => by omega)⟩
theorem oy_fr46 (T : ot_T n d m co ne ef be go aC aN aE aB aG) {o f g : Nat} (ho : o < 10) (hf : f < 20) (hg : g < 20) {x4 x5 : Int32} (hx4 : (x4 = 0 ∧ ef (5 * o + f / 4) = 0) ∨ (¬ x4 = 0 ∧ ef (5 * o + f / 4) ≠ 0)) (hx5 : (x5 = 0 ∧ ef (5 * o + g / 4) = 0) ∨ (¬ x5 = 0 ∧ ef (5 * o + g / 4) ≠ 0)) {yr : Nat → Int32} {post : Int32 → SY → Prop}
    (h0 : ot_cs (ot_rs n ne ef o f g) → ∀ rz yr, post 0 (nI n, nI d, nI m, rz, aC, aN, aE, aB, aG, yl, yf, ym, yb, yd, yr)) (h1 : ∀ k yr lf, k ≤ 10 → ot_LS (ot_rs n ne ef o f g) k yr lf → ot_nc k lf → post 1 (nI n, nI d, nI m, nI k, aC, aN, aE, aB, aG, yl, yf, ym, yb, yd, yr)) : ∃ n46 : Nat, wY_findRest_46 post (nI o) (nI f) (nI g) x4 x5 n46 0 (nI n) (nI d) (nI m) 0 aC aN aE aB aG yl yf ym yb yd yr := by
  obtain ⟨⟨⟨hn1, hn⟩, ⟨hd1, hd⟩, hm⟩, ⟨hC, hco⟩, ⟨hN, hne⟩, ⟨hE, hef⟩, ⟨hB, hbe⟩, ⟨hG, hgo⟩⟩ := T
  have fin : ∀ k yr lf, k ≤ 10 → ot_LS (ot_rs n ne ef o f g) k yr lf → ot_ij k lf → ∃ n118 : Nat, wY_findRest_118 post (nI n) (nI d) (nI m) (nI k) aC aN aE aB aG yl yf ym yb yd yr n118 0 := fun k yr lf hk H hj => oy_fr118 H hj hk (fun q => h0 q _ _) (fun q => h1 k yr lf hk H q)
  have f105 : ∀ k yr lf, k ≤ 6 → ot_LS (fun q => ot_fs ne (5 * o) n q ∨ (q = f ∧ ef (5 * o + f / 4) = 0)) k yr lf → ot_ij k lf → wY_findRest_105 post (nI g) x5 (nI n) (nI d) (nI m) (nI k) aC aN aE aB aG yl yf ym yb yd yr := fun k yr lf hk H hj => by
    rcases hx5 with ⟨a, b⟩ | ⟨a, b⟩
    · refine br_t a (oy_add H hj (by omega) hg (fun k' yr' lf' hk' H' hj' => fin k' yr' lf' (by omega) (ot_LSc H' (fun q => ?_)) hj'))
      exact ⟨fun z => z.elim (fun y => Or.inl (Or.inl y)) (fun y => y.elim (fun w => Or.inl (Or.inr w)) (fun w => Or.inr w.1)), fun z => z.elim (fun y => y.elim Or.inl (fun w => Or.inr (Or.inl w))) (fun w => Or.inr (Or.inr ⟨w, b⟩))⟩
    · refine br_f a (fin k yr lf (by omega) (ot_LSc H (fun q => ?_)) hj)
      exact ⟨fun z => z.elim Or.inl (fun y => y.elim Or.inr (fun w => absurd w.2 b)), fun z => z.elim Or.inl (fun w => Or.inr (Or.inl w))⟩
  have key : ∀ fu v k yr lf, v ≤ n → n - v < fu → k ≤ v → ot_LS (ot_fs ne (5 * o) v) k yr lf → ot_ij k lf → wY_findRest_46 post (nI o) (nI f) (nI g) x4 x5 fu (nI v) (nI n) (nI d) (nI m) (nI k) aC aN aE aB aG yl yf ym yb yd yr := by
    intro fu
    induction fu with
    | zero => intro v k yr lf _ h; omega
    | succ fu ih =>
    intro v k yr lf hv hfu hk H hj
    rcases Nat.lt_or_ge v n with z | z
    · have b := hne (5 * o + v)
      have e5 : 5 * nI o + nI v = nI (5 * o + v) := by rw [show 5 * nI o = nI (5 * o) from pk_mul 5 o, nI_add]
      have iv : vp_in (nI (5 * o + v)) 50 := vp_in_nI (by omega) (by omega)
      refine br_f (nI_ge z (by omega)) ?_
      rw [e5]
      refine ⟨iv, ?_⟩
      rw [nI_clamp (by omega), hN _ (by omega)]
      rcases Classical.em (ne (5 * o + v) = 0) with y | y
      · exact br_t ((ot_rvn _ (by omega)).mpr y) (nm_r (nI_1 v) (ih (v + 1) k yr lf (by omega) (by omega) (by omega) (ot_LSc H (ot_fs0 ne (5 * o) v y)) hj))
      · refine br_f (fun q => y ((ot_rvn _ (by omega)).mp q)) ⟨iv, ?_⟩
        have e4 : 4 * nI v + nI (ne (5 * o + v) - 1) = nI (4 * v + (ne (5 * o + v) - 1)) := by rw [show 4 * nI v = nI (4 * v) from pk_mul 4 v, nI_add]
        rw [ot_rvp y, e4]
        exact oy_add H hj (by omega) (by omega) (fun k' yr' lf' hk' H' hj' => nm_r (nI_1 v) (ih (v + 1) k' yr' lf' (by omega) (by omega) (by omega) (ot_LSc H' (ot_fs1 ne (5 * o) v y)) hj'))
    · have e : v = n := by omega
      subst e
      refine br_t (nI_le (Nat.le_refl _) (by omega)) ?_
      rcases hx4 with ⟨a, b⟩ | ⟨a, b⟩
      · refine br_t a (oy_add H hj (by omega) hf (fun k' yr' lf' hk' H' hj' => f105 k' yr' lf' (by omega) (ot_LSc H' (fun q => ?_)) hj'))
        exact ⟨fun z => z.imp id (fun w => w.1), fun z => z.imp id (fun w => ⟨w, b⟩)⟩
      · refine br_f a (f105 k yr lf (by omega) (ot_LSc H (fun q => ?_)) hj)
        exact ⟨fun z => z.elim id (fun w => absurd w.2 b), Or.inl⟩
  exact ⟨n + 1, key (n + 1) 0 0 yr _ (Nat.zero_le _) (by omega) (Nat.le_refl _) (ot_LSc ot_LS0 (fun q => ⟨fun ⟨u, hu, _⟩ => by omega, fun z => z.elim⟩)) (fun i j hi => by omega)⟩
theorem oy_findRest (T : ot_T n d m co ne ef be go aC aN aE aB aG) {o f g : Nat} (ho : o < 10) (hf : f < 20) (hg : g < 20) {rz : Int32} {yr : Nat → Int32} {post : Int32 → SY → Prop}
    (h0 : ¬ ot_bg ef o f g ∨ ot_cs (ot_rs n ne ef o f g) → ∀ rz yr, post 0 (nI n, nI d, nI m, rz, aC, aN, aE, aB, aG, yl, yf, ym, yb, yd, yr)) (h1 : ot_bg ef o f g → ∀ k yr lf, k ≤ 10 → ot_LS (ot_rs n ne ef o f g) k yr lf → ot_nc k lf → post 1 (nI n, nI d, nI m, nI k, aC, aN, aE, aB, aG, yl, yf, ym, yb, yd, yr)) : wpY_findRest post (nI n, nI d, nI m, rz, aC, aN, aE, aB, aG, yl, yf, ym, yb, yd, yr) (nI o) (nI f) (nI g) := by
  unfold wpY_findRest
  have m1 : (-1 : Int32) < 0 := by decide
  have n0 : ¬ (0 : Int32) < 0 := by decide
  have n1 : ¬ (1 : Int32) < 0 := by decide
  refine oy_touch T ho hf (fun a => oy_touch T ho hg (fun c => ?_) (fun c => ?_) (fun c => ?_)) (fun a => oy_touch T ho hg (fun c => ?_) (fun c => ?_) (fun c => ?_)) (fun a => oy_touch T ho hg (fun c => ?_) (fun c => ?_) (fun c => ?_))
  · exact br_f n0 (br_f n0 (br_t rfl (br_t rfl (h0 (Or.inl (fun q => by have := q.2.2; omega)) _ _))))
  · exact br_f n0 (br_f n1 (br_t rfl (br_f ot_01' (oy_fr46 T ho hf hg (Or.inl ⟨rfl, a⟩) (Or.inr ⟨ot_01', by omega⟩) (fun q => h0 (Or.inr q)) (h1 ⟨Or.inl a, Or.inr c, Or.inr c⟩)))))
  · exact br_f n0 (br_t m1 (h0 (Or.inl (fun q => c q.2.1)) _ _))
  · exact br_f n1 (br_f n0 (br_f ot_01' (oy_fr46 T ho hf hg (Or.inr ⟨ot_01', by omega⟩) (Or.inl ⟨rfl, c⟩) (fun q => h0 (Or.inr q)) (h1 ⟨Or.inr a, Or.inl c, Or.inl a⟩))))
  · exact br_f n1 (br_f n1 (br_f ot_01' (oy_fr46 T ho hf hg (Or.inr ⟨ot_01', by omega⟩) (Or.inr ⟨ot_01', by omega⟩) (fun q => h0 (Or.inr q)) (h1 ⟨Or.inr a, Or.inr c, Or.inl a⟩))))
  · exact br_f n1 (br_t m1 (h0 (Or.inl (fun q => c q.2.1)) _ _))
  · exact br_t m1 (h0 (Or.inl (fun q => a q.1)) _ _)
  · exact br_t m1 (h0 (Or.inl (fun q => a q.1)) _ _)
  · exact br_t m1 (h0 (Or.inl (fun q => a q.1)) _ _)
theorem oy_gr23 {S : Nat → Prop} {k i L0 : Nat} {yr : Nat → Int32} {lf b : Nat → Nat} (H : ot_LS S k yr lf) (hk : k ≤ 10) (hB : ot_BD 1000000 b yd) {x1 : Int32} {post : Int32 → Prop} {J : Int32 → Int32 → Prop} (hL : L0 ≤ i) (hi : i < k) (hpr : pr ∨ L0 = i) (hfull : pr → L0 = 0)
    (hJ : ∀ M, M ≤ 1000000 → (∀ i' j, j ≤ i' → i' < k → (pr ∨ j = i') → i' < i + 1 → b (20 * lf i' + lf j) ≤ M) → ot_Mx pr k lf (ot_tr b) M → J (nI M) (nI (i + 1))) :
    ∀ fu j M, L0 ≤ j → j ≤ i + 1 → i + 1 - j < fu → M ≤ 1000000 → (∀ i' j', j' ≤ i' → i' < k → (pr ∨ j' = i') → (i' < i ∨ (i' = i ∧ L0 ≤ j' ∧ j' < j)) → b (20 * lf i' + lf j') ≤ M) → ot_Mx pr k lf (ot_tr b) M → wY_greatestOfRest_23 post J x1 (nI i) (nI n) (nI d) (nI m) (nI k) aC aN aE aB aG yl yf ym yb yd yr fu (nI M) (nI j) := by
  intro fu
  induction fu with
  | zero => intro j M _ _ h; omega
  | succ fu ih =>
  intro j M hij hjL hfu hM h1 h2
  rcases Nat.lt_or_ge i j with z | z
  · refine br_t (nI_lt z (by omega)) (nm_r (nI_1 i) (hJ M hM (fun i' j' a c e g => h1 i' j' a c e ?_) h2))
    rcases Nat.lt_or_ge i' i with y | y
    · exact Or.inl y
    · refine Or.inr ⟨by omega, ?_, by omega⟩
      rcases e with e | e
      · have := hfull e; omega
      · omega
  · have ei := H.1 i hi
    have ej := H.1 j (by omega)
    have e20 : 20 * nI (lf i) + nI (lf j) = nI (20 * lf i + lf j) := by rw [show 20 * nI (lf i) = nI (20 * lf i) from pk_mul 20 (lf i), nI_add]
    have l := hB.1 (20 * lf i + lf j)
    have pj : pr ∨ j = i := hpr.imp id (fun q => by omega)
    refine br_f (nI_nlt z (by omega)) ⟨vp_in_nI (by omega) (by omega), vp_in_nI (by omega) (by omega), ?_⟩
    rw [nI_clamp (n := i) (by omega), nI_clamp (n := j) (by omega), ei.1, ej.1, e20]
    refine ⟨vp_in_nI (by omega) (by omega), nm_r (e' := nI (b (20 * lf i + lf j))) (by rw [nI_clamp (by omega)]; exact hB.2 _ (by omega)) ?_⟩
    rcases Nat.lt_or_ge M (b (20 * lf i + lf j)) with y | y
    · refine br_f (nI_ge y (by omega)) (nm_r (nI_1 j) (ih (j + 1) _ (by omega) (by omega) (by omega) l (fun i' j' a c e g => ?_) (Or.inr ⟨j, i, z, hi, pj, ot_trv b ei.2⟩)))
      rcases Classical.em (i' = i ∧ j' = j) with w | w
      · rw [w.1, w.2]; exact Nat.le_refl _
      · have := h1 i' j' a c e (by omega); omega
    · refine br_t (nI_le y (by omega)) (nm_r (nI_1 j) (ih (j + 1) M (by omega) (by omega) (by omega) hM (fun i' j' a c e g => ?_) h2))
      rcases Classical.em (i' = i ∧ j' = j) with w | w
      · rw [w.1, w.2]; exact y
      · exact h1 i' j' a c e (by omega)
theorem oy_greatest {S : Nat → Prop} {k : Nat} {yr : Nat → Int32} {lf b : Nat → Nat} (H : ot_LS S k yr lf) (hk : k ≤ 10) (hB : ot_BD 1000000 b yd) {x1 : Int32} (hx : ot_mdy x1 pr) {post : Int32 → Prop} (hP : ∀ M, M ≤ 1000000 → ot_GM pr k lf (ot_tr b) M → post (nI M)) : wpY_greatestOfRest post (nI n, nI d, nI m, nI k, aC, aN, aE, aB, aG, yl, yf, ym, yb, yd, yr) x1 := by
  have key : ∀ fu i M, i ≤ k → k - i < fu → M ≤ 1000000 → (∀ i' j, j ≤ i' → i' < k → (pr ∨ j = i') → i' < i → b (20 * lf i' + lf j) ≤ M) → ot_Mx pr k lf (ot_tr b) M → wY_greatestOfRest_4 post x1 (nI n) (nI d) (nI m) (nI k) aC aN aE aB aG yl yf ym yb yd yr fu (nI M) (nI i) := by
    intro fu
    induction fu with
    | zero => intro i M _ h; omega
    | succ fu ih =>
    intro i M hi hfu hM h1 h2
    rcases Nat.lt_or_ge i k with z | z
    · refine br_f (nI_ge z (by omega)) ?_
      rcases hx with ⟨x, p⟩ | ⟨x, p⟩
      · exact br_t x ⟨2, oy_gr23 (pr := pr) (L0 := i) H hk hB (Nat.le_refl _) z (Or.inr rfl) (fun q => absurd q p) (fun M' a b' c => ih (i + 1) M' (by omega) (by omega) a b' c) 2 i M (Nat.le_refl _) (by omega) (by omega) hM (fun i' j' a c e g => h1 i' j' a c e (by omega)) h2⟩
      · exact br_f x ⟨i + 2, oy_gr23 (pr := pr) (L0 := 0) H hk hB (Nat.zero_le _) z (Or.inl p) (fun _ => rfl) (fun M' a b' c => ih (i + 1) M' (by omega) (by omega) a b' c) (i + 2) 0 M (Nat.le_refl _) (by omega) (by omega) hM (fun i' j' a c e g => h1 i' j' a c e (by omega)) h2⟩
    · refine br_t (nI_le z (by omega)) (hP M hM ⟨fun i' j a c e => ?_, h2⟩)
      rw [ot_trv b (H.1 j c).2]
      exact h1 j i' a c e (by omega)
  exact ⟨k + 1, key (k + 1) 0 0 (Nat.zero_le _) (by omega) (Nat.zero_le _) (fun i' j a c e g => by omega) (Or.inl rfl)⟩
end
end
section
/-! bounds: the reference's table whole -/
def ot_AY (n m : Nat) (ne ef co be : Nat → Nat) (pr : Prop) (b : Nat → Nat) : Prop := ∀ p, ot_dm pr p → b p < 1000000 → ot_D (ot_Z n be pr) (ot_H n m ne ef co pr) p (b p)
def ot_NC (b : Nat → Nat) : Prop := ∀ a c, a < 20 → c < 20 → a ≠ c → a / 4 = c / 4 → b (20 * a + c) = 1000000
def ot_th (n d f : Nat) : Prop := f / 4 < n ∧ f % 4 < d
def ot_NV (n d : Nat) (pr : Prop) (b : Nat → Nat) : Prop := ∀ f g, f < 20 → g < 20 → ¬ (ot_th n d f ∧ ot_th n d g ∧ (pr ∨ f = g)) → b (20 * f + g) = 1000000
def ot_BO (n m : Nat) (ne ef co be : Nat → Nat) (pr : Prop) (b0 : Nat → Nat) (f g r : Nat) : Prop := (be (f / 4) = f % 4 → be (g / 4) = g % 4 → r = 0) ∧ ((f = g ∨ f / 4 ≠ g / 4) → ∀ o, o < m → ot_bg ef o f g → ∀ q, (∀ a c, ot_rs n ne ef o f g a → ot_rs n ne ef o f g c → (pr ∨ a = c) → b0 (20 * a + c) ≤ q) → r ≤ q + co o)
def ot_BY (n d m : Nat) (ne ef co be : Nat → Nat) (pr : Prop) (b0 b : Nat → Nat) (p : Nat) (c : Int32) : Prop := ot_AY n m ne ef co be pr b ∧ ot_NC b ∧ ot_NV n d pr b ∧ (∀ q, b q ≤ b0 q) ∧ (c = 0 → b = b0) ∧ (c = 1 → ot_sm b 400 < ot_sm b0 400) ∧ ∀ f g, 20 * f + g < p → f < 20 → g < 20 → ot_th n d f → ot_th n d g → (pr ∨ f = g) → ot_BO n m ne ef co be pr b0 f g (b (20 * f + g))
section
variable {n d m : Nat} {co ne ef be go : Nat → Nat} {aC aN aE aB aG yl yf ym yb yd yr : Nat → Int32} {rz : Int32} {pr : Prop} {b0 b : Nat → Nat}
theorem oy_isB (T : ot_T n d m co ne ef be go aC aN aE aB aG) {f : Nat} (hf : f < 20) {post : Int32 → Prop} (h1 : be (f / 4) = f % 4 → post 1) (h0 : be (f / 4) ≠ f % 4 → post 0) : wpY_isBegin post (nI n, nI d, nI m, rz, aC, aN, aE, aB, aG, yl, yf, ym, yb, yd, yr) (nI f) := by
  obtain ⟨⟨⟨hn1, hn⟩, ⟨hd1, hd⟩, hm⟩, ⟨hC, hco⟩, ⟨hN, hne⟩, ⟨hE, hef⟩, ⟨hB, hbe⟩, ⟨hG, hgo⟩⟩ := T
  have b := hbe (f / 4)
  have e4 : nI f / 4 = nI (f / 4) := pk_div (d := 4) (by omega) (by omega) (by omega)
  have er : nI f - nI f / 4 * 4 = nI (f % 4) := pk_rem (d := 4) (by omega) (by omega) (by omega)
  have ex : aB (nI f / 4).toNatClampNeg = nI (be (f / 4)) := by rw [e4, nI_clamp (by omega), hB _ (by omega)]
  refine ⟨by decide, by rw [e4]; exact vp_in_nI (by omega) (by omega), by decide, ?_⟩
  rw [ex, er]
  rcases Classical.em (be (f / 4) = f % 4) with z | z
  · exact br_t (by rw [z]) (h1 z)
  · exact br_f (fun y => z ((nI_eq (by omega) (by omega)).mp y)) (h0 z)
theorem oy_isT (T : ot_T n d m co ne ef be go aC aN aE aB aG) {f : Nat} (hf : f < 20) {post : Int32 → Prop} (h1 : ot_th n d f → post 1) (h0 : ¬ ot_th n d f → post 0) : wpY_isThere post (nI n, nI d, nI m, rz, aC, aN, aE, aB, aG, yl, yf, ym, yb, yd, yr) (nI f) := by
  obtain ⟨⟨⟨hn1, hn⟩, ⟨hd1, hd⟩, hm⟩, ⟨hC, hco⟩, ⟨hN, hne⟩, ⟨hE, hef⟩, ⟨hB, hbe⟩, ⟨hG, hgo⟩⟩ := T
  have e4 : nI f / 4 = nI (f / 4) := pk_div (d := 4) (by omega) (by omega) (by omega)
  have er : nI f - nI f / 4 * 4 = nI (f % 4) := pk_rem (d := 4) (by omega) (by omega) (by omega)
  refine ⟨by decide, ?_⟩
  rw [er, e4]
  rcases Nat.lt_or_ge (f / 4) n with z | z
  · refine br_f (nI_ge z (by omega)) ⟨by decide, ?_⟩
    rcases Nat.lt_or_ge (f % 4) d with y | y
    · exact br_f (nI_ge y (by omega)) (h1 ⟨z, y⟩)
    · exact br_t (nI_le y (by omega)) (h0 (fun q => by have := q.2; omega))
  · exact br_t (nI_le z (by omega)) (h0 (fun q => by have := q.1; omega))
theorem ot_trD (hn : n ≤ 5) (hd : d ≤ 4) (hne : ∀ j, ne j ≤ d) (hbe : ∀ j, be j < d) (A : ot_AY n m ne ef co be pr b) : ∀ p, ot_dm pr p → ot_tr b p < 1000000 → ot_D (ot_Z n be pr) (ot_H n m ne ef co pr) p (ot_tr b p) := by
  intro p ⟨x, y, hx, hy, hp, e⟩ hl
  subst e
  rw [ot_trv b hy] at hl ⊢
  exact ot_Dsym hn hd hne (fun v _ => hbe v) hy hx (A _ ⟨y, x, hy, hx, ot_prs hp, rfl⟩ hl)
theorem oy_bound (T : ot_T n d m co ne ef be go aC aN aE aB aG) (hBb : ot_BD 1000000 b yd) (A : ot_AY n m ne ef co be pr b) (hN' : ot_NC b) {x1 : Int32} (hx : ot_mdy x1 pr) {f g : Nat} (hf : f < 20) (hg : g < 20) (tf : ot_th n d f) (tg : ot_th n d g) (hp : pr ∨ f = g) {post : Int32 → SY → Prop} (hP : ∀ r rz yr, r ≤ 1000000 → (r < 1000000 → ot_D (ot_Z n be pr) (ot_H n m ne ef co pr) (20 * f + g) r) → (f ≠ g → f / 4 = g / 4 → r = 1000000) → ot_BO n m ne ef co be pr b f g r → post (nI r) (nI n, nI d, nI m, rz, aC, aN, aE, aB, aG, yl, yf, ym, yb, yd, yr)) : wpY_boundOf post (nI n, nI d, nI m, rz, aC, aN, aE, aB, aG, yl, yf, ym, yb, yd, yr) (nI f) (nI g) x1 := by
  have T0 := T
  obtain ⟨⟨⟨hn1, hn⟩, ⟨hd1, hd⟩, hm⟩, ⟨hC, hco⟩, ⟨hN, hne⟩, ⟨hE, hef⟩, ⟨hB, hbe⟩, ⟨hG, hgo⟩⟩ := T
  have f4 : f < 4 * n := by have := tf.1; omega
  have g4 : g < 4 * n := by have := tg.1; omega
  have e4f : nI f / 4 = nI (f / 4) := pk_div (d := 4) (by omega) (by omega) (by omega)
  have e4g : nI g / 4 = nI (g / 4) := pk_div (d := 4) (by omega) (by omega) (by omega)
  have key : (f = g ∨ f / 4 ≠ g / 4) → ¬ (be (f / 4) = f % 4 ∧ be (g / 4) = g % 4) → ∀ fu o r rz yr, o ≤ m → m - o < fu → r ≤ 1000000 → (r < 1000000 → ot_D (ot_Z n be pr) (ot_H n m ne ef co pr) (20 * f + g) r) → (∀ o', o' < o → ot_bg ef o' f g → ∀ q, (∀ a c, ot_rs n ne ef o' f g a → ot_rs n ne ef o' f g c → (pr ∨ a = c) → b (20 * a + c) ≤ q) → r ≤ q + co o') → wY_boundOf_42 post (nI f) (nI g) x1 fu (nI r) (nI o) (nI n) (nI d) (nI m) rz aC aN aE aB aG yl yf ym yb yd yr := by
    intro hxx hnb fu
    induction fu with
    | zero => intro o r rz yr _ h; omega
    | succ fu ih =>
    intro o r rz yr ho hfu hr hD hS
    rcases Nat.lt_or_ge o m with z | z
    · have c9 := hco o
      have hS' : ∀ r', r' ≤ r → (ot_bg ef o f g → ∀ q, (∀ a c, ot_rs n ne ef o f g a → ot_rs n ne ef o f g c → (pr ∨ a = c) → b (20 * a + c) ≤ q) → r' ≤ q + co o) → ∀ o', o' < o + 1 → ot_bg ef o' f g → ∀ q, (∀ a c, ot_rs n ne ef o' f g a → ot_rs n ne ef o' f g c → (pr ∨ a = c) → b (20 * a + c) ≤ q) → r' ≤ q + co o' := fun r' hr' h1 o' ho' hb q hq => by
        rcases Nat.lt_or_ge o' o with y | y
        · exact Nat.le_trans hr' (hS o' y hb q hq)
        · have e : o' = o := by omega
          subst e
          exact h1 hb q hq
      refine br_f (nI_ge z (by omega)) (oy_findRest T0 (by omega) hf hg (fun h0 rz yr => br_t rfl (nm_r (nI_1 o) (ih (o + 1) r rz yr (by omega) (by omega) hr hD (hS' r (Nat.le_refl _) (fun hb q hq => ?_))))) (fun hb k yr lf hk H _ => br_f ot_01' ⟨vp_in_nI (by omega) (by omega), ?_⟩))
      · rcases h0 with h0 | ⟨a, c, ha, hc, hac, e4⟩
        · exact absurd hb h0
        · have a4 := ot_rs20 hn hd hne f4 g4 ha
          have c4 := ot_rs20 hn hd hne f4 g4 hc
          rcases hp with p | p
          · have := hq a c ha hc (Or.inl p)
            rw [hN' a c (by omega) (by omega) hac e4] at this
            omega
          · subst p
            exfalso
            have hfe : ef (5 * o + f / 4) ≠ 0 := by
              have := hb.2.2
              omega
            rcases ha with ⟨v, hv, v0, ev⟩ | y | y
            · rcases hc with ⟨u, hu, u0, eu⟩ | y | y
              · have n1 := hne (5 * o + v)
                have n2 := hne (5 * o + u)
                have : v = u := by omega
                subst this
                omega
              · exact hfe y.2
              · exact hfe y.2
            · exact hfe y.2
            · exact hfe y.2
      · refine oy_greatest (pr := pr) H hk hBb hx (fun M hM G => ?_)
        have le : ∀ q, (∀ a c, ot_rs n ne ef o f g a → ot_rs n ne ef o f g c → (pr ∨ a = c) → b (20 * a + c) ≤ q) → M ≤ q := fun q hq => ot_GMle (b := ot_tr b) (b0 := ot_tr b) H G (fun _ => Nat.le_refl _) (fun a c ha hc hac => by
          have c4 := ot_rs20 hn hd hne f4 g4 hc
          rw [ot_trv b (by omega)]
          exact hq c a hc ha (ot_prs hac))
        refine nm_r (e' := nI (co o + M)) (by rw [nI_clamp (by omega), hC o (by omega), nI_add]) ?_
        rcases Nat.lt_or_ge (co o + M) r with y | y
        · refine br_f (nI_ge y (by omega)) (nm_r (nI_1 o) (ih (o + 1) (co o + M) (nI k) yr (by omega) (by omega) (by omega) (fun _ => ?_) (hS' _ (by omega) (fun _ q hq => by have := le q hq; omega))))
          rw [Nat.add_comm (co o) M]
          exact ot_Dh (Q := fun q => ∃ a c, ot_rs n ne ef o f g a ∧ ot_rs n ne ef o f g c ∧ (pr ∨ a = c) ∧ q = 20 * a + c) ⟨o, f, g, z, f4, g4, rfl, hp, hxx, hb, rfl, rfl⟩ (fun q ⟨a, c, ha, hc, hac, e⟩ => by
            rw [e]
            exact ot_GMD (b := ot_tr b) (I := 1000000) hn hd hne hbe H G (by omega) (ot_trD hn hd hne hbe A) ha hc hac)
        · exact br_t (nI_le y (by omega)) (nm_r (nI_1 o) (ih (o + 1) r (nI k) yr (by omega) (by omega) hr hD (hS' r (Nat.le_refl _) (fun _ q hq => by have := le q hq; omega))))
    · exact br_t (nI_le z (by omega)) (hP r rz yr hr hD (fun h1 h2 => absurd h2 (hxx.elim (fun e => absurd e h1) id)) ⟨fun h1 h2 => absurd ⟨h1, h2⟩ hnb, fun _ o' ho' hb q hq => hS o' (by omega) hb q hq⟩)
  have start : (f = g ∨ f / 4 ≠ g / 4) → ¬ (be (f / 4) = f % 4 ∧ be (g / 4) = g % 4) → ∃ n42 : Nat, wY_boundOf_42 post (nI f) (nI g) x1 n42 1000000 0 (nI n) (nI d) (nI m) rz aC aN aE aB aG yl yf ym yb yd yr := fun h1 h2 => ⟨m + 1, key h1 h2 (m + 1) 0 1000000 rz yr (Nat.zero_le _) (by omega) (Nat.le_refl _) (fun q => by omega) (fun o' ho' => by omega)⟩
  have s17 : (f = g ∨ f / 4 ≠ g / 4) → wY_boundOf_17 post (nI f) (nI g) x1 (nI n) (nI d) (nI m) rz aC aN aE aB aG yl yf ym yb yd yr := fun h1 => by
    refine oy_isB T0 hf (fun a => br_f ot_01' (oy_isB T0 hg (fun c => br_f ot_01' ?_) (fun c => br_t rfl (start h1 (fun q => c q.2))))) (fun a => br_t rfl (start h1 (fun q => a q.1)))
    refine hP 0 rz yr (Nat.zero_le _) (fun _ => ot_Dz 0 ⟨f / 4, g / 4, tf.1, tg.1, hp.imp id (fun e => by rw [e]), by rw [a, c]; omega⟩) (fun h2 h3 => ?_) ⟨fun _ _ => rfl, fun _ o' _ _ q _ => Nat.zero_le _⟩
    rw [h3] at a
    omega
  rcases Classical.em (f = g) with z | z
  · exact br_t (by rw [z]) (s17 (Or.inl z))
  · refine br_f (fun e => z ((nI_eq (by omega) (by omega)).mp e)) ⟨by decide, by decide, ?_⟩
    rw [e4f, e4g]
    rcases Classical.em (f / 4 = g / 4) with y | y
    · refine br_t (by rw [y]) (hP 1000000 rz yr (Nat.le_refl _) (fun q => by omega) (fun _ _ => rfl) ⟨fun h1 h2 => ?_, fun h1 => absurd y (h1.elim (fun e => absurd e z) id)⟩)
      rw [y] at h1
      omega
    · exact br_f (fun e => y ((nI_eq (by omega) (by omega)).mp e)) (s17 (Or.inr y))
theorem oy_fb33 (T : ot_T n d m co ne ef be go aC aN aE aB aG) {x1 : Int32} (hx : ot_mdy x1 pr) {post : SY → Prop} {J : Int32 → Int32 → Int32 → Int32 → Int32 → (Nat → Int32) → (Nat → Int32) → (Nat → Int32) → (Nat → Int32) → (Nat → Int32) → (Nat → Int32) → (Nat → Int32) → (Nat → Int32) → (Nat → Int32) → (Nat → Int32) → (Nat → Int32) → Prop}
    (hJ : ∀ c rz yd yr b, (c = 0 ∨ c = 1) → ot_BD 1000000 b yd → ot_BY n d m ne ef co be pr b0 b 400 c → J c (nI n) (nI d) (nI m) rz aC aN aE aB aG yl yf ym yb yd yr) :
    ∀ fu p c rz yd yr b, p ≤ 400 → 400 - p < fu → (c = 0 ∨ c = 1) → ot_BD 1000000 b yd → ot_BY n d m ne ef co be pr b0 b p c → wY_findBounds_33 post J x1 fu c (nI p) (nI n) (nI d) (nI m) rz aC aN aE aB aG yl yf ym yb yd yr := by
  have T0 := T
  obtain ⟨⟨⟨hn1, hn⟩, ⟨hd1, hd⟩, hm⟩, ⟨hC, hco⟩, ⟨hN, hne⟩, ⟨hE, hef⟩, ⟨hB, hbe⟩, ⟨hG, hgo⟩⟩ := T
  intro fu
  induction fu with
  | zero => intro p c rz yd yr b _ h; omega
  | succ fu ih =>
  intro p c rz yd yr b hp4 hfu hc hBb B
  rcases Nat.lt_or_ge p 400 with z | z
  · have ed : nI p / 20 = nI (p / 20) := pk_div (d := 20) (by omega) (by omega) (by omega)
    have er : nI p - nI p / 20 * 20 = nI (p % 20) := pk_rem (d := 20) (by omega) (by omega) (by omega)
    have iv : vp_in (nI p) 400 := vp_in_nI z (by omega)
    have cp : (nI p).toNatClampNeg = p := nI_clamp (by omega)
    have pe : 20 * (p / 20) + p % 20 = p := by omega
    have fin : ∀ r rz yr, r ≤ 1000000 → (r < 1000000 → ot_D (ot_Z n be pr) (ot_H n m ne ef co pr) p r ∧ ot_th n d (p / 20) ∧ ot_th n d (p % 20) ∧ (pr ∨ p / 20 = p % 20)) → (p / 20 ≠ p % 20 → p / 20 / 4 = p % 20 / 4 → r = 1000000) → (ot_th n d (p / 20) → ot_th n d (p % 20) → (pr ∨ p / 20 = p % 20) → ot_BO n m ne ef co be pr b (p / 20) (p % 20) r) → wY_findBounds_107 post J (wY_findBounds_33 post J x1 fu) x1 c (nI p) (nI r) (nI n) (nI d) (nI m) rz aC aN aE aB aG yl yf ym yb yd yr := fun r rz yr hr hD hsv hBO => by
      have bl := hBb.1 p
      have proc : ∀ b' : Nat → Nat, (∀ q, b' q ≤ b q) → b' p ≤ r → ∀ f g, 20 * f + g < p + 1 → f < 20 → g < 20 → ot_th n d f → ot_th n d g → (pr ∨ f = g) → ot_BO n m ne ef co be pr b0 f g (b' (20 * f + g)) := fun b' hle hpr' f g h1 h2 h3 h4 h5 h6 => by
        have down : ∀ r1 r2, r2 ≤ r1 → ot_BO n m ne ef co be pr b0 f g r1 → ot_BO n m ne ef co be pr b0 f g r2 := fun r1 r2 hr12 q => ⟨fun a1 a2 => by have := q.1 a1 a2; omega, fun a1 o ho hb k hk => Nat.le_trans hr12 (q.2 a1 o ho hb k hk)⟩
        rcases Classical.em (20 * f + g = p) with y | y
        · have ef' : p / 20 = f := by omega
          have eg' : p % 20 = g := by omega
          rw [ef', eg'] at hBO
          have q := hBO h4 h5 h6
          rw [y]
          exact down r _ hpr' ⟨q.1, fun a1 o ho hb k hk => q.2 a1 o ho hb k (fun a c ha hc hac => Nat.le_trans (B.2.2.2.1 _) (hk a c ha hc hac))⟩
        · exact down _ _ (hle _) (B.2.2.2.2.2.2 f g (by omega) h2 h3 h4 h5 h6)
      have keep : b p ≤ r → wY_findBounds_33 post J x1 fu c (nI (p + 1)) (nI n) (nI d) (nI m) rz aC aN aE aB aG yl yf ym yb (upd yd p (yd p)) yr := fun hle => by
        refine ih (p + 1) c rz _ yr b (by omega) (by omega) hc ⟨hBb.1, fun q hq => ?_⟩ ⟨B.1, B.2.1, B.2.2.1, B.2.2.2.1, B.2.2.2.2.1, B.2.2.2.2.2.1, proc b (fun _ => Nat.le_refl _) hle⟩
        rcases Classical.em (q = p) with e | e
        · rw [e, pk_us]; exact hBb.2 p z
        · rw [pk_un e]; exact hBb.2 q hq
      have lower : r < b p → wY_findBounds_33 post J x1 fu 1 (nI (p + 1)) (nI n) (nI d) (nI m) rz aC aN aE aB aG yl yf ym yb (upd yd p (nI r)) yr := fun hlt => by
        have q := hD (by omega)
        have hle := ot_ule (w := b) (s := p) (Nat.le_of_lt hlt)
        refine ih (p + 1) 1 rz _ yr (ot_up b p r) (by omega) (by omega) (Or.inr rfl) (ot_BDup hBb hr) ⟨fun p' hdm hp' => ?_, fun a c ha hc hac e4 => ?_, fun f g hf hg hno => ?_, fun q' => Nat.le_trans (hle q') (B.2.2.2.1 q'), fun q' => absurd q' ot_01', fun _ => ?_, proc _ hle (by rw [ot_us]; exact Nat.le_refl _)⟩
        · rcases Classical.em (p' = p) with e | e
          · rw [e, ot_us]; exact q.1
          · rw [ot_un e] at hp' ⊢; exact B.1 p' hdm hp'
        · rcases Classical.em (20 * a + c = p) with e | e
          · have e1 : p / 20 = a := by omega
            have e2 : p % 20 = c := by omega
            rw [e1, e2] at hsv
            have := hsv hac e4
            omega
          · rw [ot_un e]; exact B.2.1 a c ha hc hac e4
        · rcases Classical.em (20 * f + g = p) with e | e
          · have e1 : p / 20 = f := by omega
            have e2 : p % 20 = g := by omega
            rw [e1, e2] at q
            exact absurd ⟨q.2.1, q.2.2.1, q.2.2.2⟩ hno
          · rw [ot_un e]; exact B.2.2.1 f g hf hg hno
        · have l1 := ot_smlt (w := b) (w' := ot_up b p r) hle (a := p) (by rw [ot_us]; exact hlt) 400 z
          have l2 := ot_smle B.2.2.2.1 400
          omega
      have yp := hBb.2 p z
      have f129 : ∀ c', (b p ≤ r → c' = c) → (r < b p → c' = 1) → wY_findBounds_129 post J (wY_findBounds_33 post J x1 fu) x1 (nI p) (nI r) c' (nI n) (nI d) (nI m) rz aC aN aE aB aG yl yf ym yb yd yr := fun c' h1 h2 => by
        refine ⟨iv, ?_⟩
        rw [cp, yp]
        rcases Nat.lt_or_ge r (b p) with y | y
        · have e := h2 y
          subst e
          exact br_f (nI_ge y (by omega)) ⟨iv, nm_e (nm_r (nI_1 p) (lower y))⟩
        · have e := h1 y
          subst e
          have kk := keep y
          rw [yp] at kk
          exact br_t (nI_le y (by omega)) ⟨iv, iv, nm_e (nm_r (nI_1 p) kk)⟩
      rcases hc with q | q
      · subst q
        refine br_t rfl ⟨iv, ?_⟩
        rw [cp, yp]
        rcases Nat.lt_or_ge r (b p) with y | y
        · exact br_f (nI_ge y (by omega)) (f129 1 (fun w => by omega) (fun _ => rfl))
        · exact br_t (nI_le y (by omega)) (f129 0 (fun _ => rfl) (fun w => by omega))
      · subst q
        exact br_f ot_01' (f129 1 (fun _ => rfl) (fun _ => rfl))
    have notw : ¬ (ot_th n d (p / 20) ∧ ot_th n d (p % 20) ∧ (pr ∨ p / 20 = p % 20)) → wY_findBounds_85 post J (wY_findBounds_33 post J x1 fu) x1 c (nI p) (nI (p / 20)) (nI (p % 20)) (nI n) (nI d) (nI m) rz aC aN aE aB aG yl yf ym yb yd yr := fun hno => br_t rfl (fin 1000000 rz yr (Nat.le_refl _) (fun q => by omega) (fun _ _ => rfl) (fun a1 a2 a3 => absurd ⟨a1, a2, a3⟩ hno))
    have want : ot_th n d (p / 20) → ot_th n d (p % 20) → (pr ∨ p / 20 = p % 20) → wY_findBounds_81 post J (wY_findBounds_33 post J x1 fu) x1 c (nI p) (nI (p / 20)) (nI (p % 20)) (nI n) (nI d) (nI m) rz aC aN aE aB aG yl yf ym yb yd yr := fun a1 a2 a3 => br_f ot_01' (oy_bound T0 hBb B.1 B.2.1 hx (by omega) (by omega) a1 a2 a3 (fun r rz yr hr hD hsv hBO => by
      rw [pe] at hD
      exact fin r rz yr hr (fun q => ⟨hD q, a1, a2, a3⟩) hsv (fun _ _ _ => hBO)))
    refine br_f (nI_ge (b := 400) z (by decide)) ⟨by decide, nm_r ed ⟨by decide, nm_r er ?_⟩⟩
    refine oy_isT T0 (by omega) (fun a1 => br_f ot_01' (oy_isT T0 (by omega) (fun a2 => br_f ot_01' ?_) (fun a2 => br_t rfl (notw (fun q => a2 q.2.1))))) (fun a1 => br_t rfl (notw (fun q => a1 q.1)))
    rcases hx with ⟨x, pn⟩ | ⟨x, pp⟩
    · refine br_t x ?_
      rcases Classical.em (p / 20 = p % 20) with y | y
      · exact br_t (by rw [y]) (want a1 a2 (Or.inr y))
      · exact br_f (fun e => y ((nI_eq (by omega) (by omega)).mp e)) (notw (fun q => q.2.2.elim pn y))
    · exact br_f x (want a1 a2 (Or.inl pp))
  · have e : p = 400 := by omega
    subst e
    exact br_t (nI_le (a := 400) (Nat.le_refl _) (by omega)) (hJ c rz yd yr b hc hBb B)
theorem ot_LBy (T : ot_T n d m co ne ef be go aC aN aE aB aG) (hI : ∀ p, b p ≤ 1000000) (B : ot_BY n d m ne ef co be pr b b 400 0) : ot_LB (ot_Z n be pr) (ot_H n m ne ef co pr) b := by
  obtain ⟨⟨⟨hn1, hn⟩, ⟨hd1, hd⟩, hm⟩, ⟨hC, hco⟩, ⟨hN, hne⟩, ⟨hE, hef⟩, ⟨hB, hbe⟩, ⟨hG, hgo⟩⟩ := T
  refine ot_LBs (fun p hz => ?_) (fun p c Q k hH hq => ?_)
  · obtain ⟨v, u, hv, hu, hp, e⟩ := hz
    have b1 := hbe v
    have b2 := hbe u
    have v4 : (4 * v + be v) / 4 = v := by omega
    have v5 : (4 * v + be v) % 4 = be v := by omega
    have u4 : (4 * u + be u) / 4 = u := by omega
    have u5 : (4 * u + be u) % 4 = be u := by omega
    have q := B.2.2.2.2.2.2 (4 * v + be v) (4 * u + be u) (by omega) (by omega) (by omega) ⟨by omega, by omega⟩ ⟨by omega, by omega⟩ (hp.imp id (fun e => by rw [e]))
    rw [e]
    refine q.1 ?_ ?_
    · rw [v4, v5]
    · rw [u4, u5]
  · obtain ⟨o, f, g, ho, hf, hg, e, hp, hx, hb, hc, hQ⟩ := hH
    subst e hc hQ
    have i9 := hI (20 * f + g)
    have bad : ∀ x, x < 4 * n → ot_rs n ne ef o f g x → d ≤ x % 4 → b (20 * f + g) ≤ k + co o := fun x hx4 hr hd' => by
      have q := hq _ ⟨x, x, hr, hr, Or.inr rfl, rfl⟩
      rw [B.2.2.1 x x (by omega) (by omega) (fun w => by have := w.1.2; omega)] at q
      omega
    rcases Nat.lt_or_ge (f % 4) d with y | y
    · rcases Nat.lt_or_ge (g % 4) d with w | w
      · exact (B.2.2.2.2.2.2 f g (by omega) (by omega) (by omega) ⟨by omega, y⟩ ⟨by omega, w⟩ hp).2 hx o ho hb k (fun a c ha hc hac => hq _ ⟨a, c, ha, hc, hac, rfl⟩)
      · have ee := hef (5 * o + g / 4)
        exact bad g hg (Or.inr (Or.inr ⟨rfl, hb.2.1.elim id (fun q => by omega)⟩)) w
    · have ee := hef (5 * o + f / 4)
      exact bad f hf (Or.inr (Or.inl ⟨rfl, hb.1.elim id (fun q => by omega)⟩)) y
theorem oy_findB (T : ot_T n d m co ne ef be go aC aN aE aB aG) {x1 : Int32} (hx : ot_mdy x1 pr) {post : SY → Prop} (h : ∀ rz yd yr b, ot_BD 1000000 b yd → ot_AY n m ne ef co be pr b → ot_LB (ot_Z n be pr) (ot_H n m ne ef co pr) b → post (nI n, nI d, nI m, rz, aC, aN, aE, aB, aG, yl, yf, ym, yb, yd, yr)) : wpY_findBounds post (nI n, nI d, nI m, rz, aC, aN, aE, aB, aG, yl, yf, ym, yb, yd, yr) x1 := by
  have T0 := T
  obtain ⟨⟨⟨hn1, hn⟩, ⟨hd1, hd⟩, hm⟩, ⟨hC, hco⟩, ⟨hN, hne⟩, ⟨hE, hef⟩, ⟨hB, hbe⟩, ⟨hG, hgo⟩⟩ := T
  have key : ∀ fu c rz yd yr b, (c = 0 ∨ c = 1) → ot_sm b 400 + (if c = 0 then 0 else 1) < fu → (c = 0 → ot_LB (ot_Z n be pr) (ot_H n m ne ef co pr) b) → ot_BD 1000000 b yd → ot_AY n m ne ef co be pr b → ot_NC b → ot_NV n d pr b → wY_findBounds_25 post x1 fu c (nI n) (nI d) (nI m) rz aC aN aE aB aG yl yf ym yb yd yr := by
    intro fu
    induction fu with
    | zero => intro c rz yd yr b _ h; omega
    | succ fu ih =>
    intro c rz yd yr b hc hfu hL hBb A C V
    rcases hc with z | z
    · exact br_t z (h rz yd yr b hBb A (hL z))
    · subst z
      rw [if_neg ot_01'] at hfu
      refine br_f ot_01' ⟨401, oy_fb33 (b0 := b) T0 hx (fun c' rz' yd' yr' b' hc' hBb' B' => ?_) 401 0 0 rz yd yr b (by omega) (by omega) (Or.inl rfl) hBb ⟨A, C, V, fun _ => Nat.le_refl _, fun _ => rfl, fun q => absurd q ot_01, fun f g q => by omega⟩⟩
      rcases hc' with q | q
      · subst q
        have e := B'.2.2.2.2.1 rfl
        subst e
        exact ih 0 rz' yd' yr' b' (Or.inl rfl) (by rw [if_pos rfl]; omega) (fun _ => ot_LBy T0 hBb'.1 B') hBb' B'.1 B'.2.1 B'.2.2.1
      · subst q
        have := B'.2.2.2.2.2.1 rfl
        exact ih 1 rz' yd' yr' b' (Or.inr rfl) (by rw [if_neg ot_01']; omega) (fun q => absurd q ot_01') hBb' B'.1 B'.2.1 B'.2.2.1
  refine loop_0 (fun fu p (yd : Nat → Int32) => wY_findBounds_2 post x1 (nI n) (nI d) (nI m) rz fu (nI p) aC aN aE aB aG yl yf ym yb yd yr) (fun p yd => ∀ q, q < p → yd q = 1000000) 400 yd (fun q hq => by omega) ?_ ?_
  · intro fu yd hI
    refine br_t (by decide) ⟨_, key (ot_sm (fun _ => 1000000) 400 + 2) 1 rz yd yr (fun _ => 1000000) (Or.inr rfl) (by rw [if_neg ot_01']; omega) (fun q => absurd q ot_01') ⟨fun _ => Nat.le_refl _, fun p hp => hI p hp⟩ (fun p _ q => absurd q (Nat.lt_irrefl _)) (fun _ _ _ _ _ _ => rfl) (fun _ _ _ _ _ => rfl)⟩
  · intro fu p yd hp hI ih
    exact br_f (nI_ge (b := 400) hp (by decide)) ⟨vp_in_nI hp (by omega), nm_r (e' := upd yd p 1000000) (by rw [nI_clamp (by omega)]) (nm_r (nI_1 p) (ih _ (lt_s (fun q hq => by rw [pk_un (by omega)]; exact hI q hq) pk_us)))⟩
end
end
section
/-! single, singleGoal, paired, pairedGoal -/
theorem ox_orN {x : Nat} (hx : x ≤ 1000000000) {post : Int32 → Prop} (h1 : x < 1000000000 → post (nI x)) (h0 : ¬ x < 1000000000 → post (-3)) : wpX_orNone post (nI x) := by
  rcases Nat.lt_or_ge x 1000000000 with z | z
  · exact br_t (nI_lt (b := 1000000000) z (by decide)) (h1 z)
  · exact br_f (nI_nlt (b := 1000000000) z (by omega)) (h0 (by omega))
theorem ot_m1 : ot_md 1 False := Or.inl ⟨rfl, fun z => z⟩
theorem ot_m2 : ot_md 2 True := Or.inr ⟨by decide, trivial⟩
theorem ot_y0 : ot_mdy 0 False := Or.inl ⟨rfl, fun z => z⟩
theorem ot_y1 : ot_mdy 1 True := Or.inr ⟨by decide, trivial⟩
theorem ot_GMx {S : Nat → Prop} {pr : Prop} {k M : Nat} {ls : Nat → Int32} {lf b : Nat → Nat} (H : ot_LS S k ls lf) (G : ot_GM pr k lf b M) : (∀ a c, S a → S c → (pr ∨ a = c) → b (20 * a + c) ≤ M ∨ b (20 * c + a) ≤ M) ∧ (M = 0 ∨ ∃ a c, S a ∧ S c ∧ (pr ∨ a = c) ∧ b (20 * a + c) = M) := by
  refine ⟨fun a c ha hc hac => ?_, ?_⟩
  · obtain ⟨i, hi, rfl⟩ := (H.2 _).mp ha
    obtain ⟨j, hj, rfl⟩ := (H.2 _).mp hc
    rcases hac with p | p
    · rcases Nat.lt_or_ge j i with z | z
      · exact Or.inr (G.1 j i (by omega) hi (Or.inl p))
      · exact Or.inl (G.1 i j z hj (Or.inl p))
    · rw [← p]
      exact Or.inl (G.1 i i (Nat.le_refl _) hi (Or.inr rfl))
  · rcases G.2 with z | ⟨i, j, h1, h2, h3, h4⟩
    · exact Or.inl z
    · exact Or.inr ⟨lf i, lf j, (H.2 _).mpr ⟨i, by omega, rfl⟩, (H.2 _).mpr ⟨j, h2, rfl⟩, h3.imp id (fun e => by rw [e]), h4⟩
theorem ot_goals {S : Nat → Prop} {pr : Prop} {k k' M M' : Nat} {ls yr : Nat → Int32} {lf lf' b b' : Nat → Nat} (H : ot_LS S k ls lf) (G : ot_GM pr k lf b M) (H' : ot_LS S k' yr lf') (G' : ot_GM pr k' lf' (ot_tr b') M') (sy : ot_Sy b)
    (e : ∀ p, ot_dm pr p → (b p < 1000000000 → b' p = b p ∧ b p ≤ 3600) ∧ (¬ b p < 1000000000 → ¬ b' p < 1000000)) : (M < 1000000000 → M' = M ∧ M ≤ 3600) ∧ (¬ M < 1000000000 → ¬ M' < 1000000) := by
  have x := ot_GMx H G
  have y := ot_GMx H' G'
  have s20 : ∀ a, S a → a < 20 := fun a ha => by
    obtain ⟨i, hi, q⟩ := (H.2 a).mp ha
    rw [← q]; exact (H.1 i hi).2
  have xle : ∀ a c, S a → S c → (pr ∨ a = c) → b (20 * a + c) ≤ M := fun a c ha hc hac => by
    rcases x.1 a c ha hc hac with q | q
    · exact q
    · rw [sy a c (s20 a ha) (s20 c hc)]; exact q
  have yge : ∀ a c, S a → S c → (pr ∨ a = c) → b' (20 * a + c) ≤ M' ∨ b' (20 * c + a) ≤ M' := fun a c ha hc hac => by
    have q := y.1 a c ha hc hac
    rw [ot_trv b' (s20 c hc), ot_trv b' (s20 a ha)] at q
    exact q.symm
  have dm : ∀ a c, S a → S c → (pr ∨ a = c) → ot_dm pr (20 * a + c) := fun a c ha hc hac => ⟨a, c, s20 a ha, s20 c hc, hac, rfl⟩
  constructor
  · intro hM
    have up : M' ≤ M := by
      rcases y.2 with q | ⟨a, c, ha, hc, hac, q⟩
      · omega
      · rw [ot_trv b' (s20 c hc)] at q
        have l := xle c a hc ha (ot_prs hac)
        have q2 := (e _ (dm c a hc ha (ot_prs hac))).1 (by omega)
        omega
    rcases x.2 with q | ⟨a, c, ha, hc, hac, q⟩
    · omega
    · have q2 := (e _ (dm a c ha hc hac)).1 (by omega)
      have s := sy a c (s20 a ha) (s20 c hc)
      have q3 := (e _ (dm c a hc ha (ot_prs hac))).1 (by omega)
      rcases yge a c ha hc hac with w | w
      · omega
      · omega
  · intro hM hM'
    rcases x.2 with q | ⟨a, c, ha, hc, hac, q⟩
    · omega
    · have q2 := (e _ (dm a c ha hc hac)).2 (by omega)
      have s := sy a c (s20 a ha) (s20 c hc)
      have q3 := (e _ (dm c a hc ha (ot_prs hac))).2 (by omega)
      rcases yge a c ha hc hac with w | w
      · omega
      · omega
section
variable {n d m : Nat} {co ne ef be go : Nat → Nat} {aC aN aE aB aG od sn mv rm bd ls ah yl yf ym yb yd yr : Nat → Int32} {mt lc rz : Int32} {pr : Prop}
theorem oy_told {x : Nat} (hx : x ≤ 1000000) {post : Int32 → Prop} (h1 : x < 1000000 → post (nI x)) (h0 : ¬ x < 1000000 → post (-3)) : wpY_told post (nI n, nI d, nI m, rz, aC, aN, aE, aB, aG, yl, yf, ym, yb, yd, yr) (nI x) := by
  rcases Nat.lt_or_ge x 1000000 with z | z
  · exact br_t (nI_lt (b := 1000000) z (by decide)) (h1 z)
  · exact br_f (nI_nlt (b := 1000000) z (by omega)) (h0 (by omega))
theorem oy_gg (T : ot_T n d m co ne ef be go aC aN aE aB aG) {x1 : Int32} (hx : ot_mdy x1 pr) {b : Nat → Nat} (hBb : ot_BD 1000000 b yd) {post : Int32 → SY → Prop} (h : ∀ M rz yr k yr' lf, M ≤ 1000000 → ot_LS (ot_fs go 0 n) k yr' lf → ot_GM pr k lf (ot_tr b) M → ∀ r, (M < 1000000 → r = nI M) → (¬ M < 1000000 → r = -3) → post r (nI n, nI d, nI m, rz, aC, aN, aE, aB, aG, yl, yf, ym, yb, yd, yr)) : ∃ n12 : Nat, wY_greatestGoal_12 post x1 n12 0 (nI n) (nI d) (nI m) 0 aC aN aE aB aG yl yf ym yb yd yr := by
  obtain ⟨⟨⟨hn1, hn⟩, ⟨hd1, hd⟩, hm⟩, ⟨hC, hco⟩, ⟨hN, hne⟩, ⟨hE, hef⟩, ⟨hB, hbe⟩, ⟨hG, hgo⟩⟩ := T
  have key : ∀ fu v k yr lf, v ≤ n → n - v < fu → k ≤ v → ot_LS (ot_fs go 0 v) k yr lf → ot_ij k lf → wY_greatestGoal_12 post x1 fu (nI v) (nI n) (nI d) (nI m) (nI k) aC aN aE aB aG yl yf ym yb yd yr := by
    intro fu
    induction fu with
    | zero => intro v k yr lf _ h; omega
    | succ fu ih =>
    intro v k yr lf hv hfu hk H hj
    rcases Nat.lt_or_ge v n with z | z
    · have b := hgo v
      have z0 : 0 + v = v := Nat.zero_add v
      have iv : vp_in (nI v) 5 := vp_in_nI (by omega) (by omega)
      refine br_f (nI_ge z (by omega)) ⟨iv, ?_⟩
      rw [nI_clamp (by omega), hG _ (by omega)]
      rcases Classical.em (go v = 0) with y | y
      · exact br_t ((ot_rvn _ (by omega)).mpr y) (nm_r (nI_1 v) (ih (v + 1) k yr lf (by omega) (by omega) (by omega) (ot_LSc H (ot_fs0 go 0 v (by rw [z0]; exact y))) hj))
      · refine br_f (fun q => y ((ot_rvn _ (by omega)).mp q)) ⟨iv, ?_⟩
        have e4 : 4 * nI v + nI (go v - 1) = nI (4 * v + (go v - 1)) := by rw [show 4 * nI v = nI (4 * v) from pk_mul 4 v, nI_add]
        have f1 := ot_fs1 go 0 v (by rw [z0]; exact y)
        rw [z0] at f1
        rw [ot_rvp y, e4]
        exact oy_add H hj (by omega) (by omega) (fun k' yr' lf' hk' H' hj' => nm_r (nI_1 v) (ih (v + 1) k' yr' lf' (by omega) (by omega) (by omega) (ot_LSc H' f1) hj'))
    · have e : v = n := by omega
      subst e
      refine br_t (nI_le (Nat.le_refl _) (by omega)) (oy_greatest (pr := pr) H (by omega) hBb hx (fun M hM G => oy_told hM (fun q => ?_) (fun q => ?_)))
      · exact h M (nI k) yr k yr lf hM H G _ (fun _ => rfl) (fun w => absurd q w)
      · exact h M (nI k) yr k yr lf hM H G _ (fun w => absurd w q) (fun _ => rfl)
  exact ⟨n + 1, key (n + 1) 0 0 yr _ (Nat.zero_le _) (by omega) (Nat.le_refl _) (ot_LSc ot_LS0 (fun q => ⟨fun ⟨u, hu, _⟩ => by omega, fun z => z.elim⟩)) (fun i j hi => by omega)⟩
theorem ox_gb (T : ot_T n d m co ne ef be go aC aN aE aB aG) {x1 : Int32} (hx : ot_md x1 pr) {b : Nat → Nat} (hBb : ot_BD 1000000000 b bd) {post : Int32 → SX → Prop} (h : ∀ M lc ls k ls' lf, M ≤ 1000000000 → ot_LS (ot_fs go 0 n) k ls' lf → ot_GM pr k lf b M → ∀ r, (M < 1000000000 → r = nI M) → (¬ M < 1000000000 → r = -3) → post r (nI n, nI d, nI m, mt, lc, aC, aN, aE, aB, aG, od, sn, mv, rm, bd, ls, ah)) : wpX_goalBound post (nI n, nI d, nI m, mt, lc, aC, aN, aE, aB, aG, od, sn, mv, rm, bd, ls, ah) x1 := by
  have n5 := T.1.1.2
  refine ox_listG T (fun k ls lf hk H => ?_)
  refine ox_greatest (pr := pr) H (by omega) hBb hx (fun M hM G => ox_orN hM (fun q => ?_) (fun q => ?_))
  · exact h M (nI k) ls k ls lf hM H G _ (fun _ => rfl) (fun w => absurd q w)
  · exact h M (nI k) ls k ls lf hM H G _ (fun w => absurd w q) (fun _ => rfl)
end
theorem i_vc_singleGoal {k : Nat} {u : SX} {v : SY} (I : i_Rel k u v) (hk : k + 5 ≤ 2562) : wpX_singleGoal (fun r u' => wpY_singleGoal (fun r' v' => r' = r ∧ i_Rel (k + 5) u' v') v) u := by
  obtain ⟨n, d, m, co, ne, ef, be, go, aC, aN, aE, aB, aG, mt, lc, rz, od, sn, mv, rm, bd, ls, ah, yl, yf, ym, yb, yd, yr, rfl, rfl, T⟩ := I
  unfold wpX_singleGoal
  refine ox_findB T ot_m1 (fun lc ls bd b hBb J L sy => ?_)
  refine ox_gb T ot_m1 hBb (fun M lc ls kx lx lf hM H G r r1 r2 => ?_)
  unfold wpY_singleGoal wpY_greatestGoal
  refine oy_findB T ot_y0 (fun rz yd yr b' hBb' A L' => ?_)
  refine oy_gg T ot_y0 hBb' (fun M' rz yr ky ly lf' hM' H' G' r' r1' r2' => ⟨?_, i_mk T⟩)
  have q := ot_goals H G H' G' sy (fun p hp => ot_beq J L A L' hp)
  rcases Classical.em (M < 1000000000) with z | z
  · have w := q.1 z
    rw [r1 z, r1' (by omega), w.1]
  · rw [r2 z, r2' (q.2 z)]
theorem i_vc_pairedGoal {k : Nat} {u : SX} {v : SY} (I : i_Rel k u v) (hk : k + 5 ≤ 2562) : wpX_pairedGoal (fun r u' => wpY_pairedGoal (fun r' v' => r' = r ∧ i_Rel (k + 5) u' v') v) u := by
  obtain ⟨n, d, m, co, ne, ef, be, go, aC, aN, aE, aB, aG, mt, lc, rz, od, sn, mv, rm, bd, ls, ah, yl, yf, ym, yb, yd, yr, rfl, rfl, T⟩ := I
  unfold wpX_pairedGoal
  refine ox_findB T ot_m2 (fun lc ls bd b hBb J L sy => ?_)
  refine ox_gb T ot_m2 hBb (fun M lc ls kx lx lf hM H G r r1 r2 => ?_)
  unfold wpY_pairedGoal wpY_greatestGoal
  refine oy_findB T ot_y1 (fun rz yd yr b' hBb' A L' => ?_)
  refine oy_gg T ot_y1 hBb' (fun M' rz yr ky ly lf' hM' H' G' r' r1' r2' => ⟨?_, i_mk T⟩)
  have q := ot_goals H G H' G' sy (fun p hp => ot_beq J L A L' hp)
  rcases Classical.em (M < 1000000000) with z | z
  · have w := q.1 z
    rw [r1 z, r1' (by omega), w.1]
  · rw [r2 z, r2' (q.2 z)]
theorem i_vc_single {k : Nat} {u : SX} {v : SY} (I : i_Rel k u v) (hk : k + 5 ≤ 2562) (v1 : Int32) (v2 : Int32) : wpX_single (fun r u' => wpY_single (fun r' v' => r' = r ∧ i_Rel (k + 5) u' v') v v1 v2) u v1 v2 := by
  obtain ⟨n, d, m, co, ne, ef, be, go, aC, aN, aE, aB, aG, mt, lc, rz, od, sn, mv, rm, bd, ls, ah, yl, yf, ym, yb, yd, yr, rfl, rfl, T⟩ := I
  have T0 := T
  obtain ⟨⟨⟨hn1, hn⟩, ⟨hd1, hd⟩, hm⟩, ⟨hC, hco⟩, ⟨hN, hne⟩, ⟨hE, hef⟩, ⟨hB, hbe⟩, ⟨hG, hgo⟩⟩ := T
  rcases Classical.em (∃ v x, v < n ∧ x < d ∧ v1 = nI v ∧ v2 = nI x) with ⟨v, x, hv, hx, rfl, rfl⟩ | hno
  · have e4 : nI v * 4 + nI x = nI (4 * v + x) := by rw [show nI v * 4 = nI (v * 4) from pk_mul v 4, nI_add, Nat.mul_comm]
    have e20 : nI (4 * v + x) * 20 + nI (4 * v + x) = nI (20 * (4 * v + x) + (4 * v + x)) := by rw [show nI (4 * v + x) * 20 = nI ((4 * v + x) * 20) from pk_mul _ 20, nI_add, Nat.mul_comm]
    have ey : 20 * (4 * nI v + nI x) + 4 * nI v + nI x = nI (20 * (4 * v + x) + (4 * v + x)) := by
      rw [show 4 * nI v = nI (4 * v) from pk_mul 4 v, nI_add, show 20 * nI (4 * v + x) = nI (20 * (4 * v + x)) from pk_mul 20 _, nI_add, nI_add, Nat.add_assoc]
    have iv : vp_in (nI (20 * (4 * v + x) + (4 * v + x))) 400 := vp_in_nI (by omega) (by omega)
    have dm : ot_dm False (20 * (4 * v + x) + (4 * v + x)) := ⟨4 * v + x, 4 * v + x, by omega, by omega, Or.inr rfl, rfl⟩
    refine ot_rng2 (by omega) (by omega) hv hx (br_f ot_01' (ox_findB T0 ot_m1 (fun lc ls bd b hBb J L sy => nm_r e4 ?_)))
    have fy : ∀ (r : Int32) (u' : SX), (∀ rz yd yr, i_Rel (k + 5) u' (nI n, nI d, nI m, rz, aC, aN, aE, aB, aG, yl, yf, ym, yb, yd, yr)) → (b (20 * (4 * v + x) + (4 * v + x)) < 1000000000 → r = nI (b (20 * (4 * v + x) + (4 * v + x)))) → (¬ b (20 * (4 * v + x) + (4 * v + x)) < 1000000000 → r = -3) → wpY_single (fun r' v' => r' = r ∧ i_Rel (k + 5) u' v') (nI n, nI d, nI m, rz, aC, aN, aE, aB, aG, yl, yf, ym, yb, yd, yr) (nI v) (nI x) := fun r u' hu' r1 r2 => by
      refine ot_rng (by omega) (fun _ _ _ => br_f ot_01' (ot_rng (by omega) (fun _ _ _ => br_f ot_01' (oy_findB T0 ot_y0 (fun rz yd yr b' hBb' A L' => ?_))) (fun w => absurd ⟨x, hx, rfl⟩ w))) (fun w => absurd ⟨v, hv, rfl⟩ w)
      have q := ot_beq J L A L' dm
      show vp_in _ 400 ∧ _
      rw [ey]
      refine ⟨iv, ?_⟩
      rw [nI_clamp (by omega), hBb'.2 _ (by omega)]
      refine oy_told (hBb'.1 _) (fun w => ⟨?_, hu' _ _ _⟩) (fun w => ⟨?_, hu' _ _ _⟩)
      · rcases Classical.em (b (20 * (4 * v + x) + (4 * v + x)) < 1000000000) with z | z
        · rw [r1 z, (q.1 z).1]
        · exact absurd w (q.2 z)
      · rcases Classical.em (b (20 * (4 * v + x) + (4 * v + x)) < 1000000000) with z | z
        · have := q.1 z; omega
        · rw [r2 z]
    rw [e20]
    refine ⟨iv, ?_⟩
    rw [nI_clamp (by omega), hBb.2 _ (by omega)]
    exact ox_orN (hBb.1 _) (fun w => fy _ _ (fun _ _ _ => i_mk T0) (fun _ => rfl) (fun y => absurd w y)) (fun w => fy _ _ (fun _ _ _ => i_mk T0) (fun y => absurd y w) (fun _ => rfl))
  · have fin : (-1 : Int32) = -1 ∧ i_Rel (k + 5) (nI n, nI d, nI m, mt, lc, aC, aN, aE, aB, aG, od, sn, mv, rm, bd, ls, ah) (nI n, nI d, nI m, rz, aC, aN, aE, aB, aG, yl, yf, ym, yb, yd, yr) := ⟨rfl, i_mk T0⟩
    have fy : wpY_single (fun r' v' => r' = -1 ∧ i_Rel (k + 5) (nI n, nI d, nI m, mt, lc, aC, aN, aE, aB, aG, od, sn, mv, rm, bd, ls, ah) v') (nI n, nI d, nI m, rz, aC, aN, aE, aB, aG, yl, yf, ym, yb, yd, yr) v1 v2 :=
      ot_rng (by omega) (fun v hv e1 => br_f ot_01' (ot_rng (by omega) (fun x hx e2 => absurd ⟨v, x, hv, hx, e1, e2⟩ hno) (fun _ => br_t rfl fin))) (fun _ => br_t rfl fin)
    exact ot_rng3 (by omega) (by omega) (fun v x hv hx e1 e2 => absurd ⟨v, x, hv, hx, e1, e2⟩ hno) (br_t rfl fy)
theorem i_vc_paired {k : Nat} {u : SX} {v : SY} (I : i_Rel k u v) (hk : k + 5 ≤ 2562) (v1 : Int32) (v2 : Int32) (v3 : Int32) (v4 : Int32) : wpX_paired (fun r u' => wpY_paired (fun r' v' => r' = r ∧ i_Rel (k + 5) u' v') v v1 v2 v3 v4) u v1 v2 v3 v4 := by
  obtain ⟨n, d, m, co, ne, ef, be, go, aC, aN, aE, aB, aG, mt, lc, rz, od, sn, mv, rm, bd, ls, ah, yl, yf, ym, yb, yd, yr, rfl, rfl, T⟩ := I
  have T0 := T
  obtain ⟨⟨⟨hn1, hn⟩, ⟨hd1, hd⟩, hm⟩, ⟨hC, hco⟩, ⟨hN, hne⟩, ⟨hE, hef⟩, ⟨hB, hbe⟩, ⟨hG, hgo⟩⟩ := T
  rcases Classical.em (∃ v x u y, v < n ∧ x < d ∧ u < n ∧ y < d ∧ v1 = nI v ∧ v2 = nI x ∧ v3 = nI u ∧ v4 = nI y) with ⟨v, x, u, y, hv, hx, hu, hy, rfl, rfl, rfl, rfl⟩ | hno
  · have e4 : nI v * 4 + nI x = nI (4 * v + x) := by rw [show nI v * 4 = nI (v * 4) from pk_mul v 4, nI_add, Nat.mul_comm]
    have e5 : nI u * 4 + nI y = nI (4 * u + y) := by rw [show nI u * 4 = nI (u * 4) from pk_mul u 4, nI_add, Nat.mul_comm]
    have e20 : nI (4 * v + x) * 20 + nI (4 * u + y) = nI (20 * (4 * v + x) + (4 * u + y)) := by rw [show nI (4 * v + x) * 20 = nI ((4 * v + x) * 20) from pk_mul _ 20, nI_add, Nat.mul_comm]
    have ey : 20 * (4 * nI v + nI x) + 4 * nI u + nI y = nI (20 * (4 * v + x) + (4 * u + y)) := by
      rw [show 4 * nI v = nI (4 * v) from pk_mul 4 v, show 4 * nI u = nI (4 * u) from pk_mul 4 u, nI_add, show 20 * nI (4 * v + x) = nI (20 * (4 * v + x)) from pk_mul 20 _, nI_add, nI_add, Nat.add_assoc]
    have iv : vp_in (nI (20 * (4 * v + x) + (4 * u + y))) 400 := vp_in_nI (by omega) (by omega)
    have dm : ot_dm True (20 * (4 * v + x) + (4 * u + y)) := ⟨4 * v + x, 4 * u + y, by omega, by omega, Or.inl trivial, rfl⟩
    refine ot_rng2 (by omega) (by omega) hv hx (br_f ot_01' (ot_rng2 (by omega) (by omega) hu hy (br_f ot_01' (ox_findB T0 ot_m2 (fun lc ls bd b hBb J L sy => nm_r e4 (nm_r e5 ?_))))))
    have fy : ∀ (r : Int32) (u' : SX), (∀ rz yd yr, i_Rel (k + 5) u' (nI n, nI d, nI m, rz, aC, aN, aE, aB, aG, yl, yf, ym, yb, yd, yr)) → (b (20 * (4 * v + x) + (4 * u + y)) < 1000000000 → r = nI (b (20 * (4 * v + x) + (4 * u + y)))) → (¬ b (20 * (4 * v + x) + (4 * u + y)) < 1000000000 → r = -3) → wpY_paired (fun r' v' => r' = r ∧ i_Rel (k + 5) u' v') (nI n, nI d, nI m, rz, aC, aN, aE, aB, aG, yl, yf, ym, yb, yd, yr) (nI v) (nI x) (nI u) (nI y) := fun r u' hu' r1 r2 => by
      refine ot_rng (by omega) (fun _ _ _ => br_f ot_01' (ot_rng (by omega) (fun _ _ _ => br_f ot_01' (ot_rng (by omega) (fun _ _ _ => br_f ot_01' (ot_rng (by omega) (fun _ _ _ => br_f ot_01' (oy_findB T0 ot_y1 (fun rz yd yr b' hBb' A L' => ?_))) (fun w => absurd ⟨y, hy, rfl⟩ w))) (fun w => absurd ⟨x, hx, rfl⟩ w))) (fun w => absurd ⟨u, hu, rfl⟩ w))) (fun w => absurd ⟨v, hv, rfl⟩ w)
      have q := ot_beq J L A L' dm
      show vp_in _ 400 ∧ _
      rw [ey]
      refine ⟨iv, ?_⟩
      rw [nI_clamp (by omega), hBb'.2 _ (by omega)]
      refine oy_told (hBb'.1 _) (fun w => ⟨?_, hu' _ _ _⟩) (fun w => ⟨?_, hu' _ _ _⟩)
      · rcases Classical.em (b (20 * (4 * v + x) + (4 * u + y)) < 1000000000) with z | z
        · rw [r1 z, (q.1 z).1]
        · exact absurd w (q.2 z)
      · rcases Classical.em (b (20 * (4 * v + x) + (4 * u + y)) < 1000000000) with z | z
        · have := q.1 z; omega
        · rw [r2 z]
    rw [e20]
    refine ⟨iv, ?_⟩
    rw [nI_clamp (by omega), hBb.2 _ (by omega)]
    exact ox_orN (hBb.1 _) (fun w => fy _ _ (fun _ _ _ => i_mk T0) (fun _ => rfl) (fun q => absurd w q)) (fun w => fy _ _ (fun _ _ _ => i_mk T0) (fun q => absurd q w) (fun _ => rfl))
  · have fin : (-1 : Int32) = -1 ∧ i_Rel (k + 5) (nI n, nI d, nI m, mt, lc, aC, aN, aE, aB, aG, od, sn, mv, rm, bd, ls, ah) (nI n, nI d, nI m, rz, aC, aN, aE, aB, aG, yl, yf, ym, yb, yd, yr) := ⟨rfl, i_mk T0⟩
    have fy : wpY_paired (fun r' v' => r' = -1 ∧ i_Rel (k + 5) (nI n, nI d, nI m, mt, lc, aC, aN, aE, aB, aG, od, sn, mv, rm, bd, ls, ah) v') (nI n, nI d, nI m, rz, aC, aN, aE, aB, aG, yl, yf, ym, yb, yd, yr) v1 v2 v3 v4 :=
      ot_rng (by omega) (fun v hv e1 => br_f ot_01' (ot_rng (by omega) (fun u hu e3 => br_f ot_01' (ot_rng (by omega) (fun x hx e2 => br_f ot_01' (ot_rng (by omega) (fun y hy e4 => absurd ⟨v, x, u, y, hv, hx, hu, hy, e1, e2, e3, e4⟩ hno) (fun _ => br_t rfl fin))) (fun _ => br_t rfl fin))) (fun _ => br_t rfl fin))) (fun _ => br_t rfl fin)
    exact ot_rng3 (by omega) (by omega) (fun v x hv hx e1 e2 => br_f ot_01' (ot_rng3 (by omega) (by omega) (fun u y hu hy e3 e4 => absurd ⟨v, x, u, y, hv, hx, hu, hy, e1, e2, e3, e4⟩ hno) (br_t rfl fy))) (br_t rfl fy)
end
