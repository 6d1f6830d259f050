/-! the mathematics: counting, states, reach, ways, bounds; no printed predicate -/
theorem ot_cn1 {P : Nat → Prop} {N k : Nat} (hk : k < N) (hp : P k) : 0 < cn P N := by
  have := cn_lt (P := fun _ => False) (Q := P) (a := k) (fun z => z) hp (N := N) (fun _ _ z => z.elim) hk
  omega
theorem ot_cn0 {P : Nat → Prop} {N : Nat} (h : cn P N = 0) {k : Nat} (hk : k < N) : ¬ P k := by
  intro hp
  have := ot_cn1 hk hp
  omega
theorem ot_cnlt {P : Nat → Prop} {N k : Nat} (hk : k < N) (hp : ¬ P k) : cn P N < N := by
  have a := cn_lt (P := P) (Q := fun _ => True) (a := k) hp trivial (N := N) (fun _ _ _ => trivial) hk
  have b := cn_le (fun _ => True) N
  omega
theorem ot_cnF : ∀ N, cn (fun _ => False) N = 0
  | 0 => rfl
  | N + 1 => by simp only [cn]; rw [ot_cnF N, b01_f (fun z => z)]
theorem ot_cnup {P : Nat → Prop} {N M : Nat} (h : ∀ k, P k → k < N) (hM : N ≤ M) : cn P M = cn P N := by
  obtain ⟨e, rfl⟩ : ∃ e, M = N + e := ⟨M - N, by omega⟩
  clear hM
  induction e with
  | zero => rfl
  | succ e ih =>
    show cn P (N + e) + b01 (P (N + e)) = _
    rw [ih, b01_f (fun z => by have := h _ z; omega)]
    rfl
def ot_up (w : Nat → Nat) (s x : Nat) : Nat → Nat := fun j => if j = s then x else w j
theorem ot_us {w : Nat → Nat} {s x : Nat} : ot_up w s x s = x := if_pos rfl
theorem ot_un {w : Nat → Nat} {s x j : Nat} (h : j ≠ s) : ot_up w s x j = w j := if_neg h
theorem ot_ule {w : Nat → Nat} {s x : Nat} (h : x ≤ w s) (j : Nat) : ot_up w s x j ≤ w j := by
  rcases Classical.em (j = s) with e | e
  · rw [e, ot_us]; exact h
  · rw [ot_un e]; exact Nat.le_refl _
/-! states -/
def ot_vl (s v : Nat) : Nat := s / 4 ^ v % 4
def ot_st (s v e : Nat) : Nat := s - ot_vl s v * 4 ^ v + e * 4 ^ v
theorem ot_vl4 (s v : Nat) : ot_vl s v < 4 := Nat.mod_lt _ (by decide)
theorem ot_st_same {s v e : Nat} (hv : v < 5) (he : e < 4) : ot_vl (ot_st s v e) v = e := by
  have h : v = 0 ∨ v = 1 ∨ v = 2 ∨ v = 3 ∨ v = 4 := by omega
  rcases h with rfl | rfl | rfl | rfl | rfl <;> simp only [ot_vl, ot_st, Nat.reducePow] <;> omega
theorem ot_st_other {s v u e : Nat} (hv : v < 5) (hu : u < 5) (he : e < 4) (huv : u ≠ v) : ot_vl (ot_st s v e) u = ot_vl s u := by
  have h : v = 0 ∨ v = 1 ∨ v = 2 ∨ v = 3 ∨ v = 4 := by omega
  have k : u = 0 ∨ u = 1 ∨ u = 2 ∨ u = 3 ∨ u = 4 := by omega
  rcases h with rfl | rfl | rfl | rfl | rfl <;> rcases k with rfl | rfl | rfl | rfl | rfl <;> simp only [ot_vl, ot_st, Nat.reducePow] <;> omega
theorem ot_st_lt {n s v e : Nat} (hn : n ≤ 5) (hv : v < n) (he : e < 4) (hs : s < 4 ^ n) : ot_st s v e < 4 ^ n := by
  have h : v = 0 ∨ v = 1 ∨ v = 2 ∨ v = 3 ∨ v = 4 := by omega
  have k : n = 1 ∨ n = 2 ∨ n = 3 ∨ n = 4 ∨ n = 5 := by omega
  rcases k with rfl | rfl | rfl | rfl | rfl <;> rcases h with rfl | rfl | rfl | rfl | rfl <;> simp only [ot_vl, ot_st, Nat.reducePow] at hs ⊢ <;> omega
def ot_ok (n d s : Nat) : Prop := s < 4 ^ n ∧ ∀ v, v < n → ot_vl s v < d
theorem ot_4n {n : Nat} (hn : n ≤ 5) : 4 ^ n ≤ 1024 := Nat.pow_le_pow_right (n := 4) (by decide) hn
theorem ot_4p (n : Nat) : 0 < 4 ^ n := Nat.pow_pos (by decide)
theorem ot_ok_lt {n d s : Nat} (hn : n ≤ 5) (h : ot_ok n d s) : s < 1024 := Nat.lt_of_lt_of_le h.1 (ot_4n hn)
def ot_nx (ef : Nat → Nat) (o s : Nat) : Nat → Nat
  | 0 => s
  | v + 1 => if ef (5 * o + v) = 0 then ot_nx ef o s v else ot_st (ot_nx ef o s v) v (ef (5 * o + v) - 1)
theorem ot_nx_0 {ef : Nat → Nat} {o s v : Nat} (h : ef (5 * o + v) = 0) : ot_nx ef o s (v + 1) = ot_nx ef o s v := if_pos h
theorem ot_nx_1 {ef : Nat → Nat} {o s v : Nat} (h : ef (5 * o + v) ≠ 0) : ot_nx ef o s (v + 1) = ot_st (ot_nx ef o s v) v (ef (5 * o + v) - 1) := if_neg h
theorem ot_nx_ok {n d o s : Nat} {ef : Nat → Nat} (hn : n ≤ 5) (hd : d ≤ 4) (he : ∀ j, ef j ≤ d) (h : ot_ok n d s) : ∀ v, v ≤ n → ot_ok n d (ot_nx ef o s v) := by
  intro v
  induction v with
  | zero => intro _; exact h
  | succ v ih =>
    intro hv
    have ih := ih (by omega)
    have e := he (5 * o + v)
    rcases Classical.em (ef (5 * o + v) = 0) with z | z
    · rw [ot_nx_0 z]; exact ih
    · rw [ot_nx_1 z]
      refine ⟨ot_st_lt hn hv (by omega) ih.1, fun u hu => ?_⟩
      rcases Classical.em (u = v) with q | q
      · rw [q, ot_st_same (by omega) (by omega)]; omega
      · rw [ot_st_other (by omega) (by omega) (by omega) q]; exact ih.2 u hu
def ot_bs (be : Nat → Nat) : Nat → Nat
  | 0 => 0
  | v + 1 => ot_bs be v + be v * 4 ^ v
theorem ot_bs1 {a b k v : Nat} (hk : k < 5) (hv : v < k) : ot_vl (a + b * 4 ^ k) v = ot_vl a v := by
  have h : v = 0 ∨ v = 1 ∨ v = 2 ∨ v = 3 := by omega
  have q : k = 1 ∨ k = 2 ∨ k = 3 ∨ k = 4 := by omega
  rcases q with rfl | rfl | rfl | rfl <;> rcases h with rfl | rfl | rfl | rfl <;> simp only [ot_vl, Nat.reducePow] <;> omega
theorem ot_bs2 {a b k : Nat} (hk : k < 5) (ha : a < 4 ^ k) (hb : b < 4) : ot_vl (a + b * 4 ^ k) k = b ∧ a + b * 4 ^ k < 4 ^ (k + 1) := by
  have q : k = 0 ∨ k = 1 ∨ k = 2 ∨ k = 3 ∨ k = 4 := by omega
  rcases q with rfl | rfl | rfl | rfl | rfl <;> simp only [ot_vl, Nat.reducePow, Nat.reduceAdd] at ha ⊢ <;> omega
theorem ot_bs_ok {d : Nat} {be : Nat → Nat} (hd : d ≤ 4) (hb : ∀ v, v < 5 → be v < d) : ∀ n, n ≤ 5 → ot_ok n d (ot_bs be n) := by
  intro n
  induction n with
  | zero => intro _; exact ⟨show 0 < 4 ^ 0 by decide, fun v hv => by omega⟩
  | succ k ih =>
    intro hk
    have ih := ih (by omega)
    have b := hb k (by omega)
    have z := ot_bs2 (k := k) (by omega) ih.1 (b := be k) (by omega)
    refine ⟨z.2, fun v hv => ?_⟩
    show ot_vl (ot_bs be k + be k * 4 ^ k) v < d
    rcases Classical.em (v = k) with q | q
    · rw [q, z.1]; exact b
    · rw [ot_bs1 (by omega) (by omega)]; exact ih.2 v (by omega)
/-! what an operator needs, the goal, reach -/
def ot_ap (n : Nat) (ne : Nat → Nat) (o s : Nat) : Prop := ∀ v, v < n → ne (5 * o + v) = 0 ∨ ne (5 * o + v) = ot_vl s v + 1
def ot_gl (n : Nat) (go : Nat → Nat) (s : Nat) : Prop := ∀ v, v < n → go v = 0 ∨ go v = ot_vl s v + 1
def ot_E (n m : Nat) (ne ef : Nat → Nat) (bo : Nat → Prop) (s t : Nat) : Prop := ∃ o, o < m ∧ ¬ bo o ∧ ot_ap n ne o s ∧ t = ot_nx ef o s n
def ot_R (s0 : Nat) (br : Nat → Prop) (E : Nat → Nat → Prop) (s : Nat) : Prop := ∀ P : Nat → Prop, (¬ br s0 → P s0) → (∀ s t, P s → E s t → ¬ br t → P t) → P s
theorem ot_R0 {s0 : Nat} {br : Nat → Prop} {E : Nat → Nat → Prop} (h : ¬ br s0) : ot_R s0 br E s0 := fun _ h0 _ => h0 h
theorem ot_Rs {s0 s t : Nat} {br : Nat → Prop} {E : Nat → Nat → Prop} (h : ot_R s0 br E s) (e : E s t) (hb : ¬ br t) : ot_R s0 br E t := fun P h0 hs => hs s t (h P h0 hs) e hb
theorem ot_Rok {n d m : Nat} {ne ef : Nat → Nat} {s0 s : Nat} {br bo : Nat → Prop} (hn : n ≤ 5) (hd : d ≤ 4) (he : ∀ j, ef j ≤ d) (h0 : ot_ok n d s0) (h : ot_R s0 br (ot_E n m ne ef bo) s) : ot_ok n d s :=
  h (ot_ok n d) (fun _ => h0) (fun s t hs ⟨o, _, _, _, e⟩ _ => by rw [e]; exact ot_nx_ok hn hd he hs n (Nat.le_refl _))
/-! ways: E o s t, costs co, ends g; a table w of 1024 * cost + length, 1000000000 is infinite -/
def ot_W (E : Nat → Nat → Nat → Prop) (co : Nat → Nat) (g : Nat → Prop) : Nat → Nat → Nat → Prop
  | 0, s, C => g s ∧ C = 0
  | L + 1, s, C => ∃ o t C', E o s t ∧ ot_W E co g L t C' ∧ C = C' + co o
def ot_I (E : Nat → Nat → Nat → Prop) (co : Nat → Nat) (g : Nat → Prop) (w : Nat → Nat) : Prop :=
  ∀ s, w s ≠ 1000000000 → ∃ C L, w s = 1024 * C + L ∧ C ≤ 9 * L ∧ L ≤ cn (fun u => w u < w s) 1024 ∧ s < 1024 ∧ ot_W E co g L s C
theorem ot_relax {E : Nat → Nat → Nat → Prop} {co : Nat → Nat} {g : Nat → Prop} {w : Nat → Nat} (h : ot_I E co g w) {o s t : Nat} (hco : co o ≤ 9) (hs : s < 1024) (he : E o s t) (ht : w t ≠ 1000000000) (hl : w t + (1024 * co o + 1) < w s) : ot_I E co g (ot_up w s (w t + (1024 * co o + 1))) := by
  have hle := ot_ule (w := w) (s := s) (Nat.le_of_lt hl)
  have hts : t ≠ s := fun e => by rw [e] at hl; omega
  intro s' hs'
  rcases Classical.em (s' = s) with e | e
  · subst e
    obtain ⟨C, L, e1, hC, hL, ht1, hW⟩ := h t ht
    refine ⟨C + co o, L + 1, ?_, by omega, ?_, hs, ⟨o, t, C, he, hW, rfl⟩⟩
    · rw [ot_us]; omega
    · have := cn_lt (P := fun u => w u < w t) (Q := fun u => ot_up w s' (w t + (1024 * co o + 1)) u < ot_up w s' (w t + (1024 * co o + 1)) s') (a := t) (Nat.lt_irrefl _) (by show ot_up _ _ _ t < _; rw [ot_us, ot_un hts]; omega) (N := 1024) (fun u _ hu => by have := hle u; show ot_up _ _ _ u < _; rw [ot_us]; omega) ht1
      omega
  · rw [ot_un e] at hs'
    obtain ⟨C, L, e1, hC, hL, ht1, hW⟩ := h s' hs'
    refine ⟨C, L, by rw [ot_un e]; exact e1, hC, ?_, ht1, hW⟩
    refine Nat.le_trans hL (cn_mono fun u _ hu => ?_)
    have := hle u
    show ot_up _ _ _ u < _
    rw [ot_un e]
    exact Nat.lt_of_le_of_lt this hu
theorem ot_Ib {E : Nat → Nat → Nat → Prop} {co : Nat → Nat} {g : Nat → Prop} {w : Nat → Nat} (h : ot_I E co g w) {s : Nat} (hs : w s ≠ 1000000000) : ∃ C L, w s = 1024 * C + L ∧ C ≤ 9 * L ∧ L ≤ 1023 ∧ s < 1024 ∧ ot_W E co g L s C := by
  obtain ⟨C, L, e1, hC, hL, ht1, hW⟩ := h s hs
  have := ot_cnlt (P := fun u => w u < w s) ht1 (Nat.lt_irrefl _)
  exact ⟨C, L, e1, hC, by omega, ht1, hW⟩
def ot_S (E : Nat → Nat → Nat → Prop) (co : Nat → Nat) (g : Nat → Prop) (w : Nat → Nat) : Prop :=
  (∀ s, w s ≤ 1000000000) ∧ (∀ s, g s → w s = 0) ∧ ∀ o s t, E o s t → w t ≠ 1000000000 → w s ≤ w t + (1024 * co o + 1)
theorem ot_lb {E : Nat → Nat → Nat → Prop} {co : Nat → Nat} {g : Nat → Prop} {w : Nat → Nat} (h : ot_S E co g w) : ∀ L s C, ot_W E co g L s C → w s ≤ 1024 * C + L := by
  intro L
  induction L with
  | zero => intro s C hw; rw [h.2.1 s hw.1]; omega
  | succ L ih =>
    intro s C hw
    obtain ⟨o, t, C', he, hw', e⟩ := hw
    have a := ih t C' hw'
    rcases Classical.em (w t = 1000000000) with z | z
    · have := h.1 s; omega
    · have := h.2.2 o s t he z; omega
def ot_Q (E : Nat → Nat → Nat → Prop) (co : Nat → Nat) (g : Nat → Prop) (r : Nat) (w : Nat → Nat) : Prop := ∀ L s C, L ≤ r → ot_W E co g L s C → w s ≤ 1024 * C + L
theorem ot_Q0 {E : Nat → Nat → Nat → Prop} {co : Nat → Nat} {g : Nat → Prop} {w : Nat → Nat} (h : ∀ s, g s → w s = 0) : ot_Q E co g 0 w := by
  intro L s C hL hw
  have : L = 0 := by omega
  subst this
  rw [h s hw.1]; omega
theorem ot_Qs {E : Nat → Nat → Nat → Prop} {co : Nat → Nat} {g : Nat → Prop} {r : Nat} {w w' : Nat → Nat} (h : ot_Q E co g r w) (hle : ∀ s, w' s ≤ w s) (hI : ∀ s, w s ≤ 1000000000) (hst : ∀ o s t, E o s t → w t ≠ 1000000000 → w' s ≤ w t + (1024 * co o + 1)) : ot_Q E co g (r + 1) w' := by
  intro L s C hL hw
  cases L with
  | zero => exact Nat.le_trans (hle s) (h 0 s C (Nat.zero_le _) hw)
  | succ L =>
    obtain ⟨o, t, C', he, hw', e⟩ := hw
    have a := h L t C' (by omega) hw'
    rcases Classical.em (w t = 1000000000) with z | z
    · have := hI s; have := hle s; omega
    · have := hst o s t he z; omega
theorem ot_Qe {E : Nat → Nat → Nat → Prop} {co : Nat → Nat} {g : Nat → Prop} {r : Nat} {w : Nat → Nat} (h : ot_Q E co g r w) (hr : 1023 ≤ r) (hI : ot_I E co g w) (hi : ∀ s, w s ≤ 1000000000) (hc : ∀ o, co o ≤ 9) (hE : ∀ o s t, E o s t → s < 1024) : ot_S E co g w := by
  refine ⟨hi, fun s hs => ?_, fun o s t he ht => ?_⟩
  · have := h 0 s 0 (Nat.zero_le _) ⟨hs, rfl⟩; omega
  · rcases Nat.lt_or_ge (w t + (1024 * co o + 1)) (w s) with z | z
    · have a := ot_relax hI (hc o) (hE o s t he) he ht z
      have n0 : ot_up w s (w t + (1024 * co o + 1)) s ≠ 1000000000 := by rw [ot_us]; have := hi s; omega
      obtain ⟨C, L, e1, _, hL, _, hW⟩ := ot_Ib a n0
      have := h L s C (by omega) hW
      rw [ot_us] at e1
      omega
    · exact z
theorem ot_Wmono {E E' : Nat → Nat → Nat → Prop} {co : Nat → Nat} {g g' : Nat → Prop} (D : Nat → Prop) (hE : ∀ o s t, D s → E o s t → E' o s t ∧ D t) (hg : ∀ s, D s → g s → g' s) : ∀ L s C, D s → ot_W E co g L s C → ot_W E' co g' L s C := by
  intro L
  induction L with
  | zero => intro s C hd hw; exact ⟨hg s hd hw.1, hw.2⟩
  | succ L ih =>
    intro s C hd hw
    obtain ⟨o, t, C', he, hw', e⟩ := hw
    have q := hE o s t hd he
    exact ⟨o, t, C', q.1, ih t C' q.2 hw', e⟩
/-- a way's table is one: the first's ways are the second's -/
theorem ot_wle {E E' : Nat → Nat → Nat → Prop} {co : Nat → Nat} {g g' : Nat → Prop} {w w' : Nat → Nat} (D : Nat → Prop) (hE : ∀ o s t, D s → E o s t → E' o s t ∧ D t) (hg : ∀ s, D s → g s → g' s) (h : ot_I E co g w) (h' : ot_S E' co g' w') {s : Nat} (hs : D s) : w' s ≤ w s := by
  rcases Classical.em (w s = 1000000000) with z | z
  · rw [z]; exact h'.1 s
  · obtain ⟨C, L, e1, _, _, _, hW⟩ := ot_Ib h z
    have := ot_lb h' L s C (ot_Wmono D hE hg L s C hs hW)
    omega
/-! bounds: Z begins at 0, H p c Q: p costs c and the greatest of Q -/
def ot_D (Z : Nat → Prop) (H : Nat → Nat → (Nat → Prop) → Prop) (p k : Nat) : Prop := ∀ P : Nat → Nat → Prop, (∀ p k, Z p → P p k) → (∀ p c Q k, H p c Q → (∀ q, Q q → P q k) → P p (k + c)) → (∀ p k, P p k → P p (k + 1)) → P p k
theorem ot_Dz {Z : Nat → Prop} {H : Nat → Nat → (Nat → Prop) → Prop} {p : Nat} (k : Nat) (h : Z p) : ot_D Z H p k := fun _ h1 _ _ => h1 p k h
theorem ot_Dh {Z : Nat → Prop} {H : Nat → Nat → (Nat → Prop) → Prop} {p c k : Nat} {Q : Nat → Prop} (h : H p c Q) (hq : ∀ q, Q q → ot_D Z H q k) : ot_D Z H p (k + c) := fun P h1 h2 h3 => h2 p c Q k h (fun q z => hq q z P h1 h2 h3)
theorem ot_Dm {Z : Nat → Prop} {H : Nat → Nat → (Nat → Prop) → Prop} {p k k' : Nat} (h : ot_D Z H p k) (hk : k ≤ k') : ot_D Z H p k' := by
  obtain ⟨e, rfl⟩ : ∃ e, k' = k + e := ⟨k' - k, by omega⟩
  clear hk
  induction e with
  | zero => exact h
  | succ e ih => exact fun P h1 h2 h3 => h3 p (k + e) (ih P h1 h2 h3)
def ot_U (Z : Nat → Prop) (H : Nat → Nat → (Nat → Prop) → Prop) (b : Nat → Nat) (p : Nat) : Prop := ∃ k, ot_D Z H p k ∧ k < b p
theorem ot_rd {Z : Nat → Prop} {H : Nat → Nat → (Nat → Prop) → Prop} {b b' : Nat → Nat} {M : Nat} (hle : ∀ p, b' p ≤ b p) (hz : ∀ p, Z p → b p = 0) (hst : ∀ p c Q k, H p c Q → (∀ q, Q q → b q ≤ k) → b' p ≤ k + c) (hM : ∀ p c Q, H p c Q → p < M) (hu : ∃ p, ot_U Z H b p) : cn (ot_U Z H b') M < cn (ot_U Z H b) M := by
  rcases Classical.em (∃ a, a < M ∧ ot_U Z H b a ∧ ¬ ot_U Z H b' a) with ⟨a, ha, h1, h2⟩ | hno
  · exact cn_lt h2 h1 (fun p _ ⟨k, hk, hl⟩ => ⟨k, hk, Nat.lt_of_lt_of_le hl (hle p)⟩) ha
  · exfalso
    have hex : ∃ k, ∃ p, ot_D Z H p k ∧ k < b p := by
      obtain ⟨p, k, h1, h2⟩ := hu
      exact ⟨k, p, h1, h2⟩
    obtain ⟨m, ⟨p0, hd, hl⟩, hmin⟩ := pk_least _ hex
    have key := hd (fun p k => ot_D Z H p k ∧ (ot_U Z H b p → m < k)) (fun p k hp => ⟨ot_Dz k hp, fun ⟨j, _, hj⟩ => by rw [hz p hp] at hj; omega⟩)
      (fun p c Q k hH hq => ⟨ot_Dh hH (fun q z => (hq q z).1), fun hU => by
        rcases Classical.em (∃ q, Q q ∧ ot_U Z H b q) with ⟨q, z1, z2⟩ | hn
        · have := (hq q z1).2 z2; omega
        · have hb : ∀ q, Q q → b q ≤ k := fun q z => by
            rcases Nat.lt_or_ge k (b q) with y | y
            · exact absurd ⟨q, z, k, (hq q z).1, y⟩ hn
            · exact y
          have h1 := hst p c Q k hH hb
          rcases Classical.em (ot_U Z H b' p) with hU' | hU'
          · obtain ⟨j, hj1, hj2⟩ := hU'
            have h2 := hle p
            have h3 : ¬ j < m := fun y => hmin j y ⟨p, hj1, by omega⟩
            omega
          · exact absurd ⟨p, hM p c Q hH, hU, hU'⟩ hno⟩)
      (fun p k ⟨h1, h2⟩ => ⟨ot_Dm h1 (Nat.le_succ k), fun z => by have := h2 z; omega⟩)
    have := key.2 ⟨m, hd, hl⟩
    omega
def ot_LB (Z : Nat → Prop) (H : Nat → Nat → (Nat → Prop) → Prop) (b : Nat → Nat) : Prop := ∀ p k, ot_D Z H p k → b p ≤ k
theorem ot_LBs {Z : Nat → Prop} {H : Nat → Nat → (Nat → Prop) → Prop} {b : Nat → Nat} (hz : ∀ p, Z p → b p = 0) (hst : ∀ p c Q k, H p c Q → (∀ q, Q q → b q ≤ k) → b p ≤ k + c) : ot_LB Z H b :=
  fun p k h => h (fun p k => b p ≤ k) (fun p k hp => by rw [hz p hp]; exact Nat.zero_le _) (fun p c Q k hH hq => hst p c Q k hH hq) (fun p k h => Nat.le_succ_of_le h)
theorem ot_LB0 {Z : Nat → Prop} {H : Nat → Nat → (Nat → Prop) → Prop} {b : Nat → Nat} (h : ¬ ∃ p, ot_U Z H b p) : ot_LB Z H b := by
  intro p k hd
  rcases Nat.lt_or_ge k (b p) with y | y
  · exact absurd ⟨p, k, hd, y⟩ h
  · exact y
/-- what is finite is derived and is small; dm: the places that count -/
def ot_J (Z : Nat → Prop) (H : Nat → Nat → (Nat → Prop) → Prop) (dm : Nat → Prop) (I : Nat) (b : Nat → Nat) : Prop := ∀ p, dm p → b p < I → ot_D Z H p (b p) ∧ b p ≤ 9 * cn (fun u => b u < b p) 400
theorem ot_Jup {Z : Nat → Prop} {H : Nat → Nat → (Nat → Prop) → Prop} {dm : Nat → Prop} {I : Nat} {b : Nat → Nat} (h : ot_J Z H dm I b) {p M c z : Nat} (hD : ot_D Z H p (M + c)) (hc : c ≤ 9) (hl : M + c < b p) (hI : b p ≤ I) (hM : M = 0 ∨ ∃ q, q < 400 ∧ dm q ∧ b q = M) (hz : z < 400 ∧ b z = 0) : ot_J Z H dm I (ot_up b p (M + c)) := by
  have hle := ot_ule (w := b) (s := p) (Nat.le_of_lt hl)
  intro p' hd hp'
  rcases Classical.em (p' = p) with e | e
  · subst e
    rw [ot_us]
    refine ⟨hD, ?_⟩
    rcases Nat.eq_zero_or_pos c with c0 | c0
    · subst c0
      rcases hM with m0 | ⟨q, hq, hdq, e⟩
      · subst m0; exact Nat.zero_le _
      · have := (h q hdq (by omega)).2
        refine Nat.le_trans (by omega : M + 0 ≤ 9 * cn (fun u => b u < b q) 400) (Nat.mul_le_mul_left 9 (cn_mono fun u _ hu => ?_))
        have := hle u
        show ot_up _ _ _ u < _
        omega
    · rcases hM with m0 | ⟨q, hq, hdq, e⟩
      · subst m0
        have z1 : z ≠ p' := fun y => by rw [y] at hz; omega
        have := ot_cn1 (P := fun u => ot_up b p' (0 + c) u < 0 + c) hz.1 (by show ot_up _ _ _ z < _; rw [ot_un z1, hz.2]; omega)
        omega
      · have q1 : q ≠ p' := fun y => by rw [y] at e; omega
        have a := (h q hdq (by omega)).2
        have := cn_lt (P := fun u => b u < b q) (Q := fun u => ot_up b p' (M + c) u < M + c) (a := q) (Nat.lt_irrefl _) (by show ot_up _ _ _ q < _; rw [ot_un q1]; omega) (N := 400) (fun u _ hu => by have := hle u; show ot_up _ _ _ u < _; omega) hq
        omega
  · rw [ot_un e] at hp' ⊢
    have a := h p' hd hp'
    refine ⟨a.1, Nat.le_trans a.2 (Nat.mul_le_mul_left 9 (cn_mono fun u _ hu => ?_))⟩
    exact Nat.lt_of_le_of_lt (hle u) hu
theorem ot_Jb {Z : Nat → Prop} {H : Nat → Nat → (Nat → Prop) → Prop} {dm : Nat → Prop} {I : Nat} {b : Nat → Nat} (h : ot_J Z H dm I b) {p : Nat} (hd : dm p) (hp : b p < I) : ot_D Z H p (b p) ∧ b p ≤ 3600 := by
  have a := h p hd hp
  have := cn_le (fun u => b u < b p) 400
  exact ⟨a.1, by omega⟩
/-- the two tables of bounds tell the same -/
theorem ot_beq {Z : Nat → Prop} {H : Nat → Nat → (Nat → Prop) → Prop} {dm : Nat → Prop} {b b' : Nat → Nat} (h : ot_J Z H dm 1000000000 b) (hl : ot_LB Z H b) (h' : ∀ p, dm p → b' p < 1000000 → ot_D Z H p (b' p)) (hl' : ot_LB Z H b') {p : Nat} (hd : dm p) : (b p < 1000000000 → b' p = b p ∧ b p ≤ 3600) ∧ (¬ b p < 1000000000 → ¬ b' p < 1000000) := by
  constructor
  · intro z
    have a := ot_Jb h hd z
    have c := hl' p _ a.1
    have e := hl p _ (h' p hd (by omega))
    omega
  · intro z y
    have e := hl p _ (h' p hd y)
    omega
/-! pairs of facts -/
def ot_rs (n : Nat) (ne ef : Nat → Nat) (o f g q : Nat) : Prop := (∃ v, v < n ∧ ne (5 * o + v) ≠ 0 ∧ q = 4 * v + (ne (5 * o + v) - 1)) ∨ (q = f ∧ ef (5 * o + f / 4) = 0) ∨ (q = g ∧ ef (5 * o + g / 4) = 0)
def ot_bg (ef : Nat → Nat) (o f g : Nat) : Prop := (ef (5 * o + f / 4) = 0 ∨ ef (5 * o + f / 4) = f % 4 + 1) ∧ (ef (5 * o + g / 4) = 0 ∨ ef (5 * o + g / 4) = g % 4 + 1) ∧ (ef (5 * o + f / 4) = f % 4 + 1 ∨ ef (5 * o + g / 4) = g % 4 + 1)
def ot_H (n m : Nat) (ne ef co : Nat → Nat) (pr : Prop) (p c : Nat) (Q : Nat → Prop) : Prop := ∃ o f g, o < m ∧ f < 4 * n ∧ g < 4 * n ∧ p = 20 * f + g ∧ (pr ∨ f = g) ∧ (f = g ∨ f / 4 ≠ g / 4) ∧ ot_bg ef o f g ∧ c = co o ∧ Q = fun q => ∃ a b, ot_rs n ne ef o f g a ∧ ot_rs n ne ef o f g b ∧ (pr ∨ a = b) ∧ q = 20 * a + b
def ot_Z (n : Nat) (be : Nat → Nat) (pr : Prop) (p : Nat) : Prop := ∃ v u, v < n ∧ u < n ∧ (pr ∨ v = u) ∧ p = 20 * (4 * v + be v) + (4 * u + be u)
def ot_dm (pr : Prop) (p : Nat) : Prop := ∃ f g, f < 20 ∧ g < 20 ∧ (pr ∨ f = g) ∧ p = 20 * f + g
theorem ot_bgs {ef : Nat → Nat} {o f g : Nat} (h : ot_bg ef o f g) : ot_bg ef o g f := ⟨h.2.1, h.1, h.2.2.symm⟩
theorem ot_rss {n : Nat} {ne ef : Nat → Nat} {o f g q : Nat} (h : ot_rs n ne ef o f g q) : ot_rs n ne ef o g f q := h.elim Or.inl (fun z => Or.inr z.symm)
theorem ot_rs20 {n d : Nat} {ne ef : Nat → Nat} {o f g q : Nat} (hn : n ≤ 5) (hd : d ≤ 4) (hne : ∀ j, ne j ≤ d) (hf : f < 4 * n) (hg : g < 4 * n) (h : ot_rs n ne ef o f g q) : q < 4 * n := by
  rcases h with ⟨v, hv, h0, e⟩ | ⟨e, _⟩ | ⟨e, _⟩
  · have := hne (5 * o + v); omega
  · omega
  · omega
theorem ot_Dsym {n m d : Nat} {ne ef co be : Nat → Nat} {pr : Prop} (hn : n ≤ 5) (hd : d ≤ 4) (hne : ∀ j, ne j ≤ d) (hbe : ∀ v, v < 5 → be v < d) {f g k : Nat} (hf : f < 20) (hg : g < 20) (h : ot_D (ot_Z n be pr) (ot_H n m ne ef co pr) (20 * f + g) k) : ot_D (ot_Z n be pr) (ot_H n m ne ef co pr) (20 * g + f) k := by
  refine h (fun p k => ∀ f g, f < 20 → g < 20 → p = 20 * f + g → ot_D (ot_Z n be pr) (ot_H n m ne ef co pr) (20 * g + f) k) ?_ ?_ ?_ f g hf hg rfl
  · intro p k hz f g hf hg e
    obtain ⟨v, u, hv, hu, hp, e'⟩ := hz
    have b1 := hbe v (by omega)
    have b2 := hbe u (by omega)
    exact ot_Dz k ⟨u, v, hu, hv, hp.elim Or.inl (fun z => Or.inr z.symm), by omega⟩
  · intro p c Q k hH hq f g hf hg e
    obtain ⟨o, f', g', ho, hf', hg', e', hp, hx, hb, hc, hQ⟩ := hH
    have e1 : f' = f := by omega
    have e2 : g' = g := by omega
    subst e1 e2 hQ
    refine ot_Dh (Q := fun q => ∃ a b, ot_rs n ne ef o g' f' a ∧ ot_rs n ne ef o g' f' b ∧ (pr ∨ a = b) ∧ q = 20 * a + b) ⟨o, g', f', ho, hg', hf', rfl, hp.elim Or.inl (fun z => Or.inr z.symm), hx.elim (fun z => Or.inl z.symm) (fun z => Or.inr (fun y => z y.symm)), ot_bgs hb, hc, rfl⟩ ?_
    rintro q ⟨a, b, ha, hb', hab, rfl⟩
    have a1 := ot_rs20 hn hd hne hg' hf' ha
    have b1 := ot_rs20 hn hd hne hg' hf' hb'
    exact hq (20 * b + a) ⟨b, a, ot_rss hb', ot_rss ha, hab.elim Or.inl (fun z => Or.inr z.symm), rfl⟩ b a (by omega) (by omega) rfl
  · intro p k h f g hf hg e
    exact ot_Dm (h f g hf hg e) (Nat.le_succ k)
theorem ot_D400 {n m d : Nat} {ne ef co be : Nat → Nat} {pr : Prop} (hn : n ≤ 5) (hd : d ≤ 4) (hbe : ∀ v, v < 5 → be v < d) {p k : Nat} (h : ot_D (ot_Z n be pr) (ot_H n m ne ef co pr) p k) : p < 400 := by
  refine h (fun p _ => p < 400) ?_ ?_ ?_
  · rintro p k ⟨v, u, hv, hu, hp, e'⟩
    have b1 := hbe v (by omega)
    have b2 := hbe u (by omega)
    omega
  · rintro p c Q k ⟨o, f', g', ho, hf', hg', e', _⟩ _
    omega
  · exact fun p k h => h
theorem ot_H400 {n m : Nat} {ne ef co : Nat → Nat} {pr : Prop} (hn : n ≤ 5) {p c : Nat} {Q : Nat → Prop} (h : ot_H n m ne ef co pr p c Q) : p < 400 := by
  obtain ⟨o, f', g', ho, hf', hg', e', _⟩ := h
  omega
/-! plans without taking back -/
def ot_nd (n : Nat) (ne : Nat → Nat) (h : Nat → Prop) (o : Nat) : Prop := ∀ v, v < n → ne (5 * o + v) ≠ 0 → h (4 * v + (ne (5 * o + v) - 1))
def ot_cl (n m : Nat) (ne ef : Nat → Nat) (ch h : Nat → Prop) : Prop := ∀ o, o < m → ch o → ot_nd n ne h o → ∀ v, v < n → ef (5 * o + v) ≠ 0 → h (4 * v + (ef (5 * o + v) - 1))
def ot_F (n m : Nat) (ne ef be : Nat → Nat) (ch : Nat → Prop) (f : Nat) : Prop := ∀ P : Nat → Prop, (∀ v, v < n → P (4 * v + be v)) → ot_cl n m ne ef ch P → P f
def ot_rj (n m : Nat) (ne ef be : Nat → Nat) (ch : Nat → Prop) (j : Nat) (h : Nat → Prop) : Prop := (∀ v, v < n → h (4 * v + be v)) ∧ (∀ f, h f → ot_F n m ne ef be ch f) ∧ (ot_cl n m ne ef ch h ∨ j + 1 ≤ cn (fun o => ch o ∧ ot_nd n ne h o) m)
theorem ot_F0 {n m : Nat} {ne ef be : Nat → Nat} {ch : Nat → Prop} {v : Nat} (hv : v < n) : ot_F n m ne ef be ch (4 * v + be v) := fun _ h0 _ => h0 v hv
theorem ot_Fcl {n m : Nat} {ne ef be : Nat → Nat} {ch : Nat → Prop} : ot_cl n m ne ef ch (ot_F n m ne ef be ch) := fun o ho hc hn v hv he P h0 hP => hP o ho hc (fun u hu hz => hn u hu hz P h0 hP) v hv he
theorem ot_rj0 {n m : Nat} {ne ef be : Nat → Nat} {ch h : Nat → Prop} (h1 : ∀ v, v < n → h (4 * v + be v)) (h2 : ∀ f, h f → ot_F n m ne ef be ch f) : ot_rj n m ne ef be ch 0 h := by
  refine ⟨h1, h2, ?_⟩
  rcases Classical.em (∃ o, o < m ∧ ch o ∧ ot_nd n ne h o) with ⟨o, ho, hc, hn⟩ | hno
  · exact Or.inr (ot_cn1 (P := fun o => ch o ∧ ot_nd n ne h o) ho ⟨hc, hn⟩)
  · exact Or.inl (fun o ho hc hn => absurd ⟨o, ho, hc, hn⟩ hno)
theorem ot_rjs {n m j : Nat} {ne ef be : Nat → Nat} {ch h h' : Nat → Prop} (hj : ot_rj n m ne ef be ch j h) (hm : ∀ f, h f → h' f) (h2 : ∀ f, h' f → ot_F n m ne ef be ch f) (h3 : ∀ o, o < m → ch o → ot_nd n ne h o → ∀ v, v < n → ef (5 * o + v) ≠ 0 → h' (4 * v + (ef (5 * o + v) - 1))) : ot_rj n m ne ef be ch (j + 1) h' := by
  refine ⟨fun v hv => hm _ (hj.1 v hv), h2, ?_⟩
  rcases hj.2.2 with hc | hc
  · refine Or.inl (fun o ho hch hn v hv he => hm _ (hc o ho hch (fun u hu hz => ?_) v hv he))
    exact h2 _ (hn u hu hz) h hj.1 hc
  · rcases Classical.em (∃ o, o < m ∧ (ch o ∧ ot_nd n ne h' o) ∧ ¬ (ch o ∧ ot_nd n ne h o)) with ⟨o, ho, y1, y2⟩ | hno
    · have := cn_lt (P := fun o => ch o ∧ ot_nd n ne h o) (Q := fun o => ch o ∧ ot_nd n ne h' o) y2 y1 (N := m) (fun k _ ⟨z1, z2⟩ => ⟨z1, fun u hu hz => hm _ (z2 u hu hz)⟩) ho
      exact Or.inr (by omega)
    · refine Or.inl (fun o ho hch hn v hv he => ?_)
      rcases Classical.em (ot_nd n ne h o) with y | y
      · exact h3 o ho hch y v hv he
      · exact absurd ⟨o, ho, ⟨hch, hn⟩, fun z => y z.2⟩ hno
theorem ot_rje {n m j : Nat} {ne ef be : Nat → Nat} {ch h : Nat → Prop} (hj : ot_rj n m ne ef be ch j h) (hm : m ≤ j) (f : Nat) : h f ↔ ot_F n m ne ef be ch f := by
  refine ⟨hj.2.1 f, fun hf => ?_⟩
  rcases hj.2.2 with hc | hc
  · exact hf h hj.1 hc
  · have := cn_le (fun o => ch o ∧ ot_nd n ne h o) m
    omega
