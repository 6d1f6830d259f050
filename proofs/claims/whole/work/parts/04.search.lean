/-! searches: sums, the list of the met, what it gives at its end -/
def ot_sm (w : Nat → Nat) : Nat → Nat
  | 0 => 0
  | k + 1 => ot_sm w k + w k
theorem ot_smle {w w' : Nat → Nat} (h : ∀ s, w' s ≤ w s) : ∀ N, ot_sm w' N ≤ ot_sm w N
  | 0 => Nat.le_refl _
  | N + 1 => Nat.add_le_add (ot_smle h N) (h N)
theorem ot_smlt {w w' : Nat → Nat} (h : ∀ s, w' s ≤ w s) {a : Nat} (ha : w' a < w a) : ∀ N, a < N → ot_sm w' N < ot_sm w N
  | 0, z => by omega
  | N + 1, z => by
    simp only [ot_sm]
    have b := h N
    rcases Nat.lt_or_ge a N with y | y
    · have := ot_smlt h ha N y; omega
    · have e : a = N := by omega
      subst e
      have := ot_smle h a; omega
theorem ot_split (P A : Nat → Prop) : ∀ N, cn P N = cn (fun s => P s ∧ A s) N + cn (fun s => P s ∧ ¬ A s) N
  | 0 => rfl
  | N + 1 => by
    simp only [cn]
    have := ot_split P A N
    rcases Classical.em (P N) with p | p
    · rcases Classical.em (A N) with a | a
      · rw [b01_t p, b01_t ⟨p, a⟩, b01_f (fun z => z.2 a)]; omega
      · rw [b01_t p, b01_f (fun z => a z.2), b01_t ⟨p, a⟩]; omega
    · rw [b01_f p, b01_f (fun z => p z.1), b01_f (fun z => p z.1)]; omega
theorem ot_cnupd {a : Nat → Int32} {s N : Nat} (hs : s < N) (h : ¬ a s = 1) : cn (fun k => upd a s 1 k = 1) N = cn (fun k => a k = 1) N + 1 := by
  rw [← cn_add (P := fun k => a k = 1) h hs]
  refine cn_eq fun k _ => ?_
  rcases Classical.em (k = s) with e | e
  · subst e; rw [pk_us]; exact ⟨fun _ => Or.inr rfl, fun _ => rfl⟩
  · rw [pk_un e]; exact ⟨Or.inl, fun z => z.elim id (fun y => absurd y e)⟩
/-- the list of the met so far -/
def ot_BF (R : Nat → Prop) (k : Nat) (od sn : Nat → Int32) (f : Nat → Nat) : Prop :=
  (∀ i, i < k → od i = nI (f i) ∧ f i < 1024 ∧ sn (f i) = 1 ∧ R (f i)) ∧ (∀ s, s < 1024 → sn s = 0 ∨ (sn s = 1 ∧ ∃ i, i < k ∧ f i = s)) ∧ cn (fun s => sn s = 1) 1024 = k ∧ ∀ i j, i < k → j < k → f i = f j → i = j
theorem ot_01 : ¬ (0 : Int32) = 1 := by decide
theorem ot_BFlt {R : Nat → Prop} {k : Nat} {od sn : Nat → Int32} {f : Nat → Nat} (h : ot_BF R k od sn f) {s : Nat} (hs : s < 1024) (h0 : sn s = 0) : k < 1024 := by
  have := ot_cnlt (P := fun s => sn s = 1) hs (fun z => ot_01 (h0.symm.trans z))
  have := h.2.2.1
  omega
theorem ot_BFle {R : Nat → Prop} {k : Nat} {od sn : Nat → Int32} {f : Nat → Nat} (h : ot_BF R k od sn f) : k ≤ 1024 := by
  have := cn_le (fun s => sn s = 1) 1024
  have := h.2.2.1
  omega
theorem ot_BFs {R : Nat → Prop} {k : Nat} {od sn : Nat → Int32} {f : Nat → Nat} (h : ot_BF R k od sn f) {s : Nat} (hs : s < 1024) (h0 : sn s = 0) (hR : R s) : ot_BF R (k + 1) (upd od k (nI s)) (upd sn s 1) (ot_up f k s) := by
  have hn : ∀ i, i < k → f i ≠ s := fun i hi e => by
    have := (h.1 i hi).2.2.1
    rw [e, h0] at this
    exact ot_01 this
  refine ⟨fun i hi => ?_, fun t ht => ?_, ?_, fun i j hi hj e => ?_⟩
  · rcases Classical.em (i = k) with e | e
    · subst e; rw [pk_us, ot_us]; exact ⟨rfl, hs, pk_us, hR⟩
    · have a := h.1 i (by omega)
      rw [pk_un e, ot_un e, pk_un (hn i (by omega))]
      exact a
  · rcases Classical.em (t = s) with e | e
    · subst e; exact Or.inr ⟨pk_us, k, by omega, ot_us⟩
    · rw [pk_un e]
      rcases h.2.1 t ht with z | ⟨z, i, hi, y⟩
      · exact Or.inl z
      · exact Or.inr ⟨z, i, by omega, by rw [ot_un (by omega)]; exact y⟩
  · rw [ot_cnupd hs (fun z => ot_01 (h0.symm.trans z)), h.2.2.1]
  · rcases Classical.em (i = k) with a | a
    · rcases Classical.em (j = k) with b | b
      · omega
      · exfalso
        rw [a, ot_us, ot_un b] at e
        exact hn j (by omega) e.symm
    · rcases Classical.em (j = k) with b | b
      · exfalso
        rw [b, ot_us, ot_un a] at e
        exact hn i (by omega) e
      · rw [ot_un a, ot_un b] at e
        exact h.2.2.2 i j (by omega) (by omega) e
/-- a state's move by an operator, as it is written down -/
def ot_Mv (n : Nat) (ne ef : Nat → Nat) (bo : Nat → Prop) (mv : Nat → Int32) (s o : Nat) : Prop := (¬ bo o → ot_ap n ne o s → mv (10 * s + o) = nI (ot_nx ef o s n)) ∧ (¬ (¬ bo o ∧ ot_ap n ne o s) → mv (10 * s + o) = -1)
def ot_Cl (n : Nat) (ne ef : Nat → Nat) (bo br : Nat → Prop) (sn : Nat → Int32) (s o : Nat) : Prop := ¬ bo o → ot_ap n ne o s → ¬ br (ot_nx ef o s n) → sn (ot_nx ef o s n) = 1
/-- what a search leaves: the met are those of R, each once, with their moves -/
def ot_XF (n m : Nat) (ne ef : Nat → Nat) (bo R : Nat → Prop) (k : Nat) (od mv : Nat → Int32) (f : Nat → Nat) : Prop :=
  (∀ i, i < k → od i = nI (f i) ∧ f i < 1024 ∧ R (f i)) ∧ (∀ s, R s → s < 1024 ∧ ∃ i, i < k ∧ f i = s) ∧ (∀ i j, i < k → j < k → f i = f j → i = j) ∧ k = cn R 1024 ∧ ∀ s, R s → ∀ q, q < m → ot_Mv n ne ef bo mv s q
theorem ot_XFof {n m d : Nat} {ne ef : Nat → Nat} {bo br : Nat → Prop} {s0 k : Nat} {od sn mv : Nat → Int32} {f : Nat → Nat} (hn : n ≤ 5) (hd : d ≤ 4) (he : ∀ j, ef j ≤ d) (h0 : ot_ok n d s0) (h : ot_BF (ot_R s0 br (ot_E n m ne ef bo)) k od sn f) (hc : ∀ i, i < k → ∀ q, q < m → ot_Cl n ne ef bo br sn (f i) q ∧ ot_Mv n ne ef bo mv (f i) q) (hs : ¬ br s0 → sn s0 = 1) : ot_XF n m ne ef bo (ot_R s0 br (ot_E n m ne ef bo)) k od mv f := by
  have all : ∀ s, ot_R s0 br (ot_E n m ne ef bo) s → s < 1024 ∧ sn s = 1 := fun s hR =>
    ⟨ot_ok_lt hn (ot_Rok hn hd he h0 hR), (hR (fun s => sn s = 1 ∧ ot_ok n d s) (fun z => ⟨hs z, h0⟩) (fun s t ⟨h1, h2⟩ ⟨o, ho, hb, ha, e⟩ hbr => by
      rcases h.2.1 s (ot_ok_lt hn h2) with z | ⟨_, i, hi, y⟩
      · exact absurd (z.symm.trans h1) ot_01
      · have := (hc i hi o ho).1
        rw [y] at this
        subst e
        exact ⟨this hb ha hbr, ot_nx_ok hn hd he h2 n (Nat.le_refl _)⟩)).1⟩
  have mem : ∀ s, ot_R s0 br (ot_E n m ne ef bo) s → ∃ i, i < k ∧ f i = s := fun s hR => by
    rcases h.2.1 s (all s hR).1 with z | ⟨_, y⟩
    · exact absurd (z.symm.trans (all s hR).2) ot_01
    · exact y
  refine ⟨fun i hi => ⟨(h.1 i hi).1, (h.1 i hi).2.1, (h.1 i hi).2.2.2⟩, fun s hR => ⟨(all s hR).1, mem s hR⟩, h.2.2.2, ?_, fun s hR q hq => ?_⟩
  · rw [← h.2.2.1]
    refine cn_eq fun s hs => ⟨fun z => ?_, fun z => (all s z).2⟩
    rcases h.2.1 s hs with y | ⟨_, i, hi, y⟩
    · exact absurd (y.symm.trans z) ot_01
    · rw [← y]; exact (h.1 i hi).2.2.2
  · obtain ⟨i, hi, e⟩ := mem s hR
    have := (hc i hi q hq).2
    rw [e] at this
    exact this
/-- counting over the list is counting over the states -/
theorem ot_cnt {f : Nat → Nat} {k : Nat} (hl : ∀ i, i < k → f i < 1024) (hi : ∀ i j, i < k → j < k → f i = f j → i = j) (A : Nat → Prop) : ∀ i, i < k → cn (fun s => ∃ j, j < i + 1 ∧ f j = s ∧ A s) 1024 = cn (fun s => ∃ j, j < i ∧ f j = s ∧ A s) 1024 + b01 (A (f i)) := by
  intro i hik
  rcases Classical.em (A (f i)) with a | a
  · rw [b01_t a, ← cn_add (P := fun s => ∃ j, j < i ∧ f j = s ∧ A s) (a := f i) (fun ⟨j, hj, e, _⟩ => by have := hi j i (by omega) hik e; omega) (hl i hik)]
    refine cn_eq fun s _ => ⟨fun ⟨j, hj, e, z⟩ => ?_, fun z => ?_⟩
    · rcases Classical.em (j = i) with q | q
      · subst q; exact Or.inr e.symm
      · exact Or.inl ⟨j, by omega, e, z⟩
    · rcases z with ⟨j, hj, e, z⟩ | z
      · exact ⟨j, by omega, e, z⟩
      · exact ⟨i, by omega, z.symm, by rw [z]; exact a⟩
  · have h1 : ∀ s, s < 1024 → ((∃ j, j < i + 1 ∧ f j = s ∧ A s) ↔ (∃ j, j < i ∧ f j = s ∧ A s)) := fun s _ => by
      constructor
      · intro ⟨j, hj, e, z⟩
        rcases Classical.em (j = i) with q | q
        · subst q; rw [← e] at z; exact absurd z a
        · exact ⟨j, by omega, e, z⟩
      · intro ⟨j, hj, e, z⟩
        exact ⟨j, by omega, e, z⟩
    have h2 := cn_eq h1
    have h3 := b01_f a
    rw [h2, h3]
    exact (Nat.add_zero _).symm
theorem ot_cnt0 {f : Nat → Nat} (A : Nat → Prop) : cn (fun s => ∃ j, j < 0 ∧ f j = s ∧ A s) 1024 = 0 := by
  refine Eq.trans (cn_eq fun s _ => ⟨fun ⟨j, hj, _⟩ => ?_, fun z => z.elim⟩) (ot_cnF 1024)
  omega
theorem ot_cnte {R : Nat → Prop} {f : Nat → Nat} {k : Nat} (h1 : ∀ i, i < k → R (f i)) (h2 : ∀ s, R s → ∃ i, i < k ∧ f i = s) (A : Nat → Prop) : cn (fun s => ∃ j, j < k ∧ f j = s ∧ A s) 1024 = cn (fun s => R s ∧ A s) 1024 :=
  cn_eq fun s _ => ⟨fun ⟨j, hj, e, z⟩ => ⟨by rw [← e]; exact h1 j hj, z⟩, fun ⟨r, z⟩ => by obtain ⟨i, hi, e⟩ := h2 s r; exact ⟨i, hi, e, z⟩⟩
