/-! the component's ways -/
def ot_EX (n m : Nat) (ne ef : Nat → Nat) (R : Nat → Prop) (o s t : Nat) : Prop := R s ∧ o < m ∧ ot_ap n ne o s ∧ t = ot_nx ef o s n
def ot_RM (R : Nat → Prop) (w : Nat → Nat) (rm : Nat → Int32) : Prop := (∀ s, w s ≤ 1000000000) ∧ (∀ s, R s → rm s = nI (w s)) ∧ ∀ s, ¬ R s → w s = 1000000000
def ot_wy (n : Nat) (ne ef co w : Nat → Nat) (o s x : Nat) : Prop := (ot_ap n ne o s → w (ot_nx ef o s n) ≠ 1000000000 → x = w (ot_nx ef o s n) + (1024 * co o + 1)) ∧ (¬ (ot_ap n ne o s ∧ w (ot_nx ef o s n) ≠ 1000000000) → x = 1000000000)
/-- a round so far: w0 at its beginning, w now, D what has been looked at -/
def ot_Rx (E : Nat → Nat → Nat → Prop) (co : Nat → Nat) (g : Nat → Prop) (D : Nat → Nat → Prop) (w0 w : Nat → Nat) : Prop :=
  ot_I E co g w ∧ (∀ s, w s ≤ w0 s) ∧ (∀ s, w0 s ≤ 1000000000) ∧ ∀ o s t, E o s t → D o s → w0 t ≠ 1000000000 → w s ≤ w0 t + (1024 * co o + 1)
theorem ot_Rxle {E : Nat → Nat → Nat → Prop} {co : Nat → Nat} {g : Nat → Prop} {D : Nat → Nat → Prop} {w0 w : Nat → Nat} (h : ot_Rx E co g D w0 w) {s t o x : Nat} (hco : co o ≤ 9) (hs : s < 1024) (hE : ∀ t', E o s t' → t' = t) (he : E o s t) (ht : w t ≠ 1000000000) (hx : x = w t + (1024 * co o + 1)) (hl : x < w s) : ot_Rx E co g (fun o' s' => D o' s' ∨ (o' = o ∧ s' = s)) w0 (ot_up w s x) := by
  subst hx
  have hle := ot_ule (w := w) (s := s) (Nat.le_of_lt hl)
  refine ⟨ot_relax h.1 hco hs he ht hl, fun s' => Nat.le_trans (hle s') (h.2.1 s'), h.2.2.1, fun o' s' t' he' hD h0 => ?_⟩
  rcases hD with hD | ⟨e1, e2⟩
  · exact Nat.le_trans (hle s') (h.2.2.2 o' s' t' he' hD h0)
  · subst e1 e2
    have e := hE t' he'
    subst e
    rw [ot_us]
    have := h.2.1 t'
    omega
theorem ot_Rxge {E : Nat → Nat → Nat → Prop} {co : Nat → Nat} {g : Nat → Prop} {D : Nat → Nat → Prop} {w0 w : Nat → Nat} (h : ot_Rx E co g D w0 w) {s o : Nat} (hE : ∀ t, E o s t → w t ≠ 1000000000 → w s ≤ w t + (1024 * co o + 1)) : ot_Rx E co g (fun o' s' => D o' s' ∨ (o' = o ∧ s' = s)) w0 w := by
  refine ⟨h.1, h.2.1, h.2.2.1, fun o' s' t' he' hD h0 => ?_⟩
  rcases hD with hD | ⟨e1, e2⟩
  · exact h.2.2.2 o' s' t' he' hD h0
  · subst e1 e2
    have a := h.2.1 t'
    have b := h.2.2.1 t'
    have := hE t' he' (by omega)
    omega
theorem ot_RxD {E : Nat → Nat → Nat → Prop} {co : Nat → Nat} {g : Nat → Prop} {D D' : Nat → Nat → Prop} {w0 w : Nat → Nat} (h : ot_Rx E co g D w0 w) (hD : ∀ o s t, E o s t → D' o s → D o s) : ot_Rx E co g D' w0 w := ⟨h.1, h.2.1, h.2.2.1, fun o s t he hd h0 => h.2.2.2 o s t he (hD o s t he hd) h0⟩
theorem ot_Rx0 {E : Nat → Nat → Nat → Prop} {co : Nat → Nat} {g : Nat → Prop} {w : Nat → Nat} (h : ot_I E co g w) (hi : ∀ s, w s ≤ 1000000000) : ot_Rx E co g (fun _ _ => False) w w := ⟨h, fun _ => Nat.le_refl _, hi, fun _ _ _ _ z => z.elim⟩
theorem ot_RMup {R : Nat → Prop} {w : Nat → Nat} {rm : Nat → Int32} (h : ot_RM R w rm) {s x : Nat} (hs : R s) (hx : x ≤ 1000000000) : ot_RM R (ot_up w s x) (upd rm s (nI x)) := by
  refine ⟨fun s' => ?_, fun s' hs' => ?_, fun s' hs' => ?_⟩
  · rcases Classical.em (s' = s) with e | e
    · rw [e, ot_us]; exact hx
    · rw [ot_un e]; exact h.1 s'
  · rcases Classical.em (s' = s) with e | e
    · rw [e, ot_us, pk_us]
    · rw [ot_un e, pk_un e]; exact h.2.1 s' hs'
  · rcases Classical.em (s' = s) with e | e
    · rw [e] at hs'; exact absurd hs hs'
    · rw [ot_un e]; exact h.2.2 s' hs'
theorem ot_rvlt {j : Nat} (h : j < 2 ^ 31) : ot_rv j < 0 ↔ j = 0 := by
  rcases Classical.em (j = 0) with z | z
  · subst z; exact ⟨fun _ => rfl, fun _ => by decide⟩
  · rw [ot_rvp z]; exact ⟨fun w => absurd w (nI_pos (by omega)), fun w => absurd w z⟩
theorem ot_rvd (q : Nat) : nI q + (-1) = ot_rv q := (Int32.sub_eq_add_neg (nI q) 1).symm
theorem ot_big : (1000000000 : Int32) = nI 1000000000 := by decide
theorem ot_mil : (1000000 : Int32) = nI 1000000 := by decide
section
variable {n d m : Nat} {co ne ef be go : Nat → Nat} {aC aN aE aB aG od sn mv rm bd ls ah : Nat → Int32} {lc : Int32} {bo br R g : Nat → Prop} {k : Nat} {f w : Nat → Nat}
theorem ox_wayBy (T : ot_T n d m co ne ef be go aC aN aE aB aG) (hX : ot_XF n m ne ef (fun _ => False) R k od mv f) (hR : ∀ s o, R s → o < m → ot_ap n ne o s → R (ot_nx ef o s n)) (hw : ot_RM R w rm) {mt : Int32} {s o : Nat} (hs : R s) (ho : o < m) {post : Int32 → Prop} (h : ∀ x, x < 1000010000 → ot_wy n ne ef co w o s x → post (nI x)) : wpX_wayBy post (nI n, nI d, nI m, mt, lc, aC, aN, aE, aB, aG, od, sn, mv, rm, bd, ls, ah) (nI s) (nI o) := by
  obtain ⟨⟨⟨hn1, hn⟩, ⟨hd1, hd⟩, hm⟩, ⟨hC, hco⟩, ⟨hN, hne⟩, ⟨hE, hef⟩, ⟨hB, hbe⟩, ⟨hG, hgo⟩⟩ := T
  have slt := (hX.2.1 s hs).1
  have e10 : nI s * 10 + nI o = nI (10 * s + o) := by rw [show nI s * 10 = nI (s * 10) from pk_mul s 10, nI_add, Nat.mul_comm]
  have hv := hX.2.2.2.2 s hs o ho
  have c9 := hco o
  rcases Classical.em (ot_ap n ne o s) with a | a
  · have hRt := hR s o hs ho a
    have tlt := (hX.2.1 _ hRt).1
    have e1 := hw.2.1 _ hRt
    have l1 := hw.1 (ot_nx ef o s n)
    refine ⟨by rw [e10]; exact vp_in_nI (by omega) (by omega), nm_r (e' := nI (ot_nx ef o s n)) (by rw [e10, nI_clamp (by omega)]; exact hv.1 (fun z => z) a) (br_f (ot_nn (by omega)).1 ⟨vp_in_nI tlt (by omega), ?_⟩)⟩
    rw [nI_clamp (by omega), e1]
    rcases Classical.em (w (ot_nx ef o s n) = 1000000000) with z | z
    · exact br_t (by rw [z]; rfl) (h 1000000000 (by omega) ⟨fun _ y => absurd z y, fun _ => rfl⟩)
    · refine br_f (fun y => z ((nI_eq (by omega) (by omega)).mp (y.trans ot_big))) ⟨vp_in_nI tlt (by omega), vp_in_nI (by omega) (by omega), ?_⟩
      have := h (w (ot_nx ef o s n) + (1024 * co o + 1)) (by omega) ⟨fun _ _ => rfl, fun y => absurd ⟨a, z⟩ y⟩
      rw [nI_clamp (by omega), hC o (by omega), show nI (co o) * 1024 = nI (co o * 1024) from pk_mul (co o) 1024, nI_add, nI_1, show w (ot_nx ef o s n) + co o * 1024 + 1 = w (ot_nx ef o s n) + (1024 * co o + 1) by omega]
      exact this
  · refine ⟨by rw [e10]; exact vp_in_nI (by omega) (by omega), nm_r (e' := -1) (by rw [e10, nI_clamp (by omega)]; exact hv.2 (fun z => a z.2)) (br_t rfl ?_)⟩
    exact h 1000000000 (by omega) ⟨fun y => absurd y a, fun _ => rfl⟩
theorem ox_shorten (T : ot_T n d m co ne ef be go aC aN aE aB aG) (hX : ot_XF n m ne ef (fun _ => False) R k od mv f) (hR : ∀ s o, R s → o < m → ot_ap n ne o s → R (ot_nx ef o s n)) {mt : Int32} {s : Nat} (hs : R s) {w0 : Nat → Nat} {D : Nat → Nat → Prop} (hw : ot_RM R w rm) (hI : ot_Rx (ot_EX n m ne ef R) co g D w0 w) {post : Int32 → SX → Prop} (h : ∀ r rm' w', (r = 0 → w' = w) → ot_RM R w' rm' → ot_Rx (ot_EX n m ne ef R) co g (fun o' s' => D o' s' ∨ s' = s) w0 w' → post r (nI n, nI d, nI m, mt, lc, aC, aN, aE, aB, aG, od, sn, mv, rm', bd, ls, ah)) : wpX_shorten post (nI n, nI d, nI m, mt, lc, aC, aN, aE, aB, aG, od, sn, mv, rm, bd, ls, ah) (nI s) := by
  have T0 := T
  obtain ⟨⟨⟨hn1, hn⟩, ⟨hd1, hd⟩, hm⟩, ⟨hC, hco⟩, ⟨hN, hne⟩, ⟨hE, hef⟩, ⟨hB, hbe⟩, ⟨hG, hgo⟩⟩ := T
  have slt := (hX.2.1 s hs).1
  have key : ∀ fu o r rm' w', (r = 0 ∨ r = 1) → (r = 0 → w' = w) → o ≤ m → m - o < fu → ot_RM R w' rm' → ot_Rx (ot_EX n m ne ef R) co g (fun o' s' => D o' s' ∨ (o' < o ∧ s' = s)) w0 w' → wX_shorten_4 post (nI s) (nI n) (nI d) (nI m) mt lc fu r (nI o) aC aN aE aB aG od sn mv rm' bd ls ah := by
    intro fu
    induction fu with
    | zero => intro o r rm' w' _ _ _ h; omega
    | succ fu ih =>
    intro o r rm' w' hr hr0 hom hfu hw' hI'
    rcases Nat.lt_or_ge o m with z | z
    · refine br_f (nI_ge z (by omega)) (ox_wayBy T0 hX hR hw' hs z (fun x hx hy => ?_))
      have l1 := hw'.1 s
      refine ⟨vp_in_nI slt (by omega), ?_⟩
      rw [nI_clamp (by omega), hw'.2.1 s hs]
      have hD : ∀ o' s', (D o' s' ∨ (o' < o + 1 ∧ s' = s)) → (D o' s' ∨ (o' < o ∧ s' = s)) ∨ (o' = o ∧ s' = s) := fun o' s' y => by
        rcases y with y | ⟨y1, y2⟩
        · exact Or.inl (Or.inl y)
        · rcases Nat.lt_or_ge o' o with q | q
          · exact Or.inl (Or.inr ⟨q, y2⟩)
          · exact Or.inr ⟨by omega, y2⟩
      rcases Nat.lt_or_ge x (w' s) with y | y
      · refine br_f (nI_ge y (by omega)) ⟨vp_in_nI slt (by omega), nm_r (e' := upd rm' s (nI x)) rfl (nm_r (nI_1 o) (ih (o + 1) 1 _ (ot_up w' s x) (Or.inr rfl) (fun q => absurd q (by decide)) (by omega) (by omega) (ot_RMup hw' hs (by omega)) ?_))⟩
        rcases Classical.em (ot_ap n ne o s ∧ w' (ot_nx ef o s n) ≠ 1000000000) with ⟨q1, q2⟩ | q
        · exact ot_RxD (ot_Rxle hI' (hco o) slt (fun t' he => he.2.2.2) ⟨hs, z, q1, rfl⟩ q2 (hy.1 q1 q2) y) (fun o' s' _ _ => hD o' s')
        · have := hy.2 q; omega
      · refine br_t (nI_le y (by omega)) (nm_r (nI_1 o) (ih (o + 1) r rm' w' hr hr0 (by omega) (by omega) hw' ?_))
        refine ot_RxD (ot_Rxge hI' (fun t he ht => ?_)) (fun o' s' _ _ => hD o' s')
        obtain ⟨-, -, q1, rfl⟩ := he
        have := hy.1 q1 ht; omega
    · refine br_t (nI_le z (by omega)) ⟨by rcases hr with q | q <;> rw [q] <;> rfl, h r rm' w' hr0 hw' (ot_RxD hI' (fun o' s' t he y => y.imp id (fun q => ⟨by have := he.2.1; omega, q⟩)))⟩
  exact ⟨m + 1, key (m + 1) 0 0 rm w (Or.inl rfl) (fun _ => rfl) (Nat.zero_le _) (by omega) hw (ot_RxD hI (fun o' s' _ _ y => y.elim id (fun q => by omega)))⟩
theorem ox_me24 (T : ot_T n d m co ne ef be go aC aN aE aB aG) (hX : ot_XF n m ne ef (fun _ => False) R k od mv f) (hk : k ≤ 1024) (hR : ∀ s o, R s → o < m → ot_ap n ne o s → R (ot_nx ef o s n)) {w0 : Nat → Nat} {post : SX → Prop} {J : Int32 → Int32 → Int32 → Int32 → Int32 → Int32 → Int32 → (Nat → Int32) → (Nat → Int32) → (Nat → Int32) → (Nat → Int32) → (Nat → Int32) → (Nat → Int32) → (Nat → Int32) → (Nat → Int32) → (Nat → Int32) → (Nat → Int32) → (Nat → Int32) → (Nat → Int32) → Prop} {r : Nat}
    (hJ : ∀ c rm w, (c = 0 → w = w0) → ot_RM R w rm → ot_Rx (ot_EX n m ne ef R) co g (fun _ _ => True) w0 w → J c (nI (r + 1)) (nI n) (nI d) (nI m) (nI k) lc aC aN aE aB aG od sn mv rm bd ls ah) :
    ∀ fu j c rm w, j ≤ k → j < fu → (c = 0 → w = w0) → ot_RM R w rm → ot_Rx (ot_EX n m ne ef R) co g (fun _ s => ∃ i, j ≤ i ∧ i < k ∧ f i = s) w0 w → wX_measure_24 post J (nI r) fu c (ot_rv j) (nI n) (nI d) (nI m) (nI k) lc aC aN aE aB aG od sn mv rm bd ls ah := by
  have T0 := T
  obtain ⟨⟨⟨hn1, hn⟩, ⟨hd1, hd⟩, hm⟩, ⟨hC, hco⟩, ⟨hN, hne⟩, ⟨hE, hef⟩, ⟨hB, hbe⟩, ⟨hG, hgo⟩⟩ := T
  intro fu
  induction fu with
  | zero => intro j c rm w _ h; omega
  | succ fu ih =>
  intro j c rm w hj hfu hc hw hI
  rcases Classical.em (j = 0) with z | z
  · subst z
    exact br_t ((ot_rvlt (by omega)).mpr rfl) (nm_r (nI_1 r) (hJ c rm w hc hw (ot_RxD hI (fun o s t he _ => by
      obtain ⟨i, hi, e⟩ := (hX.2.1 s he.1).2
      exact ⟨i, Nat.zero_le _, hi, e⟩))))
  · obtain ⟨q, rfl⟩ : ∃ q, j = q + 1 := ⟨j - 1, by omega⟩
    have e := hX.1 q (by omega)
    refine br_f (fun y => z ((ot_rvlt (by omega)).mp y)) ?_
    rw [ot_rvs]
    refine ⟨vp_in_nI (by omega) (by omega), ?_⟩
    rw [nI_clamp (by omega), e.1]
    have hDn : ∀ o s t, ot_EX n m ne ef R o s t → (∃ i, q ≤ i ∧ i < k ∧ f i = s) → (∃ i, q + 1 ≤ i ∧ i < k ∧ f i = s) ∨ s = f q := fun o s t _ ⟨i, h1, h2, h3⟩ => by
      rcases Classical.em (i = q) with y | y
      · subst y; exact Or.inr h3.symm
      · exact Or.inl ⟨i, by omega, h2, h3⟩
    refine ox_shorten T0 hX hR e.2.2 hw hI (fun x rm' w' hx hw' hI' => ?_)
    rcases Classical.em (x = 0) with y | y
    · exact br_t y (nm_r (ot_rvd q) (ih q c rm' w' (by omega) (by omega) (fun p => (hx y).trans (hc p)) hw' (ot_RxD hI' hDn)))
    · exact br_f y (nm_r (ot_rvd q) (ih q 1 rm' w' (by omega) (by omega) (fun p => absurd p (by decide)) hw' (ot_RxD hI' hDn)))
theorem ox_measure (T : ot_T n d m co ne ef be go aC aN aE aB aG) (hX : ot_XF n m ne ef (fun _ => False) R k od mv f) (hk : k ≤ 1024) (hR : ∀ s o, R s → o < m → ot_ap n ne o s → R (ot_nx ef o s n)) (hw : ot_RM R w rm) (hI : ot_I (ot_EX n m ne ef R) co g w) (hg : ∀ s, g s → w s = 0) {post : SX → Prop}
    (h : ∀ rm w, ot_RM R w rm → ot_I (ot_EX n m ne ef R) co g w → ot_S (ot_EX n m ne ef R) co g w → post (nI n, nI d, nI m, nI k, lc, aC, aN, aE, aB, aG, od, sn, mv, rm, bd, ls, ah)) : wpX_measure post (nI n, nI d, nI m, nI k, lc, aC, aN, aE, aB, aG, od, sn, mv, rm, bd, ls, ah) := by
  have T0 := T
  obtain ⟨⟨⟨hn1, hn⟩, ⟨hd1, hd⟩, hm⟩, ⟨hC, hco⟩, ⟨hN, hne⟩, ⟨hE, hef⟩, ⟨hB, hbe⟩, ⟨hG, hgo⟩⟩ := T
  have hlt : ∀ o s t, ot_EX n m ne ef R o s t → s < 1024 := fun o s t he => (hX.2.1 s he.1).1
  have key : ∀ fu r c rm w, r ≤ 1024 → 1024 - r < fu → (c = 0 → ot_S (ot_EX n m ne ef R) co g w) → ot_RM R w rm → ot_I (ot_EX n m ne ef R) co g w → ot_Q (ot_EX n m ne ef R) co g r w → wX_measure_4 post fu c (nI r) (nI n) (nI d) (nI m) (nI k) lc aC aN aE aB aG od sn mv rm bd ls ah := by
    intro fu
    induction fu with
    | zero => intro r c rm w _ h; omega
    | succ fu ih =>
    intro r c rm w hr hfu hc hw hI hQ
    rcases Classical.em (c = 0) with z | z
    · exact br_t z (h rm w hw hI (hc z))
    · refine br_f z ?_
      rcases Nat.lt_or_ge r 1024 with y | y
      · refine br_f (nI_ge (b := 1024) y (by decide)) (nm_r (e' := ot_rv k) rfl ⟨k + 1, ox_me24 (g := g) (w0 := w) T0 hX hk hR (fun c' rm' w' hc' hw' hI' => ?_) (k + 1) k 0 rm w (Nat.le_refl _) (by omega) (fun _ => rfl) hw (ot_RxD (ot_Rx0 hI hw.1) (fun o s t _ ⟨i, h1, h2, _⟩ => by omega))⟩)
        have q := ot_Qs hQ hI'.2.1 hw.1 (fun o s t he ht => hI'.2.2.2 o s t he trivial ht)
        refine ih (r + 1) c' rm' w' (by omega) (by omega) (fun p => ?_) hw' hI'.1 q
        have e := hc' p
        subst e
        exact ⟨hw.1, fun s hs => by have := hQ 0 s 0 (Nat.zero_le _) ⟨hs, rfl⟩; omega, fun o s t he ht => hI'.2.2.2 o s t he trivial ht⟩
      · exact br_t (nI_le (a := 1024) y (by omega)) (h rm w hw hI (ot_Qe hQ (by omega) hI hw.1 hco hlt))
  exact ⟨1025, key 1025 0 1 rm w (by omega) (by omega) (fun p => absurd p (by decide)) hw hI (ot_Q0 hg)⟩
end
