/-! bounds: a round of the component -/
def ot_Hc (n m : Nat) (ne ef co : Nat → Nat) (pr : Prop) (Dn : Nat → Nat → Nat → Prop) (b0 b : Nat → Nat) : Prop := ∀ o f g, o < m → f < 4 * n → g < 4 * n → (pr ∨ f = g) → (f = g ∨ f / 4 ≠ g / 4) → ot_bg ef o f g → Dn o f g → ∀ k, (∀ a c, ot_rs n ne ef o f g a → ot_rs n ne ef o f g c → (pr ∨ a = c) → b0 (20 * a + c) ≤ k) → b (20 * f + g) ≤ k + co o
def ot_Sy (b : Nat → Nat) : Prop := ∀ f g, f < 20 → g < 20 → b (20 * f + g) = b (20 * g + f)
def ot_Bx (n m : Nat) (ne ef co be : Nat → Nat) (pr : Prop) (Dn : Nat → Nat → Nat → Prop) (b0 b : Nat → Nat) : Prop := ot_J (ot_Z n be pr) (ot_H n m ne ef co pr) (ot_dm pr) 1000000000 b ∧ (∀ p, b p ≤ b0 p) ∧ (∀ p, b0 p ≤ 1000000000) ∧ ot_Sy b ∧ (∀ p, ot_Z n be True p → b p = 0) ∧ ot_Hc n m ne ef co pr Dn b0 b
theorem ot_prs {pr : Prop} {a c : Nat} (h : pr ∨ a = c) : pr ∨ c = a := h.imp id Eq.symm
section
variable {n d m : Nat} {co ne ef be go : Nat → Nat} {aC aN aE aB aG od sn mv rm bd ls ah : Nat → Int32} {mt lc : Int32} {pr : Prop} {Dn : Nat → Nat → Nat → Prop} {b0 b : Nat → Nat}
theorem ot_GMle {o f g k M : Nat} {lf : Nat → Nat} (H : ot_LS (ot_rs n ne ef o f g) k ls lf) (G : ot_GM pr k lf b M) (hle : ∀ p, b p ≤ b0 p) {q : Nat} (h : ∀ a c, ot_rs n ne ef o f g a → ot_rs n ne ef o f g c → (pr ∨ a = c) → b0 (20 * a + c) ≤ q) : M ≤ q := by
  rcases G.2 with z | ⟨i, j, h1, h2, h3, h4⟩
  · omega
  · have a := h (lf i) (lf j) ((H.2 _).mpr ⟨i, by omega, rfl⟩) ((H.2 _).mpr ⟨j, h2, rfl⟩) (h3.imp id (fun e => by rw [e]))
    have c := hle (20 * lf i + lf j)
    omega
theorem ot_GMD (hn : n ≤ 5) (hd : d ≤ 4) (hne : ∀ j, ne j ≤ d) (hbe : ∀ j, be j < d) {I o f g k M : Nat} {lf : Nat → Nat} (H : ot_LS (ot_rs n ne ef o f g) k ls lf) (G : ot_GM pr k lf b M) (hM : M < I) (hJ : ∀ p, ot_dm pr p → b p < I → ot_D (ot_Z n be pr) (ot_H n m ne ef co pr) p (b p)) {a c : Nat} (ha : ot_rs n ne ef o f g a) (hc : ot_rs n ne ef o f g c) (hp : pr ∨ a = c) : ot_D (ot_Z n be pr) (ot_H n m ne ef co pr) (20 * a + c) M := by
  obtain ⟨i, hi, rfl⟩ := (H.2 _).mp ha
  obtain ⟨j, hj, rfl⟩ := (H.2 _).mp hc
  have li := (H.1 i hi).2
  have lj := (H.1 j hj).2
  have one : ∀ i j, i ≤ j → j < k → (pr ∨ i = j) → lf i < 20 → lf j < 20 → ot_D (ot_Z n be pr) (ot_H n m ne ef co pr) (20 * lf i + lf j) M := fun i j h1 h2 h3 l1 l2 => by
    have q := G.1 i j h1 h2 h3
    exact ot_Dm (hJ _ ⟨lf i, lf j, l1, l2, h3.imp id (fun e => by rw [e]), rfl⟩ (by omega)) q
  rcases hp with p | p
  · rcases Nat.lt_or_ge j i with z | z
    · exact ot_Dsym hn hd hne (fun v _ => hbe v) lj li (one j i (by omega) hi (Or.inl p) lj li)
    · exact one i j z hj (Or.inl p) li lj
  · rw [← p]
    exact one i i (Nat.le_refl _) hi (Or.inr rfl) li li
theorem ot_HcD {Dn' : Nat → Nat → Nat → Prop} (h : ot_Hc n m ne ef co pr Dn b0 b) (hD : ∀ o f g, f < 4 * n → g < 4 * n → (pr ∨ f = g) → (f = g ∨ f / 4 ≠ g / 4) → Dn' o f g → Dn o f g) : ot_Hc n m ne ef co pr Dn' b0 b := fun o f g ho hf hg hp hx hb hd k hk => h o f g ho hf hg hp hx hb (hD o f g hf hg hp hx hd) k hk
theorem ot_BxD {Dn' : Nat → Nat → Nat → Prop} (h : ot_Bx n m ne ef co be pr Dn b0 b) (hD : ∀ o f g, f < 4 * n → g < 4 * n → (pr ∨ f = g) → (f = g ∨ f / 4 ≠ g / 4) → Dn' o f g → Dn o f g) : ot_Bx n m ne ef co be pr Dn' b0 b := ⟨h.1, h.2.1, h.2.2.1, h.2.2.2.1, h.2.2.2.2.1, ot_HcD h.2.2.2.2.2 hD⟩
theorem ot_Bxge {o f g k M : Nat} {lf : Nat → Nat} (B : ot_Bx n m ne ef co be pr Dn b0 b) (H : ot_LS (ot_rs n ne ef o f g) k ls lf) (G : ot_GM pr k lf b M) (hl : b (20 * f + g) ≤ M + co o) : ot_Bx n m ne ef co be pr (fun o' f' g' => Dn o' f' g' ∨ (o' = o ∧ f' = f ∧ g' = g)) b0 b := by
  refine ⟨B.1, B.2.1, B.2.2.1, B.2.2.2.1, B.2.2.2.2.1, fun o' f' g' ho hf hg hp hx hb hd q hq => ?_⟩
  rcases hd with hd | ⟨e1, e2, e3⟩
  · exact B.2.2.2.2.2 o' f' g' ho hf hg hp hx hb hd q hq
  · subst e1 e2 e3
    have := ot_GMle H G B.2.1 hq
    omega
theorem ot_Bxle (T : ot_T n d m co ne ef be go aC aN aE aB aG) {o f g k M : Nat} {lf : Nat → Nat} (B : ot_Bx n m ne ef co be pr Dn b0 b) (ho : o < m) (hf : f < 4 * n) (hg : g < 4 * n) (hp : pr ∨ f = g) (hx : f = g ∨ f / 4 ≠ g / 4) (hb : ot_bg ef o f g) (H : ot_LS (ot_rs n ne ef o f g) k ls lf) (G : ot_GM pr k lf b M) (hl : M + co o < b (20 * f + g)) : ot_Bx n m ne ef co be pr (fun o' f' g' => Dn o' f' g' ∨ (o' = o ∧ f' = f ∧ g' = g)) b0 (ot_up (ot_up b (20 * f + g) (M + co o)) (20 * g + f) (M + co o)) := by
  obtain ⟨⟨⟨hn1, hn⟩, ⟨hd1, hd⟩, hm⟩, ⟨hC, hco⟩, ⟨hN, hne⟩, ⟨hE, hef⟩, ⟨hB, hbe⟩, ⟨hG, hgo⟩⟩ := T
  have sy := B.2.2.2.1 f g (by omega) (by omega)
  have bi := fun p => Nat.le_trans (B.2.1 p) (B.2.2.1 p)
  have b9 := bi (20 * f + g)
  have D1 : ot_D (ot_Z n be pr) (ot_H n m ne ef co pr) (20 * f + g) (M + co o) := ot_Dh (Q := fun q => ∃ a c, ot_rs n ne ef o f g a ∧ ot_rs n ne ef o f g c ∧ (pr ∨ a = c) ∧ q = 20 * a + c) ⟨o, f, g, ho, hf, hg, rfl, hp, hx, hb, rfl, rfl⟩ (fun q ⟨a, c, ha, hc, hac, e⟩ => by
    rw [e]
    exact ot_GMD hn hd hne hbe H G (by omega) (fun p hd' hp' => (B.1 p hd' hp').1) ha hc hac)
  have D2 := ot_Dsym (pr := pr) hn hd hne (fun v _ => hbe v) (by omega) (by omega) D1
  have zz : ∃ z, z < 400 ∧ b z = 0 := ⟨20 * (4 * 0 + be 0) + (4 * 0 + be 0), by have := hbe 0; omega, B.2.2.2.2.1 _ ⟨0, 0, by omega, by omega, Or.inl trivial, rfl⟩⟩
  obtain ⟨z, z4, z0⟩ := zz
  have hM : M = 0 ∨ ∃ q, q < 400 ∧ ot_dm pr q ∧ b q = M := by
    rcases G.2 with y | ⟨i, j, h1, h2, h3, h4⟩
    · exact Or.inl y
    · have li := (H.1 i (by omega)).2
      have lj := (H.1 j h2).2
      exact Or.inr ⟨20 * lf i + lf j, by omega, ⟨lf i, lf j, li, lj, h3.imp id (fun e => by rw [e]), rfl⟩, h4⟩
  have J1 := ot_Jup B.1 D1 (hco o) hl b9 hM ⟨z4, z0⟩
  have le1 := ot_ule (w := b) (s := 20 * f + g) (Nat.le_of_lt hl)
  have J2 : ot_J (ot_Z n be pr) (ot_H n m ne ef co pr) (ot_dm pr) 1000000000 (ot_up (ot_up b (20 * f + g) (M + co o)) (20 * g + f) (M + co o)) := by
    rcases Classical.em (f = g) with e | e
    · subst e
      have : ot_up (ot_up b (20 * f + f) (M + co o)) (20 * f + f) (M + co o) = ot_up b (20 * f + f) (M + co o) := by
        funext j
        rcases Classical.em (j = 20 * f + f) with q | q
        · rw [q, ot_us, ot_us]
        · rw [ot_un q]
      rw [this]; exact J1
    · have ne1 : 20 * g + f ≠ 20 * f + g := by omega
      refine ot_Jup J1 D2 (hco o) (by rw [ot_un ne1]; omega) (by rw [ot_un ne1]; omega) ?_ ⟨z4, by rw [ot_un (fun y => by rw [y] at z0; omega)]; exact z0⟩
      rcases hM with y | ⟨q, q1, q2, q3⟩
      · exact Or.inl y
      · exact Or.inr ⟨q, q1, q2, by rw [ot_un (fun y => by rw [y] at q3; omega)]; exact q3⟩
  have le2 : ∀ p, ot_up (ot_up b (20 * f + g) (M + co o)) (20 * g + f) (M + co o) p ≤ b p := fun p => by
    rcases Classical.em (p = 20 * g + f) with e | e
    · rw [e, ot_us]; omega
    · rw [ot_un e]; exact le1 p
  have at1 : ot_up (ot_up b (20 * f + g) (M + co o)) (20 * g + f) (M + co o) (20 * f + g) = M + co o := by
    rcases Classical.em (20 * f + g = 20 * g + f) with e | e
    · rw [e, ot_us]
    · rw [ot_un e, ot_us]
  refine ⟨J2, fun p => Nat.le_trans (le2 p) (B.2.1 p), B.2.2.1, fun f' g' hf' hg' => ?_, fun p hp' => by have := B.2.2.2.2.1 p hp'; have := le2 p; omega, fun o' f' g' ho' hf' hg' hp' hx' hb' hd' q hq => ?_⟩
  · rcases Classical.em ((f' = f ∧ g' = g) ∨ (f' = g ∧ g' = f)) with e | e
    · rcases e with ⟨e1, e2⟩ | ⟨e1, e2⟩
      · subst e1 e2; rw [at1, ot_us]
      · subst e1 e2; rw [at1, ot_us]
    · rw [ot_un (by omega), ot_un (by omega), ot_un (by omega), ot_un (by omega)]
      exact B.2.2.2.1 f' g' hf' hg'
  · rcases hd' with hd' | ⟨e1, e2, e3⟩
    · exact Nat.le_trans (le2 _) (B.2.2.2.2.2 o' f' g' ho' hf' hg' hp' hx' hb' hd' q hq)
    · subst e1 e2 e3
      have := ot_GMle H G B.2.1 hq
      rw [at1]
      omega
theorem ot_BDup {I x p : Nat} (h : ot_BD I b bd) (hx : x ≤ I) : ot_BD I (ot_up b p x) (upd bd p (nI x)) := by
  refine ⟨fun q => ?_, fun q hq => ?_⟩
  · rcases Classical.em (q = p) with e | e
    · rw [e, ot_us]; exact hx
    · rw [ot_un e]; exact h.1 q
  · rcases Classical.em (q = p) with e | e
    · rw [e, ot_us, pk_us]
    · rw [ot_un e, pk_un e]; exact h.2 q hq
theorem ox_lower (T : ot_T n d m co ne ef be go aC aN aE aB aG) {x3 : Int32} (hx3 : ot_md x3 pr) {f g : Nat} (hf : f < 4 * n) (hg : g < 4 * n) (hp : pr ∨ f = g) (hBb : ot_BD 1000000000 b bd) (B : ot_Bx n m ne ef co be pr Dn b0 b) {post : Int32 → SX → Prop} (hP : ∀ r lc ls bd b', (r = 0 → b' = b) → ot_BD 1000000000 b' bd → ot_Bx n m ne ef co be pr (fun o f' g' => Dn o f' g' ∨ (f' = f ∧ g' = g)) b0 b' → post r (nI n, nI d, nI m, mt, lc, aC, aN, aE, aB, aG, od, sn, mv, rm, bd, ls, ah)) : wpX_lowerBound post (nI n, nI d, nI m, mt, lc, aC, aN, aE, aB, aG, od, sn, mv, rm, bd, ls, ah) (nI f) (nI g) x3 := by
  have T0 := T
  obtain ⟨⟨⟨hn1, hn⟩, ⟨hd1, hd⟩, hm⟩, ⟨hC, hco⟩, ⟨hN, hne⟩, ⟨hE, hef⟩, ⟨hB, hbe⟩, ⟨hG, hgo⟩⟩ := T
  have e4f : nI f / 4 = nI (f / 4) := pk_div (d := 4) (by omega) (by omega) (by omega)
  have e4g : nI g / 4 = nI (g / 4) := pk_div (d := 4) (by omega) (by omega) (by omega)
  have efg : nI f * 20 + nI g = nI (20 * f + g) := by rw [show nI f * 20 = nI (f * 20) from pk_mul f 20, nI_add, Nat.mul_comm]
  have egf : nI g * 20 + nI f = nI (20 * g + f) := by rw [show nI g * 20 = nI (g * 20) from pk_mul g 20, nI_add, Nat.mul_comm]
  have ifg : vp_in (nI (20 * f + g)) 400 := vp_in_nI (by omega) (by omega)
  have igf : vp_in (nI (20 * g + f)) 400 := vp_in_nI (by omega) (by omega)
  have key : (f = g ∨ f / 4 ≠ g / 4) → ∀ fu o r lc ls bd b', (r = 0 ∨ r = 1) → (r = 0 → b' = b) → o ≤ m → m - o < fu → ot_BD 1000000000 b' bd → ot_Bx n m ne ef co be pr (fun o' f' g' => Dn o' f' g' ∨ (o' < o ∧ f' = f ∧ g' = g)) b0 b' → wX_lowerBound_22 post (nI f) (nI g) x3 fu r (nI o) (nI n) (nI d) (nI m) mt lc aC aN aE aB aG od sn mv rm bd ls ah := by
    intro hx fu
    induction fu with
    | zero => intro o r lc ls bd b' _ _ _ h; omega
    | succ fu ih =>
    intro o r lc ls bd b' hr hr0 ho hfu hB' B'
    rcases Nat.lt_or_ge o m with z | z
    · have hD : ∀ o' f' g', (Dn o' f' g' ∨ (o' < o + 1 ∧ f' = f ∧ g' = g)) → (Dn o' f' g' ∨ (o' < o ∧ f' = f ∧ g' = g)) ∨ (o' = o ∧ f' = f ∧ g' = g) := fun o' f' g' y => by
        rcases y with y | ⟨y1, y2⟩
        · exact Or.inl (Or.inl y)
        · rcases Nat.lt_or_ge o' o with q | q
          · exact Or.inl (Or.inr ⟨q, y2⟩)
          · exact Or.inr ⟨by omega, y2⟩
      refine br_f (nI_ge z (by omega)) (ox_brings T0 (by omega) (by omega) (by omega) (fun hb => br_f ot_01' ?_) (fun hb => br_t rfl (nm_r (nI_1 o) (ih (o + 1) r lc ls bd b' hr hr0 (by omega) (by omega) hB' ?_))))
      · refine ox_rest T0 (by omega) (by omega) (by omega) hb (fun k ls lf hk H => ?_)
        refine ox_greatest (pr := pr) H hk hB' hx3 (fun M hM G => ⟨vp_in_nI (by omega) (by omega), ?_⟩)
        have c9 := hco o
        have l := hB'.1 (20 * f + g)
        refine nm_r (e' := nI (M + co o)) (by rw [nI_clamp (by omega), hC o (by omega), nI_add]) ?_
        rw [efg, egf]
        refine ⟨ifg, ?_⟩
        rw [nI_clamp (n := 20 * f + g) (by omega), nI_clamp (n := 20 * g + f) (by omega), hB'.2 _ (by omega)]
        rcases Nat.lt_or_ge (M + co o) (b' (20 * f + g)) with y | y
        · refine br_f (nI_ge y (by omega)) ⟨ifg, nm_e ⟨igf, nm_e (nm_r (nI_1 o) (ih (o + 1) 1 (nI k) ls _ _ (Or.inr rfl) (fun q => absurd q ot_01') (by omega) (by omega) (ot_BDup (ot_BDup hB' (by omega)) (by omega)) (ot_BxD (ot_Bxle T0 B' z hf hg hp hx hb H G y) (fun o' f' g' _ _ _ _ => hD o' f' g'))))⟩⟩
        · exact br_t (nI_le y (by omega)) (nm_r (nI_1 o) (ih (o + 1) r (nI k) ls bd b' hr hr0 (by omega) (by omega) hB' (ot_BxD (ot_Bxge B' H G y) (fun o' f' g' _ _ _ _ => hD o' f' g'))))
      · refine ⟨B'.1, B'.2.1, B'.2.2.1, B'.2.2.2.1, B'.2.2.2.2.1, fun o' f' g' a1 a2 a3 a4 a5 a6 a7 q hq => ?_⟩
        rcases hD o' f' g' a7 with y | ⟨y1, y2, y3⟩
        · exact B'.2.2.2.2.2 o' f' g' a1 a2 a3 a4 a5 a6 y q hq
        · subst y1 y2 y3; exact absurd a6 hb
    · refine br_t (nI_le z (by omega)) ⟨by rcases hr with q | q <;> rw [q] <;> rfl, hP r lc ls bd b' hr0 hB' ?_⟩
      refine ⟨B'.1, B'.2.1, B'.2.2.1, B'.2.2.2.1, B'.2.2.2.2.1, fun o' f' g' a1 a2 a3 a4 a5 a6 a7 q hq => B'.2.2.2.2.2 o' f' g' a1 a2 a3 a4 a5 a6 (a7.imp id (fun y => ⟨by omega, y⟩)) q hq⟩
  have start : (f = g ∨ f / 4 ≠ g / 4) → ∃ n22 : Nat, wX_lowerBound_22 post (nI f) (nI g) x3 n22 0 0 (nI n) (nI d) (nI m) mt lc aC aN aE aB aG od sn mv rm bd ls ah := fun hx => ⟨m + 1, key hx (m + 1) 0 0 lc ls bd b (Or.inl rfl) (fun _ => rfl) (Nat.zero_le _) (by omega) hBb (ot_BxD B (fun o' f' g' _ _ _ _ y => y.elim id (fun w => by omega)))⟩
  rcases Classical.em (f = g) with z | z
  · exact br_t (by rw [z]) (start (Or.inl z))
  · refine br_f (fun e => z ((nI_eq (by omega) (by omega)).mp e)) ⟨by decide, by decide, ?_⟩
    rw [e4f, e4g]
    rcases Classical.em (f / 4 = g / 4) with y | y
    · refine br_t (by rw [y]) (hP 0 lc ls bd b (fun _ => rfl) hBb (ot_BxD B (fun o' f' g' _ _ _ w u => u.elim id (fun q => ?_))))
      rw [q.1, q.2] at w
      exact absurd y (w.elim (fun e => absurd e z) id)
    · exact br_f (fun e => y ((nI_eq (by omega) (by omega)).mp e)) (start (Or.inr y))
end
