/-! bounds: the reference's lists -/
def ot_ij (k : Nat) (lf : Nat → Nat) : Prop := ∀ i j, i < k → j < k → lf i = lf j → i = j
def ot_tr (b : Nat → Nat) (p : Nat) : Nat := b (20 * (p % 20) + p / 20)
theorem ot_trv (b : Nat → Nat) {x y : Nat} (hy : y < 20) : ot_tr b (20 * x + y) = b (20 * y + x) := by
  unfold ot_tr
  rw [show (20 * x + y) % 20 = y by omega, show (20 * x + y) / 20 = x by omega]
def ot_mdy (x : Int32) (pr : Prop) : Prop := (x = 0 ∧ ¬ pr) ∨ (¬ x = 0 ∧ pr)
def ot_nc (k : Nat) (lf : Nat → Nat) : Prop := ∀ i j, i < k → j < i → lf i / 4 ≠ lf j / 4
def ot_cs (S : Nat → Prop) : Prop := ∃ a c, S a ∧ S c ∧ a ≠ c ∧ a / 4 = c / 4
section
variable {n d m : Nat} {co ne ef be go : Nat → Nat} {aC aN aE aB aG yl yf ym yb yd : Nat → Int32} {pr : Prop}
theorem oy_add {S : Nat → Prop} {k f : Nat} {yr : Nat → Int32} {lf : Nat → Nat} {x0 x1' x2' : Int32} (H : ot_LS S k yr lf) (hj : ot_ij k lf) (hk : k < 10) (hf : f < 20) {post : SY → Prop} (hP : ∀ k' yr lf, k' ≤ k + 1 → ot_LS (fun q => S q ∨ q = f) k' yr lf → ot_ij k' lf → post (x0, x1', x2', nI k', aC, aN, aE, aB, aG, yl, yf, ym, yb, yd, yr)) : wpY_addRest post (x0, x1', x2', nI k, aC, aN, aE, aB, aG, yl, yf, ym, yb, yd, yr) (nI f) := by
  refine loop_0 (σ := Unit) (fun fu i _ => wY_addRest_2 post (nI f) x0 x1' x2' (nI k) aC aN aE aB aG yl yf ym yb yd yr fu (nI i)) (fun i _ => ∀ j, j < i → lf j ≠ f) k () (fun j hj => by omega) ?_ ?_
  · intro fu _ hI
    refine br_t (nI_le (Nat.le_refl _) (by omega)) ⟨vp_in_nI hk (by omega), nm_r (e' := upd yr k (nI f)) (by rw [nI_clamp (by omega)]) (nm_r (nI_1 k) (hP (k + 1) _ (ot_up lf k f) (Nat.le_refl _) (ot_LSup H hf (fun q => Iff.rfl)) (fun i j hi hj' e => ?_)))⟩
    rcases Classical.em (i = k) with a | a
    · rcases Classical.em (j = k) with b | b
      · omega
      · rw [a, ot_us, ot_un b] at e
        exact absurd e.symm (hI j (by omega))
    · rcases Classical.em (j = k) with b | b
      · rw [b, ot_us, ot_un a] at e
        exact absurd e (hI i (by omega))
      · rw [ot_un a, ot_un b] at e
        exact hj i j (by omega) (by omega) e
  · intro fu i _ hi hI ih
    have e := H.1 i hi
    refine br_f (nI_ge hi (by omega)) ⟨vp_in_nI (by omega) (by omega), ?_⟩
    rw [nI_clamp (by omega), e.1]
    rcases Classical.em (lf i = f) with z | z
    · refine br_t (by rw [z]) (hP k yr lf (by omega) (ot_LSc H (fun q => ⟨fun y => y.elim id (fun w => ?_), Or.inl⟩)) hj)
      exact (H.2 q).mpr ⟨i, hi, z.trans w.symm⟩
    · exact br_f (fun y => z ((nI_eq (by omega) (by omega)).mp y)) (nm_r (nI_1 i) (ih () (lt_s hI z)))
theorem oy_touch (T : ot_T n d m co ne ef be go aC aN aE aB aG) {rz : Int32} {yr : Nat → Int32} {o f : Nat} (ho : o < 10) (hf : f < 20) {post : Int32 → Prop} (h0 : ef (5 * o + f / 4) = 0 → post 0) (h1 : ef (5 * o + f / 4) = f % 4 + 1 → post 1) (h2 : ¬ (ef (5 * o + f / 4) = 0 ∨ ef (5 * o + f / 4) = f % 4 + 1) → post (-1)) : wpY_touches post (nI n, nI d, nI m, rz, aC, aN, aE, aB, aG, yl, yf, ym, yb, yd, yr) (nI o) (nI f) := by
  obtain ⟨⟨⟨hn1, hn⟩, ⟨hd1, hd⟩, hm⟩, ⟨hC, hco⟩, ⟨hN, hne⟩, ⟨hE, hef⟩, ⟨hB, hbe⟩, ⟨hG, hgo⟩⟩ := T
  have b := hef (5 * o + f / 4)
  have e4 : nI f / 4 = nI (f / 4) := pk_div (d := 4) (by omega) (by omega) (by omega)
  have er : nI f - nI f / 4 * 4 = nI (f % 4) := pk_rem (d := 4) (by omega) (by omega) (by omega)
  have e5 : 5 * nI o + nI (f / 4) = nI (5 * o + f / 4) := by rw [show 5 * nI o = nI (5 * o) from pk_mul 5 o, nI_add]
  refine ⟨by decide, by rw [e4, e5]; exact vp_in_nI (by omega) (by omega), nm_r (e' := ot_rv (ef (5 * o + f / 4))) (by rw [e4, e5, nI_clamp (by omega), hE _ (by omega)]) ?_⟩
  rcases Classical.em (ef (5 * o + f / 4) = 0) with y | y
  · exact br_f (fun q => (ot_rvg _ (by omega)).mp q y) (h0 y)
  · refine br_t ((ot_rvg _ (by omega)).mpr y) ⟨by decide, ?_⟩
    rw [er]
    rcases Classical.em (ef (5 * o + f / 4) = f % 4 + 1) with z | z
    · exact br_t ((ot_rve _ (by omega) _ (by omega)).mpr z) (h1 z)
    · exact br_f (fun q => z ((ot_rve _ (by omega) _ (by omega)).mp q)) (h2 (fun q => q.elim y z))
theorem oy_fr118 {S : Nat → Prop} {k : Nat} {yr : Nat → Int32} {lf : Nat → Nat} (H : ot_LS S k yr lf) (hj : ot_ij k lf) (hk : k ≤ 10) {post : Int32 → SY → Prop} (h0 : ot_cs S → post 0 (nI n, nI d, nI m, nI k, aC, aN, aE, aB, aG, yl, yf, ym, yb, yd, yr)) (h1 : ot_nc k lf → post 1 (nI n, nI d, nI m, nI k, aC, aN, aE, aB, aG, yl, yf, ym, yb, yd, yr)) : ∃ n118 : Nat, wY_findRest_118 post (nI n) (nI d) (nI m) (nI k) aC aN aE aB aG yl yf ym yb yd yr n118 0 := by
  have key : ∀ fu i, i ≤ k → k - i < fu → (∀ i' j, i' < i → j < i' → lf i' / 4 ≠ lf j / 4) → wY_findRest_118 post (nI n) (nI d) (nI m) (nI k) aC aN aE aB aG yl yf ym yb yd yr fu (nI i) := by
    intro fu
    induction fu with
    | zero => intro i _ h; omega
    | succ fu ih =>
    intro i hi hfu hI
    rcases Nat.lt_or_ge i k with z | z
    · refine br_f (nI_ge z (by omega)) ?_
      have ei := H.1 i z
      refine loop_0 (σ := Unit) (fun fu' j _ => wY_findRest_130 post (wY_findRest_118 post (nI n) (nI d) (nI m) (nI k) aC aN aE aB aG yl yf ym yb yd yr fu) (nI i) (nI n) (nI d) (nI m) (nI k) aC aN aE aB aG yl yf ym yb yd yr fu' (nI j)) (fun j _ => ∀ q, q < j → lf i / 4 ≠ lf q / 4) i () (fun q hq => by omega) ?_ ?_
      · intro fu' _ hJ
        exact br_t (nI_le (Nat.le_refl _) (by omega)) (nm_r (nI_1 i) (ih (i + 1) z (by omega) (fun i' j a c => by
          rcases Classical.em (i' = i) with q | q
          · subst q; exact hJ j c
          · exact hI i' j (by omega) c)))
      · intro fu' j _ hji hJ ih'
        have ej := H.1 j (by omega)
        have e4i : nI (lf i) / 4 = nI (lf i / 4) := pk_div (d := 4) (by omega) (by omega) (by omega)
        have e4j : nI (lf j) / 4 = nI (lf j / 4) := pk_div (d := 4) (by omega) (by omega) (by omega)
        refine br_f (nI_ge hji (by omega)) ⟨vp_in_nI (by omega) (by omega), by decide, vp_in_nI (by omega) (by omega), by decide, ?_⟩
        rw [nI_clamp (n := i) (by omega), nI_clamp (n := j) (by omega), ei.1, ej.1, e4i, e4j]
        rcases Classical.em (lf i / 4 = lf j / 4) with y | y
        · exact br_t (by rw [y]) (h0 ⟨lf i, lf j, (H.2 _).mpr ⟨i, z, rfl⟩, (H.2 _).mpr ⟨j, by omega, rfl⟩, fun e => by have := hj i j z (by omega) e; omega, y⟩)
        · exact br_f (fun e => y ((nI_eq (by omega) (by omega)).mp e)) (nm_r (nI_1 j) (ih' () (lt_s hJ y)))
    · exact br_t (nI_le z (by omega)) (h1 (fun i' j a c => hI i' j (by omega) c))
  exact ⟨k + 1, key (k + 1) 0 (Nat.zero_le _) (by omega) (fun i' j a => by omega)⟩
theorem oy_fr46 (T : ot_T n d m co ne ef be go aC aN aE aB aG) {o f g : Nat} (ho : o < 10) (hf : f < 20) (hg : g < 20) {x4 x5 : Int32} (hx4 : (x4 = 0 ∧ ef (5 * o + f / 4) = 0) ∨ (¬ x4 = 0 ∧ ef (5 * o + f / 4) ≠ 0)) (hx5 : (x5 = 0 ∧ ef (5 * o + g / 4) = 0) ∨ (¬ x5 = 0 ∧ ef (5 * o + g / 4) ≠ 0)) {yr : Nat → Int32} {post : Int32 → SY → Prop}
    (h0 : ot_cs (ot_rs n ne ef o f g) → ∀ rz yr, post 0 (nI n, nI d, nI m, rz, aC, aN, aE, aB, aG, yl, yf, ym, yb, yd, yr)) (h1 : ∀ k yr lf, k ≤ 10 → ot_LS (ot_rs n ne ef o f g) k yr lf → ot_nc k lf → post 1 (nI n, nI d, nI m, nI k, aC, aN, aE, aB, aG, yl, yf, ym, yb, yd, yr)) : ∃ n46 : Nat, wY_findRest_46 post (nI o) (nI f) (nI g) x4 x5 n46 0 (nI n) (nI d) (nI m) 0 aC aN aE aB aG yl yf ym yb yd yr := by
  obtain ⟨⟨⟨hn1, hn⟩, ⟨hd1, hd⟩, hm⟩, ⟨hC, hco⟩, ⟨hN, hne⟩, ⟨hE, hef⟩, ⟨hB, hbe⟩, ⟨hG, hgo⟩⟩ := T
  have fin : ∀ k yr lf, k ≤ 10 → ot_LS (ot_rs n ne ef o f g) k yr lf → ot_ij k lf → ∃ n118 : Nat, wY_findRest_118 post (nI n) (nI d) (nI m) (nI k) aC aN aE aB aG yl yf ym yb yd yr n118 0 := fun k yr lf hk H hj => oy_fr118 H hj hk (fun q => h0 q _ _) (fun q => h1 k yr lf hk H q)
  have f105 : ∀ k yr lf, k ≤ 6 → ot_LS (fun q => ot_fs ne (5 * o) n q ∨ (q = f ∧ ef (5 * o + f / 4) = 0)) k yr lf → ot_ij k lf → wY_findRest_105 post (nI g) x5 (nI n) (nI d) (nI m) (nI k) aC aN aE aB aG yl yf ym yb yd yr := fun k yr lf hk H hj => by
    rcases hx5 with ⟨a, b⟩ | ⟨a, b⟩
    · refine br_t a (oy_add H hj (by omega) hg (fun k' yr' lf' hk' H' hj' => fin k' yr' lf' (by omega) (ot_LSc H' (fun q => ?_)) hj'))
      exact ⟨fun z => z.elim (fun y => Or.inl (Or.inl y)) (fun y => y.elim (fun w => Or.inl (Or.inr w)) (fun w => Or.inr w.1)), fun z => z.elim (fun y => y.elim Or.inl (fun w => Or.inr (Or.inl w))) (fun w => Or.inr (Or.inr ⟨w, b⟩))⟩
    · refine br_f a (fin k yr lf (by omega) (ot_LSc H (fun q => ?_)) hj)
      exact ⟨fun z => z.elim Or.inl (fun y => y.elim Or.inr (fun w => absurd w.2 b)), fun z => z.elim Or.inl (fun w => Or.inr (Or.inl w))⟩
  have key : ∀ fu v k yr lf, v ≤ n → n - v < fu → k ≤ v → ot_LS (ot_fs ne (5 * o) v) k yr lf → ot_ij k lf → wY_findRest_46 post (nI o) (nI f) (nI g) x4 x5 fu (nI v) (nI n) (nI d) (nI m) (nI k) aC aN aE aB aG yl yf ym yb yd yr := by
    intro fu
    induction fu with
    | zero => intro v k yr lf _ h; omega
    | succ fu ih =>
    intro v k yr lf hv hfu hk H hj
    rcases Nat.lt_or_ge v n with z | z
    · have b := hne (5 * o + v)
      have e5 : 5 * nI o + nI v = nI (5 * o + v) := by rw [show 5 * nI o = nI (5 * o) from pk_mul 5 o, nI_add]
      have iv : vp_in (nI (5 * o + v)) 50 := vp_in_nI (by omega) (by omega)
      refine br_f (nI_ge z (by omega)) ?_
      rw [e5]
      refine ⟨iv, ?_⟩
      rw [nI_clamp (by omega), hN _ (by omega)]
      rcases Classical.em (ne (5 * o + v) = 0) with y | y
      · exact br_t ((ot_rvn _ (by omega)).mpr y) (nm_r (nI_1 v) (ih (v + 1) k yr lf (by omega) (by omega) (by omega) (ot_LSc H (ot_fs0 ne (5 * o) v y)) hj))
      · refine br_f (fun q => y ((ot_rvn _ (by omega)).mp q)) ⟨iv, ?_⟩
        have e4 : 4 * nI v + nI (ne (5 * o + v) - 1) = nI (4 * v + (ne (5 * o + v) - 1)) := by rw [show 4 * nI v = nI (4 * v) from pk_mul 4 v, nI_add]
        rw [ot_rvp y, e4]
        exact oy_add H hj (by omega) (by omega) (fun k' yr' lf' hk' H' hj' => nm_r (nI_1 v) (ih (v + 1) k' yr' lf' (by omega) (by omega) (by omega) (ot_LSc H' (ot_fs1 ne (5 * o) v y)) hj'))
    · have e : v = n := by omega
      subst e
      refine br_t (nI_le (Nat.le_refl _) (by omega)) ?_
      rcases hx4 with ⟨a, b⟩ | ⟨a, b⟩
      · refine br_t a (oy_add H hj (by omega) hf (fun k' yr' lf' hk' H' hj' => f105 k' yr' lf' (by omega) (ot_LSc H' (fun q => ?_)) hj'))
        exact ⟨fun z => z.imp id (fun w => w.1), fun z => z.imp id (fun w => ⟨w, b⟩)⟩
      · refine br_f a (f105 k yr lf (by omega) (ot_LSc H (fun q => ?_)) hj)
        exact ⟨fun z => z.elim id (fun w => absurd w.2 b), Or.inl⟩
  exact ⟨n + 1, key (n + 1) 0 0 yr _ (Nat.zero_le _) (by omega) (Nat.le_refl _) (ot_LSc ot_LS0 (fun q => ⟨fun ⟨u, hu, _⟩ => by omega, fun z => z.elim⟩)) (fun i j hi => by omega)⟩
theorem oy_findRest (T : ot_T n d m co ne ef be go aC aN aE aB aG) {o f g : Nat} (ho : o < 10) (hf : f < 20) (hg : g < 20) {rz : Int32} {yr : Nat → Int32} {post : Int32 → SY → Prop}
    (h0 : ¬ ot_bg ef o f g ∨ ot_cs (ot_rs n ne ef o f g) → ∀ rz yr, post 0 (nI n, nI d, nI m, rz, aC, aN, aE, aB, aG, yl, yf, ym, yb, yd, yr)) (h1 : ot_bg ef o f g → ∀ k yr lf, k ≤ 10 → ot_LS (ot_rs n ne ef o f g) k yr lf → ot_nc k lf → post 1 (nI n, nI d, nI m, nI k, aC, aN, aE, aB, aG, yl, yf, ym, yb, yd, yr)) : wpY_findRest post (nI n, nI d, nI m, rz, aC, aN, aE, aB, aG, yl, yf, ym, yb, yd, yr) (nI o) (nI f) (nI g) := by
  unfold wpY_findRest
  have m1 : (-1 : Int32) < 0 := by decide
  have n0 : ¬ (0 : Int32) < 0 := by decide
  have n1 : ¬ (1 : Int32) < 0 := by decide
  refine oy_touch T ho hf (fun a => oy_touch T ho hg (fun c => ?_) (fun c => ?_) (fun c => ?_)) (fun a => oy_touch T ho hg (fun c => ?_) (fun c => ?_) (fun c => ?_)) (fun a => oy_touch T ho hg (fun c => ?_) (fun c => ?_) (fun c => ?_))
  · exact br_f n0 (br_f n0 (br_t rfl (br_t rfl (h0 (Or.inl (fun q => by have := q.2.2; omega)) _ _))))
  · exact br_f n0 (br_f n1 (br_t rfl (br_f ot_01' (oy_fr46 T ho hf hg (Or.inl ⟨rfl, a⟩) (Or.inr ⟨ot_01', by omega⟩) (fun q => h0 (Or.inr q)) (h1 ⟨Or.inl a, Or.inr c, Or.inr c⟩)))))
  · exact br_f n0 (br_t m1 (h0 (Or.inl (fun q => c q.2.1)) _ _))
  · exact br_f n1 (br_f n0 (br_f ot_01' (oy_fr46 T ho hf hg (Or.inr ⟨ot_01', by omega⟩) (Or.inl ⟨rfl, c⟩) (fun q => h0 (Or.inr q)) (h1 ⟨Or.inr a, Or.inl c, Or.inl a⟩))))
  · exact br_f n1 (br_f n1 (br_f ot_01' (oy_fr46 T ho hf hg (Or.inr ⟨ot_01', by omega⟩) (Or.inr ⟨ot_01', by omega⟩) (fun q => h0 (Or.inr q)) (h1 ⟨Or.inr a, Or.inr c, Or.inl a⟩))))
  · exact br_f n1 (br_t m1 (h0 (Or.inl (fun q => c q.2.1)) _ _))
  · exact br_t m1 (h0 (Or.inl (fun q => a q.1)) _ _)
  · exact br_t m1 (h0 (Or.inl (fun q => a q.1)) _ _)
  · exact br_t m1 (h0 (Or.inl (fun q => a q.1)) _ _)
theorem oy_gr23 {S : Nat → Prop} {k i L0 : Nat} {yr : Nat → Int32} {lf b : Nat → Nat} (H : ot_LS S k yr lf) (hk : k ≤ 10) (hB : ot_BD 1000000 b yd) {x1 : Int32} {post : Int32 → Prop} {J : Int32 → Int32 → Prop} (hL : L0 ≤ i) (hi : i < k) (hpr : pr ∨ L0 = i) (hfull : pr → L0 = 0)
    (hJ : ∀ M, M ≤ 1000000 → (∀ i' j, j ≤ i' → i' < k → (pr ∨ j = i') → i' < i + 1 → b (20 * lf i' + lf j) ≤ M) → ot_Mx pr k lf (ot_tr b) M → J (nI M) (nI (i + 1))) :
    ∀ fu j M, L0 ≤ j → j ≤ i + 1 → i + 1 - j < fu → M ≤ 1000000 → (∀ i' j', j' ≤ i' → i' < k → (pr ∨ j' = i') → (i' < i ∨ (i' = i ∧ L0 ≤ j' ∧ j' < j)) → b (20 * lf i' + lf j') ≤ M) → ot_Mx pr k lf (ot_tr b) M → wY_greatestOfRest_23 post J x1 (nI i) (nI n) (nI d) (nI m) (nI k) aC aN aE aB aG yl yf ym yb yd yr fu (nI M) (nI j) := by
  intro fu
  induction fu with
  | zero => intro j M _ _ h; omega
  | succ fu ih =>
  intro j M hij hjL hfu hM h1 h2
  rcases Nat.lt_or_ge i j with z | z
  · refine br_t (nI_lt z (by omega)) (nm_r (nI_1 i) (hJ M hM (fun i' j' a c e g => h1 i' j' a c e ?_) h2))
    rcases Nat.lt_or_ge i' i with y | y
    · exact Or.inl y
    · refine Or.inr ⟨by omega, ?_, by omega⟩
      rcases e with e | e
      · have := hfull e; omega
      · omega
  · have ei := H.1 i hi
    have ej := H.1 j (by omega)
    have e20 : 20 * nI (lf i) + nI (lf j) = nI (20 * lf i + lf j) := by rw [show 20 * nI (lf i) = nI (20 * lf i) from pk_mul 20 (lf i), nI_add]
    have l := hB.1 (20 * lf i + lf j)
    have pj : pr ∨ j = i := hpr.imp id (fun q => by omega)
    refine br_f (nI_nlt z (by omega)) ⟨vp_in_nI (by omega) (by omega), vp_in_nI (by omega) (by omega), ?_⟩
    rw [nI_clamp (n := i) (by omega), nI_clamp (n := j) (by omega), ei.1, ej.1, e20]
    refine ⟨vp_in_nI (by omega) (by omega), nm_r (e' := nI (b (20 * lf i + lf j))) (by rw [nI_clamp (by omega)]; exact hB.2 _ (by omega)) ?_⟩
    rcases Nat.lt_or_ge M (b (20 * lf i + lf j)) with y | y
    · refine br_f (nI_ge y (by omega)) (nm_r (nI_1 j) (ih (j + 1) _ (by omega) (by omega) (by omega) l (fun i' j' a c e g => ?_) (Or.inr ⟨j, i, z, hi, pj, ot_trv b ei.2⟩)))
      rcases Classical.em (i' = i ∧ j' = j) with w | w
      · rw [w.1, w.2]; exact Nat.le_refl _
      · have := h1 i' j' a c e (by omega); omega
    · refine br_t (nI_le y (by omega)) (nm_r (nI_1 j) (ih (j + 1) M (by omega) (by omega) (by omega) hM (fun i' j' a c e g => ?_) h2))
      rcases Classical.em (i' = i ∧ j' = j) with w | w
      · rw [w.1, w.2]; exact y
      · exact h1 i' j' a c e (by omega)
theorem oy_greatest {S : Nat → Prop} {k : Nat} {yr : Nat → Int32} {lf b : Nat → Nat} (H : ot_LS S k yr lf) (hk : k ≤ 10) (hB : ot_BD 1000000 b yd) {x1 : Int32} (hx : ot_mdy x1 pr) {post : Int32 → Prop} (hP : ∀ M, M ≤ 1000000 → ot_GM pr k lf (ot_tr b) M → post (nI M)) : wpY_greatestOfRest post (nI n, nI d, nI m, nI k, aC, aN, aE, aB, aG, yl, yf, ym, yb, yd, yr) x1 := by
  have key : ∀ fu i M, i ≤ k → k - i < fu → M ≤ 1000000 → (∀ i' j, j ≤ i' → i' < k → (pr ∨ j = i') → i' < i → b (20 * lf i' + lf j) ≤ M) → ot_Mx pr k lf (ot_tr b) M → wY_greatestOfRest_4 post x1 (nI n) (nI d) (nI m) (nI k) aC aN aE aB aG yl yf ym yb yd yr fu (nI M) (nI i) := by
    intro fu
    induction fu with
    | zero => intro i M _ h; omega
    | succ fu ih =>
    intro i M hi hfu hM h1 h2
    rcases Nat.lt_or_ge i k with z | z
    · refine br_f (nI_ge z (by omega)) ?_
      rcases hx with ⟨x, p⟩ | ⟨x, p⟩
      · exact br_t x ⟨2, oy_gr23 (pr := pr) (L0 := i) H hk hB (Nat.le_refl _) z (Or.inr rfl) (fun q => absurd q p) (fun M' a b' c => ih (i + 1) M' (by omega) (by omega) a b' c) 2 i M (Nat.le_refl _) (by omega) (by omega) hM (fun i' j' a c e g => h1 i' j' a c e (by omega)) h2⟩
      · exact br_f x ⟨i + 2, oy_gr23 (pr := pr) (L0 := 0) H hk hB (Nat.zero_le _) z (Or.inl p) (fun _ => rfl) (fun M' a b' c => ih (i + 1) M' (by omega) (by omega) a b' c) (i + 2) 0 M (Nat.le_refl _) (by omega) (by omega) hM (fun i' j' a c e g => h1 i' j' a c e (by omega)) h2⟩
    · refine br_t (nI_le z (by omega)) (hP M hM ⟨fun i' j a c e => ?_, h2⟩)
      rw [ot_trv b (H.1 j c).2]
      exact h1 j i' a c e (by omega)
  exact ⟨k + 1, key (k + 1) 0 0 (Nat.zero_le _) (by omega) (Nat.zero_le _) (fun i' j a c e g => by omega) (Or.inl rfl)⟩
end
