/-! bounds: lists of facts, the greatest of a list, the component's tests of an operator -/
def ot_BD (I : Nat) (b : Nat → Nat) (bd : Nat → Int32) : Prop := (∀ p, b p ≤ I) ∧ ∀ p, p < 400 → bd p = nI (b p)
def ot_LS (S : Nat → Prop) (k : Nat) (ls : Nat → Int32) (lf : Nat → Nat) : Prop := (∀ i, i < k → ls i = nI (lf i) ∧ lf i < 20) ∧ ∀ q, S q ↔ ∃ i, i < k ∧ lf i = q
theorem ot_LS0 {ls : Nat → Int32} : ot_LS (fun _ => False) 0 ls (fun _ => 0) := ⟨fun i hi => by omega, fun q => ⟨fun z => z.elim, fun ⟨i, hi, _⟩ => by omega⟩⟩
theorem ot_LSup {S S' : Nat → Prop} {k f : Nat} {ls : Nat → Int32} {lf : Nat → Nat} (h : ot_LS S k ls lf) (hf : f < 20) (e : ∀ q, S' q ↔ S q ∨ q = f) : ot_LS S' (k + 1) (upd ls k (nI f)) (ot_up lf k f) := by
  refine ⟨fun i hi => ?_, fun q => ?_⟩
  · rcases Classical.em (i = k) with z | z
    · rw [z, pk_us, ot_us]; exact ⟨rfl, hf⟩
    · rw [pk_un z, ot_un z]; exact h.1 i (by omega)
  · rw [e, h.2]
    constructor
    · intro z
      rcases z with ⟨i, hi, y⟩ | y
      · exact ⟨i, by omega, by rw [ot_un (by omega)]; exact y⟩
      · exact ⟨k, by omega, by rw [ot_us]; exact y.symm⟩
    · intro ⟨i, hi, y⟩
      rcases Classical.em (i = k) with z | z
      · rw [z, ot_us] at y; exact Or.inr y.symm
      · rw [ot_un z] at y; exact Or.inl ⟨i, by omega, y⟩
theorem ot_LSc {S S' : Nat → Prop} {k : Nat} {ls : Nat → Int32} {lf : Nat → Nat} (h : ot_LS S k ls lf) (e : ∀ q, S' q ↔ S q) : ot_LS S' k ls lf := ⟨h.1, fun q => (e q).trans (h.2 q)⟩
/-- facts of a row of a table: values x + 1 at places t + u, u below v -/
def ot_fs (tb : Nat → Nat) (t v q : Nat) : Prop := ∃ u, u < v ∧ tb (t + u) ≠ 0 ∧ q = 4 * u + (tb (t + u) - 1)
theorem ot_fs0 (tb : Nat → Nat) (t v : Nat) (h : tb (t + v) = 0) (q : Nat) : ot_fs tb t (v + 1) q ↔ ot_fs tb t v q := by
  constructor
  · intro ⟨u, hu, w, e⟩
    rcases Classical.em (u = v) with g | g
    · subst g; exact absurd h w
    · exact ⟨u, by omega, w, e⟩
  · intro ⟨u, hu, w, e⟩
    exact ⟨u, by omega, w, e⟩
theorem ot_fs1 (tb : Nat → Nat) (t v : Nat) (h : tb (t + v) ≠ 0) (q : Nat) : ot_fs tb t (v + 1) q ↔ ot_fs tb t v q ∨ q = 4 * v + (tb (t + v) - 1) := by
  constructor
  · intro ⟨u, hu, w, e⟩
    rcases Classical.em (u = v) with g | g
    · subst g; exact Or.inr e
    · exact Or.inl ⟨u, by omega, w, e⟩
  · intro z
    rcases z with ⟨u, hu, w, e⟩ | e
    · exact ⟨u, by omega, w, e⟩
    · exact ⟨v, by omega, h, e⟩
def ot_Mx (pr : Prop) (k : Nat) (lf b : Nat → Nat) (M : Nat) : Prop := M = 0 ∨ ∃ i j, i ≤ j ∧ j < k ∧ (pr ∨ i = j) ∧ b (20 * lf i + lf j) = M
def ot_GM (pr : Prop) (k : Nat) (lf b : Nat → Nat) (M : Nat) : Prop := (∀ i j, i ≤ j → j < k → (pr ∨ i = j) → b (20 * lf i + lf j) ≤ M) ∧ ot_Mx pr k lf b M
def ot_md (x : Int32) (pr : Prop) : Prop := (x = 1 ∧ ¬ pr) ∨ (¬ x = 1 ∧ pr)
section
variable {n d m : Nat} {co ne ef be go : Nat → Nat} {aC aN aE aB aG od sn mv rm bd ls ah : Nat → Int32} {mt lc : Int32} {pr : Prop}
theorem ox_listN (T : ot_T n d m co ne ef be go aC aN aE aB aG) {o : Nat} (ho : o < 10) {x2 : Int32} (e2 : x2 = nI (5 * o)) {post : SX → Prop} (hP : ∀ k ls lf, k ≤ n → ot_LS (ot_fs ne (5 * o) n) k ls lf → post (nI n, nI d, nI m, mt, nI k, aC, aN, aE, aB, aG, od, sn, mv, rm, bd, ls, ah)) : wpX_listFacts__needs post (nI n, nI d, nI m, mt, 0, aC, aN, aE, aB, aG, od, sn, mv, rm, bd, ls, ah) x2 := by
  subst e2
  obtain ⟨⟨⟨hn1, hn⟩, ⟨hd1, hd⟩, hm⟩, ⟨hC, hco⟩, ⟨hN, hne⟩, ⟨hE, hef⟩, ⟨hB, hbe⟩, ⟨hG, hgo⟩⟩ := T
  have key : ∀ fu v k ls lf, v ≤ n → n - v < fu → k ≤ v → ot_LS (ot_fs ne (5 * o) v) k ls lf → wX_listFacts__needs_2 post (nI (5 * o)) (nI n) (nI d) (nI m) mt fu (nI v) (nI k) aC aN aE aB aG od sn mv rm bd ls ah := by
    intro fu
    induction fu with
    | zero => intro v k ls lf _ h; omega
    | succ fu ih =>
    intro v k ls lf hv hfu hk H
    rcases Nat.lt_or_ge v n with z | z
    · have b := hne (5 * o + v)
      refine br_f (nI_ge z (by omega)) ⟨by rw [nI_add]; exact vp_in_nI (by omega) (by omega), nm_r (e' := ot_rv (ne (5 * o + v))) (by rw [nI_add, nI_clamp (by omega), hN _ (by omega)]) ?_⟩
      rcases Classical.em (ne (5 * o + v) = 0) with y | y
      · exact br_t ((ot_rvm _ (by omega)).mpr y) (nm_r (nI_1 v) (ih (v + 1) k ls lf (by omega) (by omega) (by omega) (ot_LSc H (ot_fs0 ne (5 * o) v y))))
      · refine br_f (fun q => y ((ot_rvm _ (by omega)).mp q)) ⟨vp_in_nI (by omega) (by omega), ?_⟩
        have e4 : nI v * 4 + nI (ne (5 * o + v) - 1) = nI (4 * v + (ne (5 * o + v) - 1)) := by rw [show nI v * 4 = nI (v * 4) from pk_mul v 4, nI_add, Nat.mul_comm]
        rw [ot_rvp y, e4]
        exact nm_r (e' := upd ls k (nI (4 * v + (ne (5 * o + v) - 1)))) (by rw [nI_clamp (by omega)]) (nm_r (nI_1 k) (nm_r (nI_1 v) (ih (v + 1) (k + 1) _ _ (by omega) (by omega) (by omega) (ot_LSup H (by omega) (ot_fs1 ne (5 * o) v y)))))
    · have e : v = n := by omega
      subst e
      exact br_t (nI_le (Nat.le_refl _) (by omega)) (hP k ls lf hk H)
  exact ⟨n + 1, key (n + 1) 0 0 ls _ (Nat.zero_le _) (by omega) (Nat.le_refl _) (ot_LSc ot_LS0 (fun q => ⟨fun ⟨u, hu, _⟩ => by omega, fun z => z.elim⟩))⟩
theorem ox_listG (T : ot_T n d m co ne ef be go aC aN aE aB aG) {post : SX → Prop} (hP : ∀ k ls lf, k ≤ n → ot_LS (ot_fs go 0 n) k ls lf → post (nI n, nI d, nI m, mt, nI k, aC, aN, aE, aB, aG, od, sn, mv, rm, bd, ls, ah)) : wpX_listFacts__goals post (nI n, nI d, nI m, mt, 0, aC, aN, aE, aB, aG, od, sn, mv, rm, bd, ls, ah) 0 := by
  obtain ⟨⟨⟨hn1, hn⟩, ⟨hd1, hd⟩, hm⟩, ⟨hC, hco⟩, ⟨hN, hne⟩, ⟨hE, hef⟩, ⟨hB, hbe⟩, ⟨hG, hgo⟩⟩ := T
  have key : ∀ fu v k ls lf, v ≤ n → n - v < fu → k ≤ v → ot_LS (ot_fs go 0 v) k ls lf → wX_listFacts__goals_2 post 0 (nI n) (nI d) (nI m) mt fu (nI v) (nI k) aC aN aE aB aG od sn mv rm bd ls ah := by
    intro fu
    induction fu with
    | zero => intro v k ls lf _ h; omega
    | succ fu ih =>
    intro v k ls lf hv hfu hk H
    rcases Nat.lt_or_ge v n with z | z
    · have b := hgo v
      have e0 : (0 : Int32) + nI v = nI v := Int32.zero_add _
      have z0 : 0 + v = v := Nat.zero_add v
      refine br_f (nI_ge z (by omega)) ⟨by rw [e0]; exact vp_in_nI (by omega) (by omega), nm_r (e' := ot_rv (go v)) (by rw [e0, nI_clamp (by omega), hG _ (by omega)]) ?_⟩
      rcases Classical.em (go v = 0) with y | y
      · exact br_t ((ot_rvm _ (by omega)).mpr y) (nm_r (nI_1 v) (ih (v + 1) k ls lf (by omega) (by omega) (by omega) (ot_LSc H (ot_fs0 go 0 v (by rw [z0]; exact y)))))
      · refine br_f (fun q => y ((ot_rvm _ (by omega)).mp q)) ⟨vp_in_nI (by omega) (by omega), ?_⟩
        have e4 : nI v * 4 + nI (go v - 1) = nI (4 * v + (go v - 1)) := by rw [show nI v * 4 = nI (v * 4) from pk_mul v 4, nI_add, Nat.mul_comm]
        have f1 := ot_fs1 go 0 v (by rw [z0]; exact y)
        rw [z0] at f1
        rw [ot_rvp y, e4]
        exact nm_r (e' := upd ls k (nI (4 * v + (go v - 1)))) (by rw [nI_clamp (by omega)]) (nm_r (nI_1 k) (nm_r (nI_1 v) (ih (v + 1) (k + 1) _ _ (by omega) (by omega) (by omega) (ot_LSup H (by omega) f1))))
    · have e : v = n := by omega
      subst e
      exact br_t (nI_le (Nat.le_refl _) (by omega)) (hP k ls lf hk H)
  exact ⟨n + 1, key (n + 1) 0 0 ls _ (Nat.zero_le _) (by omega) (Nat.le_refl _) (ot_LSc ot_LS0 (fun q => ⟨fun ⟨u, hu, _⟩ => by omega, fun z => z.elim⟩))⟩
theorem ox_hasE (T : ot_T n d m co ne ef be go aC aN aE aB aG) {o f : Nat} (ho : o < 10) (hf : f < 20) {post : Int32 → Prop} (h1 : ef (5 * o + f / 4) = f % 4 + 1 → post 1) (h0 : ef (5 * o + f / 4) ≠ f % 4 + 1 → post 0) : wpX_hasEffect post (nI n, nI d, nI m, mt, lc, aC, aN, aE, aB, aG, od, sn, mv, rm, bd, ls, ah) (nI o) (nI f) := by
  obtain ⟨⟨⟨hn1, hn⟩, ⟨hd1, hd⟩, hm⟩, ⟨hC, hco⟩, ⟨hN, hne⟩, ⟨hE, hef⟩, ⟨hB, hbe⟩, ⟨hG, hgo⟩⟩ := T
  have b := hef (5 * o + f / 4)
  have e4 : nI f / 4 = nI (f / 4) := pk_div (d := 4) (by omega) (by omega) (by omega)
  have er : nI f - nI f / 4 * 4 = nI (f % 4) := pk_rem (d := 4) (by omega) (by omega) (by omega)
  have e5 : nI o * 5 + nI (f / 4) = nI (5 * o + f / 4) := by rw [show nI o * 5 = nI (o * 5) from pk_mul o 5, nI_add, Nat.mul_comm]
  have ex : aE (nI o * 5 + nI f / 4).toNatClampNeg = ot_rv (ef (5 * o + f / 4)) := by rw [e4, e5, nI_clamp (by omega), hE _ (by omega)]
  refine ⟨by decide, by rw [e4, e5]; exact vp_in_nI (by omega) (by omega), by decide, ?_⟩
  rw [ex, er]
  rcases Classical.em (ef (5 * o + f / 4) = f % 4 + 1) with z | z
  · exact br_t ((ot_rve _ (by omega) _ (by omega)).mpr z) (h1 z)
  · exact br_f (fun y => z ((ot_rve _ (by omega) _ (by omega)).mp y)) (h0 z)
theorem ox_takes (T : ot_T n d m co ne ef be go aC aN aE aB aG) {o f : Nat} (ho : o < 10) (hf : f < 20) {post : Int32 → Prop} (h0 : (ef (5 * o + f / 4) = 0 ∨ ef (5 * o + f / 4) = f % 4 + 1) → post 0) (h1 : ¬ (ef (5 * o + f / 4) = 0 ∨ ef (5 * o + f / 4) = f % 4 + 1) → post 1) : wpX_takesBack post (nI n, nI d, nI m, mt, lc, aC, aN, aE, aB, aG, od, sn, mv, rm, bd, ls, ah) (nI o) (nI f) := by
  obtain ⟨⟨⟨hn1, hn⟩, ⟨hd1, hd⟩, hm⟩, ⟨hC, hco⟩, ⟨hN, hne⟩, ⟨hE, hef⟩, ⟨hB, hbe⟩, ⟨hG, hgo⟩⟩ := T
  have b := hef (5 * o + f / 4)
  have e4 : nI f / 4 = nI (f / 4) := pk_div (d := 4) (by omega) (by omega) (by omega)
  have er : nI f - nI f / 4 * 4 = nI (f % 4) := pk_rem (d := 4) (by omega) (by omega) (by omega)
  have e5 : nI o * 5 + nI (f / 4) = nI (5 * o + f / 4) := by rw [show nI o * 5 = nI (o * 5) from pk_mul o 5, nI_add, Nat.mul_comm]
  refine ⟨by decide, by rw [e4, e5]; exact vp_in_nI (by omega) (by omega), nm_r (e' := ot_rv (ef (5 * o + f / 4))) (by rw [e4, e5, nI_clamp (by omega), hE _ (by omega)]) ?_⟩
  rcases Classical.em (ef (5 * o + f / 4) = 0) with y | y
  · exact br_t ((ot_rvm _ (by omega)).mpr y) (h0 (Or.inl y))
  · refine br_f (fun q => y ((ot_rvm _ (by omega)).mp q)) ⟨by decide, ?_⟩
    rw [er]
    rcases Classical.em (ef (5 * o + f / 4) = f % 4 + 1) with z | z
    · exact br_t ((ot_rve _ (by omega) _ (by omega)).mpr z) (h0 (Or.inr z))
    · exact br_f (fun q => z ((ot_rve _ (by omega) _ (by omega)).mp q)) (h1 (fun q => q.elim y z))
theorem ox_brings (T : ot_T n d m co ne ef be go aC aN aE aB aG) {o f g : Nat} (ho : o < 10) (hf : f < 20) (hg : g < 20) {post : Int32 → Prop} (h1 : ot_bg ef o f g → post 1) (h0 : ¬ ot_bg ef o f g → post 0) : wpX_bringsAbout post (nI n, nI d, nI m, mt, lc, aC, aN, aE, aB, aG, od, sn, mv, rm, bd, ls, ah) (nI o) (nI f) (nI g) := by
  unfold wpX_bringsAbout
  refine ox_takes T ho hf (fun a => br_t rfl (ox_takes T ho hg (fun b => br_t rfl (ox_hasE T ho hf (fun c => br_f ot_01' (h1 ⟨a, b, Or.inl c⟩)) (fun c => br_t rfl (ox_hasE T ho hg (fun e => br_f ot_01' (h1 ⟨a, b, Or.inr e⟩)) (fun e => br_t rfl (h0 (fun q => q.2.2.elim c e))))))) (fun b => br_f ot_01' (h0 (fun q => b q.2.1))))) (fun a => br_f ot_01' (h0 (fun q => a q.1)))
theorem ox_rest (T : ot_T n d m co ne ef be go aC aN aE aB aG) {o f g : Nat} (ho : o < 10) (hf : f < 20) (hg : g < 20) (hb : ot_bg ef o f g) {post : SX → Prop} (hP : ∀ k ls lf, k ≤ 6 → ot_LS (ot_rs n ne ef o f g) k ls lf → post (nI n, nI d, nI m, mt, nI k, aC, aN, aE, aB, aG, od, sn, mv, rm, bd, ls, ah)) : wpX_listRest post (nI n, nI d, nI m, mt, lc, aC, aN, aE, aB, aG, od, sn, mv, rm, bd, ls, ah) (nI o) (nI f) (nI g) := by
  have n5 := T.1.1.2
  refine ox_listN T (o := o) ho (by rw [show nI o * 5 = nI (o * 5) from pk_mul o 5, Nat.mul_comm]) (fun k ls lf hk H => ?_)
  refine ox_hasE T ho hf (fun c => br_f ot_01' ?_) (fun c => br_t rfl ?_)
  · refine ox_hasE T ho hg (fun e => br_f ot_01' (hP k ls lf (by omega) (ot_LSc H (fun q => ?_)))) (fun e => br_t rfl ⟨vp_in_nI (by omega) (by omega), nm_r (e' := upd ls k (nI g)) (by rw [nI_clamp (by omega)]) (nm_r (nI_1 k) (hP (k + 1) _ _ (by omega) (ot_LSup H hg (fun q => ?_))))⟩)
    · exact ⟨fun z => z.elim id (fun z => z.elim (fun y => by have := y.2; omega) (fun y => by have := y.2; omega)), Or.inl⟩
    · have g0 : ef (5 * o + g / 4) = 0 := hb.2.1.elim id (fun z => absurd z e)
      exact ⟨fun z => z.elim Or.inl (fun z => z.elim (fun y => by have := y.2; omega) (fun y => Or.inr y.1)), fun z => z.elim Or.inl (fun y => Or.inr (Or.inr ⟨y, g0⟩))⟩
  · have f0 : ef (5 * o + f / 4) = 0 := hb.1.elim id (fun z => absurd z c)
    have g1 : ef (5 * o + g / 4) = g % 4 + 1 := hb.2.2.elim (fun z => absurd z c) id
    refine ox_hasE T ho hf (fun e => absurd e c) (fun e => br_t rfl ⟨vp_in_nI (by omega) (by omega), nm_r (e' := upd ls k (nI f)) (by rw [nI_clamp (by omega)]) (nm_r (nI_1 k) (hP (k + 1) _ _ (by omega) (ot_LSup H hf (fun q => ?_))))⟩)
    exact ⟨fun z => z.elim Or.inl (fun z => z.elim (fun y => Or.inr y.1) (fun y => by have := y.2; omega)), fun z => z.elim Or.inl (fun y => Or.inr (Or.inl ⟨y, f0⟩))⟩
theorem ox_gb32 {S : Nat → Prop} {k i L : Nat} {lf b : Nat → Nat} (H : ot_LS S k ls lf) (hk : k ≤ 6) (hB : ot_BD 1000000000 b bd) {x1 : Int32} {post : Int32 → Prop} {J : Int32 → Int32 → Prop} (hiL : i ≤ L) (hL : L < k) (hpr : pr ∨ L = i) (hfull : pr → L + 1 = k)
    (hJ : ∀ M, M ≤ 1000000000 → (∀ i' j, i' ≤ j → j < k → (pr ∨ i' = j) → i' < i + 1 → b (20 * lf i' + lf j) ≤ M) → ot_Mx pr k lf b M → J (nI M) (nI (i + 1))) :
    ∀ fu j M, i ≤ j → j ≤ L + 1 → L + 1 - j < fu → M ≤ 1000000000 → (∀ i' j', i' ≤ j' → j' < k → (pr ∨ i' = j') → (i' < i ∨ (i' = i ∧ j' < j)) → b (20 * lf i' + lf j') ≤ M) → ot_Mx pr k lf b M → wX_greatestBound_32 post J x1 (nI i) (nI L) (nI n) (nI d) (nI m) mt (nI k) aC aN aE aB aG od sn mv rm bd ls ah fu (nI M) (nI j) := by
  intro fu
  induction fu with
  | zero => intro j M _ _ h; omega
  | succ fu ih =>
  intro j M hij hjL hfu hM h1 h2
  rcases Nat.lt_or_ge L j with z | z
  · refine br_t (nI_lt z (by omega)) (nm_r (nI_1 i) (hJ M hM (fun i' j' a c e g => h1 i' j' a c e ?_) h2))
    rcases Nat.lt_or_ge i' i with y | y
    · exact Or.inl y
    · refine Or.inr ⟨by omega, ?_⟩
      rcases e with e | e
      · have := hfull e; omega
      · rcases hpr with q | q
        · have := hfull q; omega
        · omega
  · have hi := H.1 i (by omega)
    have hj := H.1 j (by omega)
    have e20 : nI (lf i) * 20 + nI (lf j) = nI (20 * lf i + lf j) := by rw [show nI (lf i) * 20 = nI (lf i * 20) from pk_mul (lf i) 20, nI_add, Nat.mul_comm]
    have l := hB.1 (20 * lf i + lf j)
    have pj : pr ∨ i = j := hpr.imp id (fun q => by omega)
    refine br_f (nI_nlt z (by omega)) ⟨vp_in_nI (by omega) (by omega), vp_in_nI (by omega) (by omega), ?_⟩
    rw [nI_clamp (n := i) (by omega), nI_clamp (n := j) (by omega), hi.1, hj.1, e20]
    refine ⟨vp_in_nI (by omega) (by omega), nm_r (e' := nI (b (20 * lf i + lf j))) (by rw [nI_clamp (by omega)]; exact hB.2 _ (by omega)) ?_⟩
    rcases Nat.lt_or_ge M (b (20 * lf i + lf j)) with y | y
    · refine br_f (nI_ge y (by omega)) (nm_r (nI_1 j) (ih (j + 1) _ (by omega) (by omega) (by omega) l (fun i' j' a c e g => ?_) (Or.inr ⟨i, j, hij, by omega, pj, rfl⟩)))
      rcases Classical.em (i' = i ∧ j' = j) with w | w
      · rw [w.1, w.2]; exact Nat.le_refl _
      · have := h1 i' j' a c e (by omega); omega
    · refine br_t (nI_le y (by omega)) (nm_r (nI_1 j) (ih (j + 1) M (by omega) (by omega) (by omega) hM (fun i' j' a c e g => ?_) h2))
      rcases Classical.em (i' = i ∧ j' = j) with w | w
      · rw [w.1, w.2]; exact y
      · exact h1 i' j' a c e (by omega)
theorem ox_greatest {S : Nat → Prop} {k : Nat} {lf b : Nat → Nat} (H : ot_LS S k ls lf) (hk : k ≤ 6) (hB : ot_BD 1000000000 b bd) {x1 : Int32} (hx : ot_md x1 pr) {post : Int32 → Prop} (hP : ∀ M, M ≤ 1000000000 → ot_GM pr k lf b M → post (nI M)) : wpX_greatestBound post (nI n, nI d, nI m, mt, nI k, aC, aN, aE, aB, aG, od, sn, mv, rm, bd, ls, ah) x1 := by
  have key : ∀ fu i M, i ≤ k → k - i < fu → M ≤ 1000000000 → (∀ i' j, i' ≤ j → j < k → (pr ∨ i' = j) → i' < i → b (20 * lf i' + lf j) ≤ M) → ot_Mx pr k lf b M → wX_greatestBound_4 post x1 (nI n) (nI d) (nI m) mt (nI k) aC aN aE aB aG od sn mv rm bd ls ah fu (nI M) (nI i) := by
    intro fu
    induction fu with
    | zero => intro i M _ h; omega
    | succ fu ih =>
    intro i M hi hfu hM h1 h2
    rcases Nat.lt_or_ge i k with z | z
    · refine br_f (nI_ge z (by omega)) ?_
      rcases hx with ⟨x, p⟩ | ⟨x, p⟩
      · exact br_t x ⟨2, ox_gb32 (pr := pr) (L := i) H hk hB (Nat.le_refl _) z (Or.inr rfl) (fun q => absurd q p) (fun M' a b' c => ih (i + 1) M' (by omega) (by omega) a b' c) 2 i M (Nat.le_refl _) (by omega) (by omega) hM (fun i' j' a c e g => h1 i' j' a c e (by omega)) h2⟩
      · refine br_f x (nm_r (e' := nI (k - 1)) ?_ ⟨k + 1, ox_gb32 (pr := pr) (L := k - 1) H hk hB (by omega) (by omega) (Or.inl p) (fun _ => by omega) (fun M' a b' c => ih (i + 1) M' (by omega) (by omega) a b' c) (k + 1) i M (Nat.le_refl _) (by omega) (by omega) hM (fun i' j' a c e g => h1 i' j' a c e (by omega)) h2⟩)
        exact ot_rvp (x := k) (by omega)
    · exact br_t (nI_le z (by omega)) (hP M hM ⟨fun i' j a c e => h1 i' j a c e (by omega), h2⟩)
  exact ⟨k + 1, key (k + 1) 0 0 (Nat.zero_le _) (by omega) (Nat.zero_le _) (fun i' j a c e g => by omega) (Or.inl rfl)⟩
end
