/-! reached, apart, passes, needed, cost, length, dead: both sides against the pure tables -/
theorem ot_bfy0 : ot_bfy (-1) 0 (fun _ => False) := Or.inl ⟨rfl, fun _ z => z⟩
section
variable {n d m : Nat} {co ne ef be go : Nat → Nat} {aC aN aE aB aG od sn mv rm bd ls ah yl yf ym yb yd yr : Nat → Int32} {mt lc rz : Int32} {R bo br : Nat → Prop}
theorem ot_Rlt (T : ot_T n d m co ne ef be go aC aN aE aB aG) {s : Nat} (h : ot_R (ot_bs be n) br (ot_E n m ne ef bo) s) : s < 4 ^ n := by
  have s0 := ot_s0 T
  obtain ⟨⟨⟨hn1, hn⟩, ⟨hd1, hd⟩, hm⟩, ⟨hC, hco⟩, ⟨hN, hne⟩, ⟨hE, hef⟩, ⟨hB, hbe⟩, ⟨hG, hgo⟩⟩ := T
  exact (ot_Rok hn hd hef s0 h).1
theorem ot_Rok2 (T : ot_T n d m co ne ef be go aC aN aE aB aG) {s : Nat} (h : ot_R (ot_bs be n) br (ot_E n m ne ef bo) s) : ot_ok n d s := by
  have s0 := ot_s0 T
  obtain ⟨⟨⟨hn1, hn⟩, ⟨hd1, hd⟩, hm⟩, ⟨hC, hco⟩, ⟨hN, hne⟩, ⟨hE, hef⟩, ⟨hB, hbe⟩, ⟨hG, hgo⟩⟩ := T
  exact ot_Rok hn hd hef s0 h
theorem oy_rea (T : ot_T n d m co ne ef be go aC aN aE aB aG) (hM : ot_MF n R ym) {post : Int32 → SY → Prop} (h : post (nI (cn R (4 ^ n))) (nI n, nI d, nI m, rz, aC, aN, aE, aB, aG, yl, yf, ym, yb, yd, yr)) : ∃ n11 : Nat, wY_reached_11 post (nI n) (nI d) (nI m) rz aC aN aE aB aG yl yf ym yb yd yr n11 0 0 := by
  have T0 := T
  obtain ⟨⟨⟨hn1, hn⟩, ⟨hd1, hd⟩, hm⟩, ⟨hC, hco⟩, ⟨hN, hne⟩, ⟨hE, hef⟩, ⟨hB, hbe⟩, ⟨hG, hgo⟩⟩ := T
  have p4 := ot_4n hn
  refine loop_0 (σ := Unit) (fun fu i _ => wY_reached_11 post (nI n) (nI d) (nI m) rz aC aN aE aB aG yl yf ym yb yd yr fu (nI (cn R i)) (nI i)) (fun _ _ => True) (4 ^ n) () trivial ?_ ?_
  · intro fu _ _
    simp only [wY_reached_11, oy_st T0]
    exact br_t (nI_le (Nat.le_refl _) (by omega)) h
  · intro fu i _ hi _ ih
    have ih : wY_reached_11 post (nI n) (nI d) (nI m) rz aC aN aE aB aG yl yf ym yb yd yr fu (nI (cn R i + b01 (R i))) (nI (i + 1)) := ih () trivial
    simp only [wY_reached_11, oy_st T0]
    refine br_f (nI_ge hi (by omega)) ⟨vp_in_nI (by omega) (by omega), ?_⟩
    rw [nI_clamp (by omega)]
    rcases hM i hi with ⟨a, b⟩ | ⟨a, b⟩
    · rw [b01_t b] at ih
      exact br_f (by rw [a]; decide) (nm_r (nI_1 _) (nm_r (nI_1 i) ih))
    · rw [b01_f b] at ih
      exact br_t a (nm_r (nI_1 i) ih)
theorem oy_dea (T : ot_T n d m co ne ef be go aC aN aE aB aG) (hM : ot_MF n R ym) {w : Nat → Nat} (hw : ot_LF n w yl yf) {g : Nat → Prop} {E : Nat → Nat → Nat → Prop} (hI : ot_I E co g w) {post : Int32 → SY → Prop} (h : post (nI (cn (fun s => R s ∧ ¬ w s ≠ 1000000000) (4 ^ n))) (nI n, nI d, nI m, rz, aC, aN, aE, aB, aG, yl, yf, ym, yb, yd, yr)) : ∃ n15 : Nat, wY_dead_15 post (nI n) (nI d) (nI m) rz aC aN aE aB aG yl yf ym yb yd yr n15 0 0 := by
  have T0 := T
  obtain ⟨⟨⟨hn1, hn⟩, ⟨hd1, hd⟩, hm⟩, ⟨hC, hco⟩, ⟨hN, hne⟩, ⟨hE, hef⟩, ⟨hB, hbe⟩, ⟨hG, hgo⟩⟩ := T
  have p4 := ot_4n hn
  refine loop_0 (σ := Unit) (fun fu i _ => wY_dead_15 post (nI n) (nI d) (nI m) rz aC aN aE aB aG yl yf ym yb yd yr fu (nI (cn (fun s => R s ∧ ¬ w s ≠ 1000000000) i)) (nI i)) (fun _ _ => True) (4 ^ n) () trivial ?_ ?_
  · intro fu _ _
    simp only [wY_dead_15, oy_st T0]
    exact br_t (nI_le (Nat.le_refl _) (by omega)) h
  · intro fu i _ hi _ ih
    have ih : wY_dead_15 post (nI n) (nI d) (nI m) rz aC aN aE aB aG yl yf ym yb yd yr fu (nI (cn (fun s => R s ∧ ¬ w s ≠ 1000000000) i + b01 (R i ∧ ¬ w i ≠ 1000000000))) (nI (i + 1)) := ih () trivial
    simp only [wY_dead_15, oy_st T0]
    refine br_f (nI_ge hi (by omega)) ⟨vp_in_nI (by omega) (by omega), ?_⟩
    rw [nI_clamp (by omega)]
    have l := hw.2.2 i hi
    rcases hM i hi with ⟨a, b⟩ | ⟨a, b⟩
    · refine br_f (by rw [a]; decide) ⟨vp_in_nI (by omega) (by omega), ?_⟩
      rcases Classical.em (w i = 1000000000) with z | z
      · rw [b01_t ⟨b, fun y => y z⟩] at ih
        exact br_f (by rw [l.1 z]; decide) (nm_r (nI_1 _) (nm_r (nI_1 i) ih))
      · rw [b01_f (fun y => y.2 z)] at ih
        obtain ⟨C, L, e1, hC', hL, _, _⟩ := ot_Ib hI z
        exact br_t (by rw [(l.2 z).1]; exact nI_lt (b := 1000000) (by omega) (by omega)) (nm_r (nI_1 i) ih)
    · rw [b01_f (fun y => b y.1)] at ih
      exact br_t a (nm_r (nI_1 i) ih)
theorem oy_apa (T : ot_T n d m co ne ef be go aC aN aE aB aG) (hM : ot_MF n R ym) (hR : ∀ s, R s → s < 4 ^ n) {v x u y : Nat} (hv : v < n) (hx : x < d) (hu : u < n) (hy : y < d) {post : Int32 → SY → Prop} (h0 : (∃ s, R s ∧ ot_vl s v = x ∧ ot_vl s u = y) → post 0 (nI n, nI d, nI m, rz, aC, aN, aE, aB, aG, yl, yf, ym, yb, yd, yr)) (h1 : (¬ ∃ s, R s ∧ ot_vl s v = x ∧ ot_vl s u = y) → post 1 (nI n, nI d, nI m, rz, aC, aN, aE, aB, aG, yl, yf, ym, yb, yd, yr)) : ∃ n45 : Nat, wY_apart_45 post (nI v) (nI x) (nI u) (nI y) (nI n) (nI d) (nI m) rz aC aN aE aB aG yl yf ym yb yd yr n45 0 := by
  have T0 := T
  obtain ⟨⟨⟨hn1, hn⟩, ⟨hd1, hd⟩, hm⟩, ⟨hC, hco⟩, ⟨hN, hne⟩, ⟨hE, hef⟩, ⟨hB, hbe⟩, ⟨hG, hgo⟩⟩ := T
  have p4 := ot_4n hn
  refine loop_0 (σ := Unit) (fun fu i _ => wY_apart_45 post (nI v) (nI x) (nI u) (nI y) (nI n) (nI d) (nI m) rz aC aN aE aB aG yl yf ym yb yd yr fu (nI i)) (fun i _ => ∀ j, j < i → ¬ (R j ∧ ot_vl j v = x ∧ ot_vl j u = y)) (4 ^ n) () (fun j hj => by omega) ?_ ?_
  · intro fu _ hI
    simp only [wY_apart_45, oy_st T0]
    exact br_t (nI_le (Nat.le_refl _) (by omega)) (h1 (fun ⟨s, a, b⟩ => hI s (hR s a) ⟨a, b⟩))
  · intro fu i _ hi hI ih
    have nx1 : ¬ (R i ∧ ot_vl i v = x ∧ ot_vl i u = y) → wY_apart_45 post (nI v) (nI x) (nI u) (nI y) (nI n) (nI d) (nI m) rz aC aN aE aB aG yl yf ym yb yd yr fu (nI (i + 1)) := fun q => ih () (lt_s hI q)
    simp only [wY_apart_45, oy_st T0]
    refine br_f (nI_ge hi (by omega)) ⟨vp_in_nI (by omega) (by omega), ?_⟩
    rw [nI_clamp (by omega)]
    have v4 := ot_vl4 i v
    have u4 := ot_vl4 i u
    rcases hM i hi with ⟨a, b⟩ | ⟨a, b⟩
    · refine br_f (by rw [a]; decide) (oy_val (by omega) (by omega) ?_)
      rcases Classical.em (ot_vl i v = x) with z | z
      · refine br_t (by rw [z]) (oy_val (by omega) (by omega) ?_)
        rcases Classical.em (ot_vl i u = y) with w | w
        · exact br_t (by rw [w]) (h0 ⟨i, b, z, w⟩)
        · exact br_f (fun q => w ((nI_eq (by omega) (by omega)).mp q)) (nm_r (nI_1 i) (nx1 (fun q => w q.2.2)))
      · exact br_f (fun q => z ((nI_eq (by omega) (by omega)).mp q)) (nm_r (nI_1 i) (nx1 (fun q => z q.2.1)))
    · exact br_t a (nm_r (nI_1 i) (nx1 (fun q => b q.1)))
theorem ox_apa (T : ot_T n d m co ne ef be go aC aN aE aB aG) {k : Nat} {f : Nat → Nat} (hX : ot_XF n m ne ef bo R k od mv f) {v x u y : Nat} (hv : v < n) (hx : x < d) (hu : u < n) (hy : y < d) {post : Int32 → SX → Prop} (h0 : (∃ s, R s ∧ ot_vl s v = x ∧ ot_vl s u = y) → post 0 (nI n, nI d, nI m, nI k, lc, aC, aN, aE, aB, aG, od, sn, mv, rm, bd, ls, ah)) (h1 : (¬ ∃ s, R s ∧ ot_vl s v = x ∧ ot_vl s u = y) → post 1 (nI n, nI d, nI m, nI k, lc, aC, aN, aE, aB, aG, od, sn, mv, rm, bd, ls, ah)) : ∃ n30 : Nat, wX_apart_30 post (nI v) (nI x) (nI u) (nI y) (nI n) (nI d) (nI m) (nI k) lc aC aN aE aB aG od sn mv rm bd ls ah n30 0 := by
  have T0 := T
  obtain ⟨⟨⟨hn1, hn⟩, ⟨hd1, hd⟩, hm⟩, ⟨hC, hco⟩, ⟨hN, hne⟩, ⟨hE, hef⟩, ⟨hB, hbe⟩, ⟨hG, hgo⟩⟩ := T
  have hk := ot_XFle hX
  refine loop_0 (σ := Unit) (fun fu i _ => wX_apart_30 post (nI v) (nI x) (nI u) (nI y) (nI n) (nI d) (nI m) (nI k) lc aC aN aE aB aG od sn mv rm bd ls ah fu (nI i)) (fun i _ => ∀ j, j < i → ¬ (ot_vl (f j) v = x ∧ ot_vl (f j) u = y)) k () (fun j hj => by omega) ?_ ?_
  · intro fu _ hI
    refine br_t (nI_le (Nat.le_refl _) (by omega)) (h1 (fun ⟨s, a, b⟩ => ?_))
    obtain ⟨i, hi, e⟩ := (hX.2.1 s a).2
    rw [← e] at b
    exact hI i hi b
  · intro fu i _ hi hI ih
    have nx1 : ¬ (ot_vl (f i) v = x ∧ ot_vl (f i) u = y) → wX_apart_30 post (nI v) (nI x) (nI u) (nI y) (nI n) (nI d) (nI m) (nI k) lc aC aN aE aB aG od sn mv rm bd ls ah fu (nI (i + 1)) := fun q => ih () (lt_s hI q)
    have e := hX.1 i hi
    have ce : od (nI i).toNatClampNeg = nI (f i) := by rw [nI_clamp (by omega)]; exact e.1
    have iv : vp_in (nI i) 1024 := vp_in_nI (by omega) (by omega)
    refine br_f (nI_ge hi (by omega)) ⟨iv, ?_⟩
    rw [ce]
    have v4 := ot_vl4 (f i) v
    have u4 := ot_vl4 (f i) u
    refine ox_val e.2.1 (by omega) ?_
    rcases Classical.em (ot_vl (f i) v = x) with z | z
    · refine br_t (by rw [z]) ⟨iv, ox_val e.2.1 (by omega) ?_⟩
      rcases Classical.em (ot_vl (f i) u = y) with w | w
      · exact br_t (by rw [w]) (h0 ⟨f i, e.2.2, z, w⟩)
      · exact br_f (fun q => w ((nI_eq (by omega) (by omega)).mp q)) (nm_r (nI_1 i) (nx1 (fun q => w q.2)))
    · exact br_f (fun q => z ((nI_eq (by omega) (by omega)).mp q)) (nm_r (nI_1 i) (nx1 (fun q => z q.1)))
/-- the two tables of ways agree where the component has one -/
theorem ot_weq (T : ot_T n d m co ne ef be go aC aN aE aB aG) {w w' : Nat → Nat} (h1 : ot_I (ot_EX n m ne ef (ot_RR n m ne ef be)) co (fun s => ot_RR n m ne ef be s ∧ ot_gl n go s) w) (h2 : ot_S (ot_EX n m ne ef (ot_RR n m ne ef be)) co (fun s => ot_RR n m ne ef be s ∧ ot_gl n go s) w) (h1' : ot_I (ot_EY n d m ne ef) co (fun s => ot_ok n d s ∧ ot_gl n go s) w') (h2' : ot_S (ot_EY n d m ne ef) co (fun s => ot_ok n d s ∧ ot_gl n go s) w') {s : Nat} (hs : ot_RR n m ne ef be s) : w' s = w s := by
  have ok := fun s (hs : ot_RR n m ne ef be s) => ot_Rok2 T hs
  refine Nat.le_antisymm ?_ ?_
  · exact ot_wle (fun s => ot_RR n m ne ef be s) (fun o s t hs he => ⟨⟨ok s hs, he.2.1, he.2.2.1, he.2.2.2⟩, by rw [he.2.2.2]; exact ot_RRs s o hs he.2.1 he.2.2.1⟩) (fun s hs hg => ⟨ok s hs, hg.2⟩) h1 h2' hs
  · exact ot_wle (fun s => ot_RR n m ne ef be s) (fun o s t hs he => ⟨⟨hs, he.2.1, he.2.2.1, he.2.2.2⟩, by rw [he.2.2.2]; exact ot_RRs s o hs he.2.1 he.2.2.1⟩) (fun s hs hg => ⟨hs, hg.2⟩) h1' h2 hs
end
