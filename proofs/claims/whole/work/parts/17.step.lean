/-! step -/
def ot_B1 (n : Nat) (ne ef co w : Nat → Nat) (o s : Nat) : Prop := ot_ap n ne o s ∧ w (ot_nx ef o s n) ≠ 1000000000 ∧ w s = w (ot_nx ef o s n) + (1024 * co o + 1)
theorem ot_B1ex {n m : Nat} {ne ef co : Nat → Nat} {R g : Nat → Prop} {w : Nat → Nat} (hI : ot_I (ot_EX n m ne ef R) co g w) (hS : ot_S (ot_EX n m ne ef R) co g w) {s : Nat} (h1 : w s ≠ 1000000000) (h2 : w s % 1024 ≠ 0) : ∃ o, o < m ∧ ot_B1 n ne ef co w o s ∧ ∀ o', o' < o → ¬ ot_B1 n ne ef co w o' s := by
  obtain ⟨C, L, e1, hC, hL, _, hW⟩ := ot_Ib hI h1
  obtain ⟨L', rfl⟩ : ∃ L', L = L' + 1 := ⟨L - 1, by omega⟩
  obtain ⟨o, t, C', he, hW', e⟩ := hW
  have a := ot_lb hS L' t C' hW'
  have i9 := hS.1 s
  have a2 : w t ≠ 1000000000 := by omega
  have b := hS.2.2 o s t he a2
  have hb : ot_B1 n ne ef co w o s := by
    have q := he.2.2.2
    subst q
    exact ⟨he.2.2.1, a2, by omega⟩
  obtain ⟨o', h1', h2'⟩ := pk_least (fun o => ot_B1 n ne ef co w o s) ⟨o, hb⟩
  have : ¬ o < o' := fun z => h2' o z hb
  exact ⟨o', by have := he.2.1; omega, h1', h2'⟩
theorem ot_B1len {E : Nat → Nat → Nat → Prop} {n : Nat} {ne ef co : Nat → Nat} {g : Nat → Prop} {w : Nat → Nat} (hI : ot_I E co g w) {s o : Nat} (h1 : w s ≠ 1000000000) (h : ot_B1 n ne ef co w o s) : w (ot_nx ef o s n) % 1024 + 1 = w s % 1024 ∧ w (ot_nx ef o s n) / 1024 + co o = w s / 1024 := by
  obtain ⟨C, L, e1, hC, hL, _, _⟩ := ot_Ib hI h1
  obtain ⟨C', L', e1', hC', hL', _, _⟩ := ot_Ib hI h.2.1
  have e := h.2.2
  rw [e1, e1'] at *
  omega
section
variable {n d m : Nat} {co ne ef be go : Nat → Nat} {aC aN aE aB aG od sn mv rm bd ls ah yl yf ym yb yd yr : Nat → Int32} {mt lc rz : Int32} {R g : Nat → Prop} {k : Nat} {f w : Nat → Nat}
theorem ox_first (T : ot_T n d m co ne ef be go aC aN aE aB aG) (hX : ot_XF n m ne ef (fun _ => False) R k od mv f) (hR : ∀ s o, R s → o < m → ot_ap n ne o s → R (ot_nx ef o s n)) (hw : ot_RM R w rm) {s o : Nat} (hs : R s) (h1 : w s ≠ 1000000000) (ho : o < m) (hb : ot_B1 n ne ef co w o s) (hl : ∀ o', o' < o → ¬ ot_B1 n ne ef co w o' s) {post : Int32 → Prop} (h : post (nI o)) : wpX_firstBestOperator post (nI n, nI d, nI m, mt, lc, aC, aN, aE, aB, aG, od, sn, mv, rm, bd, ls, ah) (nI s) := by
  have T0 := T
  obtain ⟨⟨⟨hn1, hn⟩, ⟨hd1, hd⟩, hm⟩, ⟨hC, hco⟩, ⟨hN, hne⟩, ⟨hE, hef⟩, ⟨hB, hbe⟩, ⟨hG, hgo⟩⟩ := T
  have slt := (hX.2.1 s hs).1
  have l := hw.1 s
  have iv : vp_in (nI s) 1024 := vp_in_nI slt (by omega)
  have key : ∀ fu i, i ≤ o → o - i < fu → wX_firstBestOperator_2 post (nI s) (nI n) (nI d) (nI m) mt lc aC aN aE aB aG od sn mv rm bd ls ah fu (nI i) := by
    intro fu
    induction fu with
    | zero => intro i _ h; omega
    | succ fu ih =>
    intro i hi hfu
    refine br_f (nI_ge (a := i) (b := m) (by omega) (by omega)) (ox_wayBy T0 hX hR hw hs (by omega) (fun x hx hy => ⟨iv, ?_⟩))
    rw [nI_clamp (by omega), hw.2.1 s hs]
    rcases Classical.em (i = o) with z | z
    · subst z
      exact br_t (by rw [hy.1 hb.1 hb.2.1, ← hb.2.2]) h
    · refine br_f (fun e => hl i (by omega) ?_) (nm_r (nI_1 i) (ih (i + 1) (by omega) (by omega)))
      have e := (nI_eq (by omega) (by omega)).mp e
      rcases Classical.em (ot_ap n ne i s ∧ w (ot_nx ef i s n) ≠ 1000000000) with q | q
      · exact ⟨q.1, q.2, by have := hy.1 q.1 q.2; omega⟩
      · have := hy.2 q; omega
  exact ⟨o + 1, key (o + 1) 0 (Nat.zero_le _) (by omega)⟩
theorem oy_first (T : ot_T n d m co ne ef be go aC aN aE aB aG) (hw : ot_LF n w yl yf) {E : Nat → Nat → Nat → Prop} (hI : ot_I E co g w) {s o : Nat} (hs : ot_ok n d s) (h1 : w s ≠ 1000000000) (ho : o < m) (hb : ot_B1 n ne ef co w o s) (hl : ∀ o', o' < o → ¬ ot_B1 n ne ef co w o' s) {post : Int32 → Prop} (h : post (nI o)) : wpY_firstBest post (nI n, nI d, nI m, rz, aC, aN, aE, aB, aG, yl, yf, ym, yb, yd, yr) (nI s) := by
  have T0 := T
  obtain ⟨⟨⟨hn1, hn⟩, ⟨hd1, hd⟩, hm⟩, ⟨hC, hco⟩, ⟨hN, hne⟩, ⟨hE, hef⟩, ⟨hB, hbe⟩, ⟨hG, hgo⟩⟩ := T
  have slt := ot_ok_lt hn hs
  have ws := (hw.2.2 s hs.1).2 h1
  have is : vp_in (nI s) 1024 := vp_in_nI slt (by omega)
  have cs : (nI s).toNatClampNeg = s := nI_clamp (by omega)
  obtain ⟨Cs, Ls, es, hCs, hLs, _, _⟩ := ot_Ib hI h1
  have key : ∀ fu i, i ≤ o → o - i < fu → wY_firstBest_2 post (nI s) (nI n) (nI d) (nI m) rz aC aN aE aB aG yl yf ym yb yd yr fu (nI i) := by
    intro fu
    induction fu with
    | zero => intro i _ h; omega
    | succ fu ih =>
    intro i hi hfu
    have io : vp_in (nI i) 10 := vp_in_nI (by omega) (by omega)
    have ci : (nI i).toNatClampNeg = i := nI_clamp (by omega)
    have nx1 : i ≠ o → wY_firstBest_2 post (nI s) (nI n) (nI d) (nI m) rz aC aN aE aB aG yl yf ym yb yd yr fu (nI (i + 1)) := fun q => ih (i + 1) (by omega) (by omega)
    refine br_f (nI_ge (a := i) (b := m) (by omega) (by omega)) (oy_use T0 hs (by omega) (fun ha => ?_) (fun ha => br_t (by decide) (nm_r (nI_1 i) (nx1 (fun q => ha (by rw [q]; exact hb.1))))))
    have tok := ot_nx_ok (o := i) hn hd hef hs n (Nat.le_refl _)
    have tlt := ot_ok_lt hn tok
    have it : vp_in (nI (ot_nx ef i s n)) 1024 := vp_in_nI tlt (by omega)
    have ct : (nI (ot_nx ef i s n)).toNatClampNeg = ot_nx ef i s n := nI_clamp (by omega)
    have wt := hw.2.2 _ tok.1
    have c9 := hco i
    refine br_f (nI_pos (by omega)) ⟨io, it, is, ?_⟩
    rw [ct, ci, cs, hC i (by omega), ws.1, ws.2]
    rcases Classical.em (w (ot_nx ef i s n) = 1000000000) with z | z
    · rw [wt.1 z, nI_add]
      exact br_f (fun e => by have := (nI_eq (by omega) (by omega)).mp e; omega) (nm_r (nI_1 i) (nx1 (fun q => by subst q; exact hb.2.1 z)))
    · rw [(wt.2 z).1, (wt.2 z).2, nI_add, nI_1]
      obtain ⟨C, L, e1, hC', hL, _, _⟩ := ot_Ib hI z
      rcases Classical.em (ot_B1 n ne ef co w i s) with y | y
      · have e : i = o := by
          rcases Nat.lt_or_ge i o with q | q
          · exact absurd y (hl i q)
          · omega
        have b := ot_B1len hI h1 y
        subst e
        exact br_t (by rw [← b.2, Nat.add_comm]) ⟨it, is, br_t (by rw [b.1]) h⟩
      · have no : ¬ (co i + w (ot_nx ef i s n) / 1024 = w s / 1024 ∧ w (ot_nx ef i s n) % 1024 + 1 = w s % 1024) := fun q => y ⟨ha, z, by omega⟩
        have i2 : i ≠ o := fun q => by subst q; exact y hb
        rcases Classical.em (co i + w (ot_nx ef i s n) / 1024 = w s / 1024) with q | q
        · exact br_t (by rw [q]) ⟨it, is, br_f (fun e => no ⟨q, (nI_eq (by omega) (by omega)).mp e⟩) (nm_r (nI_1 i) (nx1 i2))⟩
        · exact br_f (fun e => q ((nI_eq (by omega) (by omega)).mp e)) (nm_r (nI_1 i) (nx1 i2))
  exact ⟨o + 1, key (o + 1) 0 (Nat.zero_le _) (by omega)⟩
theorem ot_B1w {w w' : Nat → Nat} {s o : Nat} (e1 : w' s = w s) (e2 : ot_ap n ne o s → w' (ot_nx ef o s n) = w (ot_nx ef o s n)) : ot_B1 n ne ef co w' o s ↔ ot_B1 n ne ef co w o s := by
  constructor
  · intro ⟨a, b, c⟩
    rw [e1, e2 a] at *
    exact ⟨a, b, c⟩
  · intro ⟨a, b, c⟩
    have e2 := e2 a
    exact ⟨a, by rw [e2]; exact b, by rw [e1, e2]; exact c⟩
def ot_An (n m : Nat) (ne ef co w : Nat → Nat) : Nat → Nat → Nat → Prop
  | 0, s, r => r < m ∧ ot_B1 n ne ef co w r s ∧ ∀ o', o' < r → ¬ ot_B1 n ne ef co w o' s
  | j + 1, s, r => ∃ o, o < m ∧ ot_B1 n ne ef co w o s ∧ (∀ o', o' < o → ¬ ot_B1 n ne ef co w o' s) ∧ ot_An n m ne ef co w j (ot_nx ef o s n) r
theorem ot_lockX (T : ot_T n d m co ne ef be go aC aN aE aB aG) (hX : ot_XF n m ne ef (fun _ => False) (ot_RR n m ne ef be) k od mv f) (hw : ot_RM (ot_RR n m ne ef be) w rm) (hI : ot_I (ot_EX n m ne ef (ot_RR n m ne ef be)) co g w) (hS : ot_S (ot_EX n m ne ef (ot_RR n m ne ef be)) co g w) {i : Nat} (hi : i < 1024) :
    ∀ j s, j ≤ i → ot_RR n m ne ef be s → w s ≠ 1000000000 → j < w s % 1024 → ∃ r, ot_An n m ne ef co w j s r ∧ (∀ (post : Int32 → SX → Prop) fu, j < fu → post (nI r) (nI n, nI d, nI m, mt, lc, aC, aN, aE, aB, aG, od, sn, mv, rm, bd, ls, ah) → wX_step_35 post (nI i) (nI n) (nI d) (nI m) mt lc aC aN aE aB aG od sn mv rm bd ls ah fu (nI s) (nI (i - j))) := by
  intro j
  induction j with
  | zero =>
    intro s _ hs h1 h2
    obtain ⟨o, ho, hb, hl⟩ := ot_B1ex hI hS h1 (by omega)
    refine ⟨o, ⟨ho, hb, hl⟩, fun post fu hfu hp => ?_⟩
    obtain ⟨fu', rfl⟩ : ∃ q, fu = q + 1 := ⟨fu - 1, by omega⟩
    exact br_t (nI_le (by omega) (by omega)) (ox_first T hX ot_RRs hw hs h1 ho hb hl hp)
  | succ j ih =>
    intro s hj hs h1 h2
    obtain ⟨o, ho, hb, hl⟩ := ot_B1ex hI hS h1 (by omega)
    have ht := ot_RRs s o hs ho hb.1
    have ln := ot_B1len hI h1 hb
    have slt := (hX.2.1 s hs).1
    have m10 := T.1.2.2
    have em := (hX.2.2.2.2 s hs o ho).1 (fun z => z) hb.1
    obtain ⟨r, hA, hrX⟩ := ih (ot_nx ef o s n) (by omega) ht hb.2.1 (by omega)
    have ei : i - (j + 1) + 1 = i - j := by omega
    refine ⟨r, ⟨o, ho, hb, hl, hA⟩, fun post fu hfu hp => ?_⟩
    obtain ⟨fu', rfl⟩ : ∃ q, fu = q + 1 := ⟨fu - 1, by omega⟩
    refine br_f (nI_ge (by omega) (by omega)) (ox_first T hX ot_RRs hw hs h1 ho hb hl ?_)
    have e10 : nI s * 10 + nI o = nI (10 * s + o) := by rw [show nI s * 10 = nI (s * 10) from pk_mul s 10, nI_add, Nat.mul_comm]
    exact ⟨by rw [e10]; exact vp_in_nI (by omega) (by omega), nm_r (e' := nI (ot_nx ef o s n)) (by rw [e10, nI_clamp (by omega)]; exact em) (nm_r (e' := nI (i - j)) (by rw [nI_1, ei]) (hrX post fu' (by omega) hp))⟩
theorem ot_lockY (T : ot_T n d m co ne ef be go aC aN aE aB aG) {w' : Nat → Nat} (hw' : ot_LF n w' yl yf) {g' : Nat → Prop} (hI' : ot_I (ot_EY n d m ne ef) co g' w') (he : ∀ s, ot_RR n m ne ef be s → w' s = w s) {i : Nat} (hi : i < 1024) :
    ∀ j s r, j ≤ i → ot_RR n m ne ef be s → w s ≠ 1000000000 → ot_An n m ne ef co w j s r → ∀ (post : Int32 → SY → Prop) fu, j < fu → post (nI r) (nI n, nI d, nI m, rz, aC, aN, aE, aB, aG, yl, yf, ym, yb, yd, yr) → wY_step_39 post (nI i) (nI n) (nI d) (nI m) rz aC aN aE aB aG yl yf ym yb yd yr fu (nI s) (nI (i - j)) := by
  have m10 := T.1.2.2
  intro j
  induction j with
  | zero =>
    intro s r _ hs h1 hA post fu hfu hp
    obtain ⟨ho, hb, hl⟩ := hA
    have eb : ∀ o', o' < m → (ot_B1 n ne ef co w' o' s ↔ ot_B1 n ne ef co w o' s) := fun o' ho' => ot_B1w (he s hs) (fun ha => he _ (ot_RRs s o' hs ho' ha))
    obtain ⟨fu', rfl⟩ : ∃ q, fu = q + 1 := ⟨fu - 1, by omega⟩
    exact br_t (nI_le (by omega) (by omega)) (oy_first T hw' hI' (ot_Rok2 T hs) (by rw [he s hs]; exact h1) ho ((eb r ho).mpr hb) (fun o' q z => hl o' q ((eb o' (by omega)).mp z)) hp)
  | succ j ih =>
    intro s r hj hs h1 hA post fu hfu hp
    obtain ⟨o, ho, hb, hl, hA⟩ := hA
    have eb : ∀ o', o' < m → (ot_B1 n ne ef co w' o' s ↔ ot_B1 n ne ef co w o' s) := fun o' ho' => ot_B1w (he s hs) (fun ha => he _ (ot_RRs s o' hs ho' ha))
    have ht := ot_RRs s o hs ho hb.1
    have ei : i - (j + 1) + 1 = i - j := by omega
    obtain ⟨fu', rfl⟩ : ∃ q, fu = q + 1 := ⟨fu - 1, by omega⟩
    exact br_f (nI_ge (by omega) (by omega)) (oy_first T hw' hI' (ot_Rok2 T hs) (by rw [he s hs]; exact h1) ho ((eb o ho).mpr hb) (fun o' q z => hl o' q ((eb o' (by omega)).mp z)) (oy_use T (ot_Rok2 T hs) (by omega) (fun _ => nm_r (e' := nI (i - j)) (by rw [nI_1, ei]) (ih _ r (by omega) ht hb.2.1 hA post fu' (by omega) hp)) (fun z => absurd hb.1 z)))
end
theorem i_vc_step {k : Nat} {u : SX} {v : SY} (I : i_Rel k u v) (hk : k + 5 ≤ 2562) (v1 : Int32) : wpX_step (fun r u' => wpY_step (fun r' v' => r' = r ∧ i_Rel (k + 5) u' v') v v1) u v1 := by
  obtain ⟨n, d, m, co, ne, ef, be, go, aC, aN, aE, aB, aG, mt, lc, rz, od, sn, mv, rm, bd, ls, ah, yl, yf, ym, yb, yd, yr, rfl, rfl, T⟩ := I
  have s0 := ot_s0 T
  have slt := ot_ok_lt T.1.1.2 s0
  have h0 : ot_RR n m ne ef be (ot_bs be n) := ot_R0 (fun z => z)
  unfold wpX_step
  refine ox_best T (fun k' od sn mv f rm w hX hw hI hS => ?_)
  have l := hw.1 (ot_bs be n)
  have iv : vp_in (nI (ot_bs be n)) 1024 := vp_in_nI slt (by omega)
  have er : nI (w (ot_bs be n)) - nI (w (ot_bs be n)) / 1024 * 1024 = nI (w (ot_bs be n) % 1024) := pk_rem (d := 1024) (by omega) (by omega) (by omega)
  have fy : ∀ (u' : SX), (∀ yl yf, i_Rel (k + 5) u' (nI n, nI d, nI m, rz, aC, aN, aE, aB, aG, yl, yf, ym, yb, yd, yr)) → (w (ot_bs be n) = 1000000000 ∨ v1 < 0 ∨ nI (w (ot_bs be n) % 1024) ≤ v1) → wpY_step (fun r' v' => r' = -3 ∧ i_Rel (k + 5) u' v') (nI n, nI d, nI m, rz, aC, aN, aE, aB, aG, yl, yf, ym, yb, yd, yr) v1 := fun u' hu' h3 => by
    unfold wpY_step
    refine oy_findCosts T (fun yl yf w' hw' hI' hS' => oy_begin T ⟨iv, ?_⟩)
    have e := ot_weq T hI hS hI' hS' h0
    have a := hw'.2.2 _ s0.1
    rw [e] at a
    rw [nI_clamp (by omega)]
    rcases Classical.em (w (ot_bs be n) = 1000000000) with z | z
    · exact br_t (by rw [a.1 z]; decide) ⟨rfl, hu' _ _⟩
    · obtain ⟨C, L, e1, hC', hL, _, _⟩ := ot_Ib hI z
      refine br_f (by rw [(a.2 z).1]; exact nI_ge (b := 1000000) (by omega) (by omega)) (br_c (fun _ => ⟨rfl, hu' _ _⟩) (fun y => ⟨iv, ?_⟩))
      rw [(a.2 z).2]
      refine br_f (Int32.not_lt.mpr ?_) ⟨rfl, hu' _ _⟩
      rcases h3 with q | q | q
      · exact absurd q z
      · exact absurd q y
      · exact q
  rcases Classical.em (w (ot_bs be n) = 1000000000) with z | z
  · exact br_t (by rw [z]; rfl) (fy _ (fun _ _ => i_mk T) (Or.inl z))
  · refine br_f (fun y => z ((nI_eq (by omega) (by omega)).mp (y.trans ot_big))) ?_
    rcases pk_ix v1 (n := w (ot_bs be n) % 1024) (by omega) with y | y | ⟨i, hi, rfl⟩
    · exact br_t y (fy _ (fun _ _ => i_mk T) (Or.inr (Or.inl y)))
    · refine br_c (fun q => fy _ (fun _ _ => i_mk T) (Or.inr (Or.inl q))) (fun q => ⟨by decide, ?_⟩)
      rw [er]
      exact br_f (Int32.not_lt.mpr y) (fy _ (fun _ _ => i_mk T) (Or.inr (Or.inr y)))
    · refine br_f (nI_pos (by omega)) ⟨by decide, ?_⟩
      rw [er]
      refine br_t (nI_lt hi (by omega)) (ox_begin T ?_)
      obtain ⟨r, hA, hrX⟩ := ot_lockX (mt := nI k') (lc := lc) (sn := sn) (bd := bd) (ls := ls) (ah := ah) T hX hw hI hS (i := i) (by omega) i (ot_bs be n) (Nat.le_refl _) h0 z hi
      rw [Nat.sub_self, nI_0] at hrX
      refine ⟨i + 1, hrX _ (i + 1) (by omega) ?_⟩
      unfold wpY_step
      refine oy_findCosts T (fun yl yf w' hw' hI' hS' => oy_begin T ⟨iv, ?_⟩)
      have e := ot_weq T hI hS hI' hS' h0
      have a := hw'.2.2 _ s0.1
      rw [e] at a
      rw [nI_clamp (by omega)]
      obtain ⟨C, L, e1, hC', hL, _, _⟩ := ot_Ib hI z
      refine br_f (by rw [(a.2 z).1]; exact nI_ge (b := 1000000) (by omega) (by omega)) (br_f (nI_pos (by omega)) ⟨iv, ?_⟩)
      rw [(a.2 z).2]
      have q := ot_lockY (rz := rz) (ym := ym) (yb := yb) (yd := yd) (yr := yr) T hw' hI' (fun s hs => ot_weq T hI hS hI' hS' hs) (i := i) (by omega) i (ot_bs be n) r (Nat.le_refl _) h0 z hA
      rw [Nat.sub_self, nI_0] at q
      exact br_t (nI_lt hi (by omega)) ⟨i + 1, q _ (i + 1) (by omega) ⟨rfl, i_mk T⟩⟩
