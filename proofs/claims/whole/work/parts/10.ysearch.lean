/-! the reference's search -/
def ot_bfy (p q : Int32) (br : Nat → Prop) : Prop := (p = -1 ∧ ∀ s, ¬ br s) ∨ ∃ v x, v < 5 ∧ x < 4 ∧ p = nI v ∧ q = nI x ∧ ∀ s, br s ↔ ot_vl s v = x
def ot_MF (n : Nat) (R : Nat → Prop) (ym : Nat → Int32) : Prop := ∀ s, s < 4 ^ n → (ym s = 1 ∧ R s) ∨ (ym s = 0 ∧ ¬ R s)
def ot_MI (n : Nat) (R br : Nat → Prop) (s0 : Nat) (ym : Nat → Int32) : Prop := (∀ s, s < 4 ^ n → ym s = 0 ∨ (ym s = 1 ∧ R s)) ∧ (¬ br s0 → ym s0 = 1)
def ot_MC (n m : Nat) (ne ef : Nat → Nat) (bo br : Nat → Prop) (ym : Nat → Int32) (s o : Nat) : Prop := ym s = 1 → o < m → ¬ bo o → ot_ap n ne o s → ¬ br (ot_nx ef o s n) → ym (ot_nx ef o s n) = 1
theorem ot_01' : ¬ (1 : Int32) = 0 := by decide
section
variable {n d m : Nat} {co ne ef be go : Nat → Nat} {aC aN aE aB aG yl yf yb yd yr : Nat → Int32} {rz : Int32} {bo br : Nat → Prop} {x1 x2 x3 : Int32}
theorem oy_fm72 (T : ot_T n d m co ne ef be go aC aN aE aB aG) (hb : ot_bfy x2 x3 br) (hp : ot_bop x1 bo) {post : SY → Prop} {J : Int32 → (Nat → Int32) → (Nat → Int32) → (Nat → Int32) → (Nat → Int32) → (Nat → Int32) → (Nat → Int32) → (Nat → Int32) → (Nat → Int32) → (Nat → Int32) → (Nat → Int32) → (Nat → Int32) → Prop} {ym0 : Nat → Int32}
    (hJ : ∀ c ym, ot_MI n (ot_R (ot_bs be n) br (ot_E n m ne ef bo)) br (ot_bs be n) ym → ((c = 0 ∧ ym = ym0 ∧ ∀ j, j < 10 * 4 ^ n → ot_MC n m ne ef bo br ym (j / 10) (j % 10)) ∨ (c = 1 ∧ cn (fun s => ym0 s = 1) (4 ^ n) < cn (fun s => ym s = 1) (4 ^ n))) → J c aC aN aE aB aG yl yf ym yb yd yr) :
    ∀ fu i c ym, i ≤ 10 * 4 ^ n → 10 * 4 ^ n - i < fu → ot_MI n (ot_R (ot_bs be n) br (ot_E n m ne ef bo)) br (ot_bs be n) ym → ((c = 0 ∧ ym = ym0 ∧ ∀ j, j < i → ot_MC n m ne ef bo br ym (j / 10) (j % 10)) ∨ (c = 1 ∧ cn (fun s => ym0 s = 1) (4 ^ n) < cn (fun s => ym s = 1) (4 ^ n))) → wY_findMet_72 post J x1 x2 x3 (nI n) (nI d) (nI m) rz fu c (nI i) aC aN aE aB aG yl yf ym yb yd yr := by
  have s0ok := ot_s0 T
  have T0 := T
  obtain ⟨⟨⟨hn1, hn⟩, ⟨hd1, hd⟩, hm⟩, ⟨hC, hco⟩, ⟨hN, hne⟩, ⟨hE, hef⟩, ⟨hB, hbe⟩, ⟨hG, hgo⟩⟩ := T
  have p4 := ot_4n hn
  have p1 := ot_4p n
  intro fu
  induction fu with
  | zero => intro i c ym _ h; omega
  | succ fu ih =>
  intro i c ym hi hfu hM hc
  simp only [wY_findMet_72, oy_st T0]
  rw [show 10 * nI (4 ^ n) = nI (10 * 4 ^ n) from pk_mul 10 _]
  rcases Nat.lt_or_ge i (10 * 4 ^ n) with z | z
  · have ed : nI i / 10 = nI (i / 10) := pk_div (d := 10) (by omega) (by omega) (by omega)
    have er : nI i - nI i / 10 * 10 = nI (i % 10) := pk_rem (d := 10) (by omega) (by omega) (by omega)
    have sl : i / 10 < 4 ^ n := by omega
    have ol : i % 10 < 10 := by omega
    have skip : ot_MC n m ne ef bo br ym (i / 10) (i % 10) → wY_findMet_72 post J x1 x2 x3 (nI n) (nI d) (nI m) rz fu c (nI (i + 1)) aC aN aE aB aG yl yf ym yb yd yr := fun q => ih (i + 1) c ym (by omega) (by omega) hM (hc.imp (fun y => ⟨y.1, y.2.1, lt_s y.2.2 q⟩) id)
    refine br_f (nI_ge z (by omega)) ⟨by decide, nm_r er ⟨by decide, ?_⟩⟩
    rw [ed]
    refine ⟨vp_in_nI (by omega) (by omega), ?_⟩
    rw [nI_clamp (by omega)]
    rcases hM.1 (i / 10) sl with y | ⟨y, hR⟩
    · exact br_t y (br_t (by decide) (nm_r (nI_1 i) (skip (fun w => absurd (y.symm.trans w) ot_01))))
    · have sok := ot_Rok hn hd hef s0ok hR
      refine br_f (by rw [y]; decide) ?_
      rcases Nat.lt_or_ge (i % 10) m with a | a
      · refine br_f (nI_ge a (by omega)) ?_
        rcases Classical.em (bo (i % 10)) with b | b
        · exact br_t ((hp _ ol).mpr b) (br_t (by decide) (nm_r (nI_1 i) (skip (fun _ _ w => absurd b w))))
        · refine br_f (fun w => b ((hp _ ol).mp w)) ⟨by decide, oy_use T0 sok ol (fun ha => ?_) (fun ha => ?_)⟩
          · have tok := ot_nx_ok (o := i % 10) hn hd hef sok n (Nat.le_refl _)
            have tlt := ot_ok_lt hn tok
            refine br_f (nI_pos (by omega)) ⟨vp_in_nI tlt (by omega), ?_⟩
            rw [nI_clamp (by omega)]
            rcases hM.1 _ tok.1 with e | ⟨e, _⟩
            · have put : ¬ br (ot_nx ef (i % 10) (i / 10) n) → wY_findMet_166 post J (wY_findMet_72 post J x1 x2 x3 (nI n) (nI d) (nI m) rz fu) x1 x2 x3 (nI i) (nI (ot_nx ef (i % 10) (i / 10) n)) (nI n) (nI d) (nI m) rz aC aN aE aB aG yl yf ym yb yd yr := fun q => by
                refine ⟨vp_in_nI tlt (by omega), nm_r (e' := upd ym (ot_nx ef (i % 10) (i / 10) n) 1) (by rw [nI_clamp (by omega)]; rfl) (nm_r (nI_1 i) (ih (i + 1) 1 _ (by omega) (by omega) ⟨fun s hs => ?_, fun w => ?_⟩ (Or.inr ⟨rfl, ?_⟩)))⟩
                · rcases Classical.em (s = ot_nx ef (i % 10) (i / 10) n) with g | g
                  · rw [g, pk_us]; exact Or.inr ⟨rfl, ot_Rs hR ⟨i % 10, a, b, ha, rfl⟩ q⟩
                  · rw [pk_un g]; exact hM.1 s hs
                · rcases Classical.em (ot_bs be n = ot_nx ef (i % 10) (i / 10) n) with g | g
                  · rw [g, pk_us]
                  · rw [pk_un g]; exact hM.2 w
                · rw [ot_cnupd tok.1 (fun w => ot_01 (e.symm.trans w))]
                  rcases hc with w | w
                  · rw [w.2.1]; omega
                  · omega
              refine br_t e ?_
              rcases hb with ⟨w1, w2⟩ | ⟨v, x, hv, hx, rfl, rfl, w⟩
              · exact br_t (by rw [w1]; decide) (put (w2 _))
              · refine br_f (nI_pos (by omega)) (oy_val tlt hv ?_)
                have v4 := ot_vl4 (ot_nx ef (i % 10) (i / 10) n) v
                rcases Classical.em (br (ot_nx ef (i % 10) (i / 10) n)) with q | q
                · exact br_t (by rw [(w _).mp q]) (nm_r (nI_1 i) (skip (fun _ _ _ _ u => absurd q u)))
                · exact br_f (fun u => q ((w _).mpr ((nI_eq (by omega) (by omega)).mp u))) (put q)
            · exact br_f (by rw [e]; decide) (nm_r (nI_1 i) (skip (fun _ _ _ _ _ => e)))
          · exact br_t (by decide) (nm_r (nI_1 i) (skip (fun _ _ _ w => absurd w ha)))
      · exact br_t (nI_le a (by omega)) (br_t (by decide) (nm_r (nI_1 i) (skip (fun _ w => by omega))))
  · refine br_t (nI_le z (by omega)) (hJ c ym hM (hc.imp (fun y => ⟨y.1, y.2.1, fun j hj => y.2.2 j (by omega)⟩) id))
theorem oy_findMet (T : ot_T n d m co ne ef be go aC aN aE aB aG) {ym : Nat → Int32} (hb : ot_bfy x2 x3 br) (hp : ot_bop x1 bo) {post : SY → Prop}
    (h : ∀ ym, ot_MF n (ot_R (ot_bs be n) br (ot_E n m ne ef bo)) ym → post (nI n, nI d, nI m, rz, aC, aN, aE, aB, aG, yl, yf, ym, yb, yd, yr)) : wpY_findMet post (nI n, nI d, nI m, rz, aC, aN, aE, aB, aG, yl, yf, ym, yb, yd, yr) x1 x2 x3 := by
  have s0ok := ot_s0 T
  have T0 := T
  obtain ⟨⟨⟨hn1, hn⟩, ⟨hd1, hd⟩, hm⟩, ⟨hC, hco⟩, ⟨hN, hne⟩, ⟨hE, hef⟩, ⟨hB, hbe⟩, ⟨hG, hgo⟩⟩ := T
  have p4 := ot_4n hn
  have p1 := ot_4p n
  have key : ∀ fu c ym, ot_MI n (ot_R (ot_bs be n) br (ot_E n m ne ef bo)) br (ot_bs be n) ym → (c = 0 → ∀ j, j < 10 * 4 ^ n → ot_MC n m ne ef bo br ym (j / 10) (j % 10)) → (c = 0 ∨ c = 1) → 4 ^ n - cn (fun s => ym s = 1) (4 ^ n) + (if c = 0 then 0 else 1) < fu → wY_findMet_61 post x1 x2 x3 (nI n) (nI d) (nI m) rz fu c aC aN aE aB aG yl yf ym yb yd yr := by
    intro fu
    induction fu with
    | zero => intro c ym _ _ _ h; omega
    | succ fu ih =>
    intro c ym hM hC hc hfu
    rcases hc with z | z
    · refine br_t z (h ym (fun s hs => ?_))
      have cl := hC z
      rcases hM.1 s hs with y | y
      · refine Or.inr ⟨y, fun hR => ?_⟩
        have := (hR (fun s => ym s = 1 ∧ ot_ok n d s) (fun q => ⟨hM.2 q, s0ok⟩) (fun s t ⟨w1, w2⟩ ⟨o, ho, hb', ha, e⟩ hbr => by
          subst e
          have q := cl (10 * s + o) (by have := w2.1; omega)
          rw [show (10 * s + o) / 10 = s by omega, show (10 * s + o) % 10 = o by omega] at q
          exact ⟨q w1 ho hb' ha hbr, ot_nx_ok hn hd hef w2 n (Nat.le_refl _)⟩)).1
        exact ot_01 (y.symm.trans this)
      · exact Or.inl y
    · subst z
      rw [if_neg ot_01'] at hfu
      have hle := cn_le (fun s => ym s = 1) (4 ^ n)
      refine br_f ot_01' ⟨10 * 4 ^ n + 1, oy_fm72 T0 hb hp (ym0 := ym) (fun c' ym' hM' hc' => ?_) (10 * 4 ^ n + 1) 0 0 ym (Nat.zero_le _) (by omega) hM (Or.inl ⟨rfl, rfl, fun j hj => by omega⟩)⟩
      rcases hc' with ⟨q1, q2, q3⟩ | ⟨q1, q2⟩
      · subst q1 q2
        exact ih 0 ym' hM' (fun _ => q3) (Or.inl rfl) (by rw [if_pos rfl]; omega)
      · subst q1
        have hle' := cn_le (fun s => ym' s = 1) (4 ^ n)
        exact ih 1 ym' hM' (fun q => absurd q ot_01') (Or.inr rfl) (by rw [if_neg ot_01']; omega)
  refine oy_begin T0 ?_
  refine loop_0 (fun fu i (ym : Nat → Int32) => wY_findMet_9 post x1 x2 x3 (nI (ot_bs be n)) (nI n) (nI d) (nI m) rz fu (nI i) aC aN aE aB aG yl yf ym yb yd yr) (fun i ym => ∀ j, j < i → (ym j = 1 ∧ j = ot_bs be n ∧ ¬ br j) ∨ (ym j = 0 ∧ ¬ (j = ot_bs be n ∧ ¬ br j))) (4 ^ n) ym (fun j hj => by omega) ?_ ?_
  · intro fu ym hI
    simp only [wY_findMet_9, oy_st T0]
    refine br_t (nI_le (Nat.le_refl _) (by omega)) ⟨4 ^ n + 2, key (4 ^ n + 2) 1 ym ⟨fun s hs => ?_, fun q => ?_⟩ (fun q => absurd q ot_01') (Or.inr rfl) (by rw [if_neg ot_01']; omega)⟩
    · rcases hI s hs with ⟨a, b, c⟩ | ⟨a, _⟩
      · exact Or.inr ⟨a, by rw [b] at c ⊢; exact ot_R0 c⟩
      · exact Or.inl a
    · rcases hI _ s0ok.1 with ⟨a, _⟩ | ⟨_, b⟩
      · exact a
      · exact absurd ⟨rfl, q⟩ b
  · intro fu i ym hi hI ih
    simp only [wY_findMet_9, oy_st T0]
    refine br_f (nI_ge hi (by omega)) ?_
    have iv : vp_in (nI i) 1024 := vp_in_nI (by omega) (by omega)
    have nx1 : ∀ x, ((x = 1 ∧ i = ot_bs be n ∧ ¬ br i) ∨ (x = 0 ∧ ¬ (i = ot_bs be n ∧ ¬ br i))) → wY_findMet_9 post x1 x2 x3 (nI (ot_bs be n)) (nI n) (nI d) (nI m) rz fu (nI (i + 1)) aC aN aE aB aG yl yf (upd ym i x) yb yd yr := fun x hx => ih _ (lt_s (fun j hj => by rw [pk_un (by omega)]; exact hI j hj) (by rw [pk_us]; exact hx))
    have e1 : ∀ x : Int32, upd ym (nI i).toNatClampNeg x = upd ym i x := fun x => by rw [nI_clamp (by omega)]
    have slt := ot_ok_lt hn s0ok
    rcases Classical.em (i = ot_bs be n) with z | z
    · refine br_t (by rw [z]) ?_
      rcases hb with ⟨w1, w2⟩ | ⟨v, x, hv, hx, rfl, rfl, w⟩
      · exact br_t (by rw [w1]; decide) ⟨iv, nm_r (e1 _) (nm_r (nI_1 i) (nx1 1 (Or.inl ⟨rfl, z, w2 _⟩)))⟩
      · refine br_f (nI_pos (by omega)) (oy_val (by omega) hv ?_)
        have v4 := ot_vl4 i v
        rcases Classical.em (br i) with q | q
        · exact br_t (by rw [(w _).mp q]) ⟨iv, nm_r (e1 _) (nm_r (nI_1 i) (nx1 0 (Or.inr ⟨rfl, fun u => u.2 q⟩)))⟩
        · exact br_f (fun u => q ((w _).mpr ((nI_eq (by omega) (by omega)).mp u))) ⟨iv, nm_r (e1 _) (nm_r (nI_1 i) (nx1 1 (Or.inl ⟨rfl, z, q⟩)))⟩
    · exact br_f (fun u => z ((nI_eq (by omega) (by omega)).mp u)) ⟨iv, nm_r (e1 _) (nm_r (nI_1 i) (nx1 0 (Or.inr ⟨rfl, fun u => z u.1⟩)))⟩
theorem oy_meets (T : ot_T n d m co ne ef be go aC aN aE aB aG) {R : Nat → Prop} {ym : Nat → Int32} (hM : ot_MF n R ym) (hR : ∀ s, R s → s < 4 ^ n) {post : Int32 → Prop} (h1 : (∃ s, R s ∧ ot_gl n go s) → post 1) (h0 : (¬ ∃ s, R s ∧ ot_gl n go s) → post 0) : wpY_meetsGoal post (nI n, nI d, nI m, rz, aC, aN, aE, aB, aG, yl, yf, ym, yb, yd, yr) := by
  have T0 := T
  obtain ⟨⟨⟨hn1, hn⟩, ⟨hd1, hd⟩, hm⟩, ⟨hC, hco⟩, ⟨hN, hne⟩, ⟨hE, hef⟩, ⟨hB, hbe⟩, ⟨hG, hgo⟩⟩ := T
  have p4 := ot_4n hn
  have p1 := ot_4p n
  refine loop_0 (σ := Unit) (fun fu i _ => wY_meetsGoal_2 post (nI n) (nI d) (nI m) rz aC aN aE aB aG yl yf ym yb yd yr fu (nI i)) (fun i _ => ∀ j, j < i → ¬ (R j ∧ ot_gl n go j)) (4 ^ n) () (fun j hj => by omega) ?_ ?_
  · intro fu _ hI
    simp only [wY_meetsGoal_2, oy_st T0]
    exact br_t (nI_le (Nat.le_refl _) (by omega)) (h0 (fun ⟨s, a, b⟩ => hI s (hR s a) ⟨a, b⟩))
  · intro fu i _ hi hI ih
    simp only [wY_meetsGoal_2, oy_st T0]
    refine br_f (nI_ge hi (by omega)) ⟨vp_in_nI (by omega) (by omega), ?_⟩
    rw [nI_clamp (by omega)]
    rcases hM i hi with ⟨a, b⟩ | ⟨a, b⟩
    · exact br_f (by rw [a]; decide) (oy_isGoal T0 (by omega) (fun g => br_f (by decide) (h1 ⟨i, b, g⟩)) (fun g => br_t rfl (nm_r (nI_1 i) (ih () (lt_s hI (fun q => g q.2))))))
    · exact br_t a (nm_r (nI_1 i) (ih () (lt_s hI (fun q => b q.1))))
end
