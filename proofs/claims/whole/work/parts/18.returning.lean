/-! returning -/
def ot_Bk (n m : Nat) (ne ef : Nat → Nat) (R : Nat → Prop) (s0 s : Nat) : Prop := ∀ P : Nat → Prop, P s0 → (∀ s o, R s → o < m → ot_ap n ne o s → P (ot_nx ef o s n) → P s) → P s
theorem ot_Bk0 {n m : Nat} {ne ef : Nat → Nat} {R : Nat → Prop} {s0 : Nat} : ot_Bk n m ne ef R s0 s0 := fun _ h _ => h
theorem ot_Bks {n m : Nat} {ne ef : Nat → Nat} {R : Nat → Prop} {s0 s o : Nat} (hs : R s) (ho : o < m) (ha : ot_ap n ne o s) (h : ot_Bk n m ne ef R s0 (ot_nx ef o s n)) : ot_Bk n m ne ef R s0 s := fun P h0 hP => hP s o hs ho ha (h P h0 hP)
theorem ot_BkW {n m : Nat} {ne ef co : Nat → Nat} {R : Nat → Prop} {s0 : Nat} : ∀ L s C, ot_W (ot_EX n m ne ef R) co (fun s => s = s0) L s C → ot_Bk n m ne ef R s0 s := by
  intro L
  induction L with
  | zero => intro s C h; rw [h.1]; exact ot_Bk0
  | succ L ih =>
    intro s C ⟨o, t, C', he, hw, _⟩
    have q := he.2.2.2
    subst q
    exact ot_Bks he.1 he.2.1 he.2.2.1 (ih _ C' hw)
theorem ot_Bkw {n m : Nat} {ne ef co : Nat → Nat} {R : Nat → Prop} {s0 : Nat} {w : Nat → Nat} (hc : ∀ o, co o ≤ 9) (hI : ot_I (ot_EX n m ne ef R) co (fun s => s = s0) w) (hS : ot_S (ot_EX n m ne ef R) co (fun s => s = s0) w) (s : Nat) : w s ≠ 1000000000 ↔ ot_Bk n m ne ef R s0 s := by
  constructor
  · intro h
    obtain ⟨C, L, _, _, _, _, hW⟩ := ot_Ib hI h
    exact ot_BkW L s C hW
  · intro h
    refine h (fun s => w s ≠ 1000000000) (by show w s0 ≠ 1000000000; rw [hS.2.1 s0 rfl]; omega) (fun s o hs ho ha ht => ?_)
    obtain ⟨C, L, e1, hC, hL, _, _⟩ := ot_Ib hI ht
    have := hS.2.2 o s _ ⟨hs, ho, ha, rfl⟩ ht
    have := hc o
    omega
section
variable {n d m : Nat} {co ne ef be go : Nat → Nat} {aC aN aE aB aG yl yf ym yd yr : Nat → Int32} {rz : Int32}
def ot_BI (n m : Nat) (ne ef : Nat → Nat) (R : Nat → Prop) (s0 : Nat) (yb : Nat → Int32) : Prop := (∀ s, s < 4 ^ n → yb s = 0 ∨ (yb s = 1 ∧ ot_Bk n m ne ef R s0 s)) ∧ yb s0 = 1
def ot_BC (n m : Nat) (ne ef : Nat → Nat) (R : Nat → Prop) (yb : Nat → Int32) (s o : Nat) : Prop := R s → o < m → ot_ap n ne o s → yb (ot_nx ef o s n) = 1 → yb s = 1
theorem oy_rt54 (T : ot_T n d m co ne ef be go aC aN aE aB aG) (hM : ot_MF n (ot_RR n m ne ef be) ym) {post : Int32 → SY → Prop} {J : Int32 → (Nat → Int32) → (Nat → Int32) → (Nat → Int32) → (Nat → Int32) → (Nat → Int32) → (Nat → Int32) → (Nat → Int32) → (Nat → Int32) → (Nat → Int32) → (Nat → Int32) → (Nat → Int32) → Prop} {yb0 : Nat → Int32}
    (hJ : ∀ c yb, ot_BI n m ne ef (ot_RR n m ne ef be) (ot_bs be n) yb → ((c = 0 ∧ yb = yb0 ∧ ∀ j, j < 10 * 4 ^ n → ot_BC n m ne ef (ot_RR n m ne ef be) yb (j / 10) (j % 10)) ∨ (c = 1 ∧ cn (fun s => yb0 s = 1) (4 ^ n) < cn (fun s => yb s = 1) (4 ^ n))) → J c aC aN aE aB aG yl yf ym yb yd yr) :
    ∀ fu i c yb, i ≤ 10 * 4 ^ n → 10 * 4 ^ n - i < fu → ot_BI n m ne ef (ot_RR n m ne ef be) (ot_bs be n) yb → ((c = 0 ∧ yb = yb0 ∧ ∀ j, j < i → ot_BC n m ne ef (ot_RR n m ne ef be) yb (j / 10) (j % 10)) ∨ (c = 1 ∧ cn (fun s => yb0 s = 1) (4 ^ n) < cn (fun s => yb s = 1) (4 ^ n))) → wY_returning_54 post J (nI n) (nI d) (nI m) rz fu c (nI i) aC aN aE aB aG yl yf ym yb yd yr := by
  have s0ok := ot_s0 T
  have T0 := T
  obtain ⟨⟨⟨hn1, hn⟩, ⟨hd1, hd⟩, hm⟩, ⟨hC, hco⟩, ⟨hN, hne⟩, ⟨hE, hef⟩, ⟨hB, hbe⟩, ⟨hG, hgo⟩⟩ := T
  have p4 := ot_4n hn
  have p1 := ot_4p n
  intro fu
  induction fu with
  | zero => intro i c yb _ h; omega
  | succ fu ih =>
  intro i c yb hi hfu hM' hc
  simp only [wY_returning_54, oy_st T0]
  rw [show 10 * nI (4 ^ n) = nI (10 * 4 ^ n) from pk_mul 10 _]
  rcases Nat.lt_or_ge i (10 * 4 ^ n) with z | z
  · have ed : nI i / 10 = nI (i / 10) := pk_div (d := 10) (by omega) (by omega) (by omega)
    have er : nI i - nI i / 10 * 10 = nI (i % 10) := pk_rem (d := 10) (by omega) (by omega) (by omega)
    have sl : i / 10 < 4 ^ n := by omega
    have ol : i % 10 < 10 := by omega
    have iv : vp_in (nI (i / 10)) 1024 := vp_in_nI (by omega) (by omega)
    have ci : (nI (i / 10)).toNatClampNeg = i / 10 := nI_clamp (by omega)
    have skip : ot_BC n m ne ef (ot_RR n m ne ef be) yb (i / 10) (i % 10) → wY_returning_54 post J (nI n) (nI d) (nI m) rz fu c (nI (i + 1)) aC aN aE aB aG yl yf ym yb yd yr := fun q => ih (i + 1) c yb (by omega) (by omega) hM' (hc.imp (fun y => ⟨y.1, y.2.1, lt_s y.2.2 q⟩) id)
    refine br_f (nI_ge z (by omega)) ⟨by decide, nm_r er ⟨by decide, ?_⟩⟩
    rw [ed]
    refine ⟨iv, ?_⟩
    rw [ci]
    rcases hM (i / 10) sl with ⟨y, hR⟩ | ⟨y, hR⟩
    · have sok := ot_Rok hn hd hef s0ok hR
      refine br_f (by rw [y]; decide) ⟨by decide, iv, ?_⟩
      rcases hM'.1 (i / 10) sl with e | ⟨e, _⟩
      · refine br_t e ?_
        rcases Nat.lt_or_ge (i % 10) m with a | a
        · refine br_f (nI_ge a (by omega)) ⟨by decide, oy_use T0 sok ol (fun ha => ?_) (fun ha => ?_)⟩
          · have tok := ot_nx_ok (o := i % 10) hn hd hef sok n (Nat.le_refl _)
            have tlt := ot_ok_lt hn tok
            refine br_f (nI_pos (by omega)) ⟨vp_in_nI tlt (by omega), ?_⟩
            rw [nI_clamp (by omega)]
            rcases hM'.1 _ tok.1 with q | ⟨q, hB'⟩
            · exact br_t q (nm_r (nI_1 i) (skip (fun _ _ _ w => absurd (q.symm.trans w) ot_01)))
            · refine br_f (by rw [q]; decide) ⟨by decide, ?_⟩
              rw [ed]
              refine ⟨iv, nm_r (e' := upd yb (i / 10) 1) (by rw [ci]; rfl) (nm_r (nI_1 i) (ih (i + 1) 1 _ (by omega) (by omega) ⟨fun s hs => ?_, ?_⟩ (Or.inr ⟨rfl, ?_⟩)))⟩
              · rcases Classical.em (s = i / 10) with g | g
                · rw [g, pk_us]; exact Or.inr ⟨rfl, ot_Bks hR a ha hB'⟩
                · rw [pk_un g]; exact hM'.1 s hs
              · rcases Classical.em (ot_bs be n = i / 10) with g | g
                · rw [g, pk_us]
                · rw [pk_un g]; exact hM'.2
              · rw [ot_cnupd sl (fun w => ot_01 (e.symm.trans w))]
                rcases hc with w | w
                · rw [w.2.1]; omega
                · omega
          · exact br_t (by decide) (nm_r (nI_1 i) (skip (fun _ _ w => absurd w ha)))
        · exact br_t (nI_le a (by omega)) (br_t (by decide) (nm_r (nI_1 i) (skip (fun _ w => by omega))))
      · exact br_f (by rw [e]; decide) (br_t (by decide) (nm_r (nI_1 i) (skip (fun _ _ _ _ => e))))
    · exact br_t y (br_t (by decide) (nm_r (nI_1 i) (skip (fun w => absurd w hR))))
  · refine br_t (nI_le z (by omega)) (hJ c yb hM' (hc.imp (fun y => ⟨y.1, y.2.1, fun j hj => y.2.2 j (by omega)⟩) id))
theorem oy_returning (T : ot_T n d m co ne ef be go aC aN aE aB aG) {yb : Nat → Int32} {post : Int32 → SY → Prop} (h : ∀ ym yb, post (nI (cn (fun s => ot_RR n m ne ef be s ∧ ot_Bk n m ne ef (ot_RR n m ne ef be) (ot_bs be n) s) (4 ^ n))) (nI n, nI d, nI m, rz, aC, aN, aE, aB, aG, yl, yf, ym, yb, yd, yr)) : wpY_returning post (nI n, nI d, nI m, rz, aC, aN, aE, aB, aG, yl, yf, ym, yb, yd, yr) := by
  have s0ok := ot_s0 T
  have T0 := T
  obtain ⟨⟨⟨hn1, hn⟩, ⟨hd1, hd⟩, hm⟩, ⟨hC, hco⟩, ⟨hN, hne⟩, ⟨hE, hef⟩, ⟨hB, hbe⟩, ⟨hG, hgo⟩⟩ := T
  have p4 := ot_4n hn
  have p1 := ot_4p n
  refine oy_findMet T0 ot_bfy0 ot_bop0 (fun ym hM => oy_begin T0 ?_)
  have k161 : ∀ yb, (∀ s, ot_RR n m ne ef be s → ((yb s = 1 ∧ ot_Bk n m ne ef (ot_RR n m ne ef be) (ot_bs be n) s) ∨ (yb s = 0 ∧ ¬ ot_Bk n m ne ef (ot_RR n m ne ef be) (ot_bs be n) s))) → ∃ fu, wY_returning_161 post (nI n) (nI d) (nI m) rz aC aN aE aB aG yl yf ym yb yd yr fu 0 0 := fun yb hb => by
    refine loop_0 (σ := Unit) (fun fu i _ => wY_returning_161 post (nI n) (nI d) (nI m) rz aC aN aE aB aG yl yf ym yb yd yr fu (nI (cn (fun s => ot_RR n m ne ef be s ∧ ot_Bk n m ne ef (ot_RR n m ne ef be) (ot_bs be n) s) i)) (nI i)) (fun _ _ => True) (4 ^ n) () trivial ?_ ?_
    · intro fu _ _
      simp only [wY_returning_161, oy_st T0]
      exact br_t (nI_le (Nat.le_refl _) (by omega)) (h ym yb)
    · intro fu i _ hi _ ih
      have ih : wY_returning_161 post (nI n) (nI d) (nI m) rz aC aN aE aB aG yl yf ym yb yd yr fu (nI (cn (fun s => ot_RR n m ne ef be s ∧ ot_Bk n m ne ef (ot_RR n m ne ef be) (ot_bs be n) s) i + b01 (ot_RR n m ne ef be i ∧ ot_Bk n m ne ef (ot_RR n m ne ef be) (ot_bs be n) i))) (nI (i + 1)) := ih () trivial
      simp only [wY_returning_161, oy_st T0]
      have iv : vp_in (nI i) 1024 := vp_in_nI (by omega) (by omega)
      refine br_f (nI_ge hi (by omega)) ⟨iv, ?_⟩
      rw [nI_clamp (by omega)]
      rcases hM i hi with ⟨a, b⟩ | ⟨a, b⟩
      · refine br_f (by rw [a]; decide) ⟨iv, ?_⟩
        rcases hb i b with ⟨e, q⟩ | ⟨e, q⟩
        · rw [b01_t ⟨b, q⟩] at ih
          exact br_f (by rw [e]; decide) (nm_r (nI_1 _) (nm_r (nI_1 i) ih))
        · rw [b01_f (fun w => q w.2)] at ih
          exact br_t e (nm_r (nI_1 i) ih)
      · rw [b01_f (fun w => b w.1)] at ih
        exact br_t a (nm_r (nI_1 i) ih)
  have key : ∀ fu c yb, ot_BI n m ne ef (ot_RR n m ne ef be) (ot_bs be n) yb → (c = 0 → ∀ j, j < 10 * 4 ^ n → ot_BC n m ne ef (ot_RR n m ne ef be) yb (j / 10) (j % 10)) → (c = 0 ∨ c = 1) → 4 ^ n - cn (fun s => yb s = 1) (4 ^ n) + (if c = 0 then 0 else 1) < fu → wY_returning_46 post (nI n) (nI d) (nI m) rz fu c aC aN aE aB aG yl yf ym yb yd yr := by
    intro fu
    induction fu with
    | zero => intro c yb _ _ _ h; omega
    | succ fu ih =>
    intro c yb hB' hC' hc hfu
    rcases hc with z | z
    · refine br_t z (k161 yb (fun s hs => ?_))
      have cl := hC' z
      rcases hB'.1 s (ot_Rlt T0 hs) with y | y
      · refine Or.inr ⟨y, fun hk => ?_⟩
        have := hk (fun s => yb s = 1) hB'.2 (fun s o hs ho ha ht => by
          have lt := ot_Rlt T0 hs
          have q := cl (10 * s + o) (by omega)
          rw [show (10 * s + o) / 10 = s by omega, show (10 * s + o) % 10 = o by omega] at q
          exact q hs ho ha ht)
        exact ot_01 (y.symm.trans this)
      · exact Or.inl y
    · subst z
      rw [if_neg ot_01'] at hfu
      have hle := cn_le (fun s => yb s = 1) (4 ^ n)
      refine br_f ot_01' ⟨10 * 4 ^ n + 1, oy_rt54 T0 hM (yb0 := yb) (fun c' yb' hM' hc' => ?_) (10 * 4 ^ n + 1) 0 0 yb (Nat.zero_le _) (by omega) hB' (Or.inl ⟨rfl, rfl, fun j hj => by omega⟩)⟩
      rcases hc' with ⟨q1, q2, q3⟩ | ⟨q1, q2⟩
      · subst q1 q2
        exact ih 0 yb' hM' (fun _ => q3) (Or.inl rfl) (by rw [if_pos rfl]; omega)
      · subst q1
        have hle' := cn_le (fun s => yb' s = 1) (4 ^ n)
        exact ih 1 yb' hM' (fun q => absurd q ot_01') (Or.inr rfl) (by rw [if_neg ot_01']; omega)
  refine loop_0 (fun fu i (yb : Nat → Int32) => wY_returning_14 post (nI (ot_bs be n)) (nI n) (nI d) (nI m) rz fu (nI i) aC aN aE aB aG yl yf ym yb yd yr) (fun i yb => ∀ j, j < i → (yb j = 1 ∧ j = ot_bs be n) ∨ (yb j = 0 ∧ ¬ j = ot_bs be n)) (4 ^ n) yb (fun j hj => by omega) ?_ ?_
  · intro fu yb hI
    simp only [wY_returning_14, oy_st T0]
    refine br_t (nI_le (Nat.le_refl _) (by omega)) ⟨4 ^ n + 2, key (4 ^ n + 2) 1 yb ⟨fun s hs => ?_, ?_⟩ (fun q => absurd q ot_01') (Or.inr rfl) (by rw [if_neg ot_01']; omega)⟩
    · rcases hI s hs with ⟨a, b⟩ | ⟨a, _⟩
      · exact Or.inr ⟨a, by rw [b]; exact ot_Bk0⟩
      · exact Or.inl a
    · rcases hI _ s0ok.1 with ⟨a, _⟩ | ⟨_, b⟩
      · exact a
      · exact absurd rfl b
  · intro fu i yb hi hI ih
    simp only [wY_returning_14, oy_st T0]
    have iv : vp_in (nI i) 1024 := vp_in_nI (by omega) (by omega)
    have slt := ot_ok_lt hn s0ok
    have nx1 : ∀ x, ((x = 1 ∧ i = ot_bs be n) ∨ (x = 0 ∧ ¬ i = ot_bs be n)) → wY_returning_14 post (nI (ot_bs be n)) (nI n) (nI d) (nI m) rz fu (nI (i + 1)) aC aN aE aB aG yl yf ym (upd yb i x) yd yr := fun x hx => ih _ (lt_s (fun j hj => by rw [pk_un (by omega)]; exact hI j hj) (by rw [pk_us]; exact hx))
    have e1 : ∀ x : Int32, upd yb (nI i).toNatClampNeg x = upd yb i x := fun x => by rw [nI_clamp (by omega)]
    refine br_f (nI_ge hi (by omega)) ?_
    rcases Classical.em (i = ot_bs be n) with z | z
    · exact br_t (by rw [z]) ⟨iv, nm_r (e1 _) (nm_r (nI_1 i) (nx1 1 (Or.inl ⟨rfl, z⟩)))⟩
    · exact br_f (fun u => z ((nI_eq (by omega) (by omega)).mp u)) ⟨iv, nm_r (e1 _) (nm_r (nI_1 i) (nx1 0 (Or.inr ⟨rfl, z⟩)))⟩
end
theorem i_vc_returning {k : Nat} {u : SX} {v : SY} (I : i_Rel k u v) (hk : k + 5 ≤ 2562) : wpX_returning (fun r u' => wpY_returning (fun r' v' => r' = r ∧ i_Rel (k + 5) u' v') v) u := by
  obtain ⟨n, d, m, co, ne, ef, be, go, aC, aN, aE, aB, aG, mt, lc, rz, od, sn, mv, rm, bd, ls, ah, yl, yf, ym, yb, yd, yr, rfl, rfl, T⟩ := I
  have p4 := ot_4n T.1.1.2
  have h0 : ot_RR n m ne ef be (ot_bs be n) := ot_R0 (fun z => z)
  refine ox_explore T ot_bf0 ot_bop0 (fun k' od sn mv f hX => ?_)
  refine ox_endB T hX h0 (fun rm hw => ?_)
  refine ox_measure T hX (ot_XFle hX) ot_RRs hw (ot_w0I (fun s hs => by rw [hs]; exact (hX.2.1 _ h0).1)) (fun s hs => ot_w0t hs) (fun rm w hw hI hS => ?_)
  refine ox_count hX hw ?_
  refine oy_returning T (fun ym yb => ⟨?_, i_mk T⟩)
  rw [← ot_cnup (M := 1024) (N := 4 ^ n) (fun s hs => ot_Rlt T hs.1) p4]
  congr 1
  exact cn_eq fun s _ => ⟨fun ⟨a, b⟩ => ⟨a, (ot_Bkw T.2.1.2 hI hS s).mpr b⟩, fun ⟨a, b⟩ => ⟨a, (ot_Bkw T.2.1.2 hI hS s).mp b⟩⟩
