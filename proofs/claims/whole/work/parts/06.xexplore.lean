/-! the component's search -/
def ot_bop (p : Int32) (bo : Nat → Prop) : Prop := ∀ o, o < 10 → (nI o = p ↔ bo o)
def ot_EI (n m : Nat) (ne ef : Nat → Nat) (bo br R : Nat → Prop) (s0 h o k : Nat) (od sn mv : Nat → Int32) (f : Nat → Nat) : Prop :=
  ot_BF R k od sn f ∧ (¬ br s0 → sn s0 = 1) ∧ ∀ i q, i < k → q < m → (i < h ∨ (i = h ∧ q < o)) → ot_Cl n ne ef bo br sn (f i) q ∧ ot_Mv n ne ef bo mv (f i) q
theorem ot_EInext {n m : Nat} {ne ef : Nat → Nat} {bo br R : Nat → Prop} {s0 h o k : Nat} {od sn mv : Nat → Int32} {f : Nat → Nat} (H : ot_EI n m ne ef bo br R s0 h o k od sn mv f) (ho : m ≤ o) : ot_EI n m ne ef bo br R s0 (h + 1) 0 k od sn mv f :=
  ⟨H.1, H.2.1, fun i q hi hq z => H.2.2 i q hi hq (by omega)⟩
theorem ot_EIput {n m : Nat} {ne ef : Nat → Nat} {bo br R : Nat → Prop} {s0 h o k s : Nat} {od sn mv : Nat → Int32} {f : Nat → Nat} {x : Int32} (H : ot_EI n m ne ef bo br R s0 h o k od sn mv f) (hm : m ≤ 10) (ho : o < m) (hh : h < k) (e : f h = s) (hc : ot_Cl n ne ef bo br sn s o) (h1 : ¬ bo o → ot_ap n ne o s → x = nI (ot_nx ef o s n)) (h2 : ¬ (¬ bo o ∧ ot_ap n ne o s) → x = -1) : ot_EI n m ne ef bo br R s0 h (o + 1) k od sn (upd mv (10 * s + o) x) f := by
  refine ⟨H.1, H.2.1, fun i q hi hq z => ?_⟩
  rcases Classical.em (i = h ∧ q = o) with ⟨y1, y2⟩ | y
  · subst y1 y2
    rw [e]
    refine ⟨hc, fun a b => ?_, fun a => ?_⟩
    · rw [pk_us]; exact h1 a b
    · rw [pk_us]; exact h2 a
  · have a := H.2.2 i q hi hq (by omega)
    have ne1 : 10 * f i + q ≠ 10 * s + o := fun w => by
      have : f i = s := by omega
      have := H.1.2.2.2 i h hi hh (this.trans e.symm)
      omega
    refine ⟨a.1, fun b c => ?_, fun b => ?_⟩
    · rw [pk_un ne1]; exact a.2.1 b c
    · rw [pk_un ne1]; exact a.2.2 b
theorem ot_EImeet {n m : Nat} {ne ef : Nat → Nat} {bo br R : Nat → Prop} {s0 h o k t : Nat} {od sn mv : Nat → Int32} {f : Nat → Nat} (H : ot_EI n m ne ef bo br R s0 h o k od sn mv f) (ht : t < 1024) (hk : h < k) (h0 : sn t = 0) (hR : R t) : ot_EI n m ne ef bo br R s0 h o (k + 1) (upd od k (nI t)) (upd sn t 1) mv (ot_up f k t) := by
  have mono : ∀ x, sn x = 1 → upd sn t 1 x = 1 := fun x hx => by
    rcases Classical.em (x = t) with e | e
    · rw [e, pk_us]
    · rw [pk_un e]; exact hx
  refine ⟨ot_BFs H.1 ht h0 hR, fun z => mono _ (H.2.1 z), fun i q hi hq z => ?_⟩
  have a := H.2.2 i q (by omega) hq z
  rw [ot_un (by omega)]
  exact ⟨fun b c e => mono _ (a.1 b c e), a.2⟩
section
variable {n d m : Nat} {co ne ef be go : Nat → Nat} {aC aN aE aB aG rm bd ls ah : Nat → Int32} {lc : Int32} {bo br : Nat → Prop} {x1 x2 : Int32}
theorem ox_ex70 (T : ot_T n d m co ne ef be go aC aN aE aB aG) (hb : ot_bf x1 br) (hp : ot_bop x2 bo) {post : SX → Prop} {J : Int32 → Int32 → Int32 → Int32 → Int32 → Int32 → (Nat → Int32) → (Nat → Int32) → (Nat → Int32) → (Nat → Int32) → (Nat → Int32) → (Nat → Int32) → (Nat → Int32) → (Nat → Int32) → (Nat → Int32) → (Nat → Int32) → (Nat → Int32) → (Nat → Int32) → Prop} {s h : Nat} (hh : h < 1024)
    (hJ : ∀ k od sn mv f, ot_EI n m ne ef bo br (ot_R (ot_bs be n) br (ot_E n m ne ef bo)) (ot_bs be n) (h + 1) 0 k od sn mv f → h < k → J (nI (h + 1)) (nI n) (nI d) (nI m) (nI k) lc aC aN aE aB aG od sn mv rm bd ls ah) :
    ∀ fu o k od sn mv f, o ≤ m → m - o < fu → ot_EI n m ne ef bo br (ot_R (ot_bs be n) br (ot_E n m ne ef bo)) (ot_bs be n) h o k od sn mv f → h < k → f h = s → wX_explore_70 post J x1 x2 (nI h) (nI s) fu (nI o) (nI n) (nI d) (nI m) (nI k) lc aC aN aE aB aG od sn mv rm bd ls ah := by
  have s0ok := ot_s0 T
  have T0 := T
  obtain ⟨⟨⟨hn1, hn⟩, ⟨hd1, hd⟩, hm⟩, ⟨hC, hco⟩, ⟨hN, hne⟩, ⟨hE, hef⟩, ⟨hB, hbe⟩, ⟨hG, hgo⟩⟩ := T
  intro fu
  induction fu with
  | zero => intro o k od sn mv f _ h; omega
  | succ fu ih =>
  intro o k od sn mv f hom hfu H hk hs
  rcases Nat.lt_or_ge o m with z | z
  · have hR : ot_R (ot_bs be n) br (ot_E n m ne ef bo) s := by have := (H.1.1 h hk).2.2.2; rw [hs] at this; exact this
    have sok := ot_Rok hn hd hef s0ok hR
    have slt := ot_ok_lt hn sok
    have e10 : nI s * 10 + nI o = nI (10 * s + o) := by rw [show nI s * 10 = nI (s * 10) from pk_mul s 10, nI_add, Nat.mul_comm]
    have st : ∀ k' od' sn' f' x7, ot_EI n m ne ef bo br (ot_R (ot_bs be n) br (ot_E n m ne ef bo)) (ot_bs be n) h o k' od' sn' mv f' → h < k' → f' h = s → ot_Cl n ne ef bo br sn' s o → (¬ bo o → ot_ap n ne o s → x7 = nI (ot_nx ef o s n)) → (¬ (¬ bo o ∧ ot_ap n ne o s) → x7 = -1) →
        wX_explore_122 post J (wX_explore_70 post J x1 x2 (nI h) (nI s) fu) x1 x2 (nI h) (nI s) (nI o) x7 (nI n) (nI d) (nI m) (nI k') lc aC aN aE aB aG od' sn' mv rm bd ls ah := fun k' od' sn' f' x7 H' hk' hs' hc q1 q2 =>
      ⟨by rw [e10]; exact vp_in_nI (by omega) (by omega), nm_r (e' := upd mv (10 * s + o) x7) (by rw [e10, nI_clamp (by omega)]) (nm_r (nI_1 o) (ih (o + 1) k' od' sn' _ f' (by omega) (by omega) (ot_EIput H' hm z hk' hs' hc q1 q2) hk' hs'))⟩
    refine br_f (nI_ge z (by omega)) ?_
    rcases Classical.em (bo o) with y | y
    · exact br_t ((hp o (by omega)).mpr y) (st k od sn f (-1) H hk hs (fun w => absurd y w) (fun w => absurd y w) (fun _ => rfl))
    · refine br_f (fun w => y ((hp o (by omega)).mp w)) (ox_hasN (o := o) T0 slt (by omega) (by rw [show nI o * 5 = nI (o * 5) from pk_mul o 5, Nat.mul_comm]) (fun ha => ?_) (fun ha => ?_))
      · refine br_f (by decide) (ox_after T0 sok (by omega) ?_)
        have tok := ot_nx_ok (o := o) hn hd hef sok n (Nat.le_refl _)
        have tlt := ot_ok_lt hn tok
        refine ox_meet tlt hb ((H.1.2.1 _ tlt).imp id (fun w => w.1)) (fun w => ot_BFlt H.1 tlt w) (fun w => ?_) (fun w1 w2 => ?_)
        · exact st k od sn f _ H hk hs (fun _ _ c => w.elim id (fun b => absurd b c)) (fun _ _ => rfl) (fun b => absurd ⟨y, ha⟩ b)
        · exact st (k + 1) _ _ (ot_up f k (ot_nx ef o s n)) _ (ot_EImeet H tlt hk w1 (ot_Rs hR ⟨o, z, y, ha, rfl⟩ w2)) (by omega) (by rw [ot_un (by omega)]; exact hs) (fun _ _ _ => pk_us) (fun _ _ => rfl) (fun b => absurd ⟨y, ha⟩ b)
      · exact br_t rfl (st k od sn f (-1) H hk hs (fun _ w => absurd w ha) (fun _ w => absurd w ha) (fun _ => rfl))
  · exact br_t (nI_le z (by omega)) (nm_r (nI_1 h) (hJ k od sn mv f (ot_EInext H z) hk))
theorem ox_ex41 (T : ot_T n d m co ne ef be go aC aN aE aB aG) (hb : ot_bf x1 br) (hp : ot_bop x2 bo) {post : SX → Prop}
    (hP : ∀ k od sn mv f, ot_XF n m ne ef bo (ot_R (ot_bs be n) br (ot_E n m ne ef bo)) k od mv f → post (nI n, nI d, nI m, nI k, lc, aC, aN, aE, aB, aG, od, sn, mv, rm, bd, ls, ah)) :
    ∀ fu h k od sn mv f, 1024 - h < fu → h ≤ k → ot_EI n m ne ef bo br (ot_R (ot_bs be n) br (ot_E n m ne ef bo)) (ot_bs be n) h 0 k od sn mv f → wX_explore_41 post x1 x2 fu (nI h) (nI n) (nI d) (nI m) (nI k) lc aC aN aE aB aG od sn mv rm bd ls ah := by
  have s0ok := ot_s0 T
  have T0 := T
  obtain ⟨⟨⟨hn1, hn⟩, ⟨hd1, hd⟩, hm⟩, ⟨hC, hco⟩, ⟨hN, hne⟩, ⟨hE, hef⟩, ⟨hB, hbe⟩, ⟨hG, hgo⟩⟩ := T
  intro fu
  induction fu with
  | zero => intro h k od sn mv f h; omega
  | succ fu ih =>
  intro h k od sn mv f hfu hhk H
  have hk := ot_BFle H.1
  rcases Nat.lt_or_ge h k with z | z
  · have e := H.1.1 h z
    have := ox_ex70 (rm := rm) (bd := bd) (ls := ls) (ah := ah) (lc := lc) (post := post) (J := wX_explore_41 post x1 x2 fu) T0 hb hp (s := f h) (h := h) (by omega) (fun k' od' sn' mv' f' H' hk' => ih (h + 1) k' od' sn' mv' f' (by omega) (by omega) H') (m + 1) 0 k od sn mv f (Nat.zero_le _) (by omega) H z rfl
    exact br_f (nI_ge z (by omega)) (br_f (nI_ge (b := 1024) (by omega) (by decide)) ⟨vp_in_nI (by omega) (by omega), nm_r (e' := nI (f h)) (by rw [nI_clamp (by omega), e.1]) ⟨_, this⟩⟩)
  · refine br_t (nI_le z (by omega)) (hP k od sn mv f (ot_XFof hn hd hef s0ok H.1 (fun i hi q hq => H.2.2 i q hi hq (Or.inl (by omega))) H.2.1))
theorem ox_explore (T : ot_T n d m co ne ef be go aC aN aE aB aG) {od sn mv : Nat → Int32} {mt : Int32} (hb : ot_bf x1 br) (hp : ot_bop x2 bo) {post : SX → Prop}
    (hP : ∀ k od sn mv f, ot_XF n m ne ef bo (ot_R (ot_bs be n) br (ot_E n m ne ef bo)) k od mv f → post (nI n, nI d, nI m, nI k, lc, aC, aN, aE, aB, aG, od, sn, mv, rm, bd, ls, ah)) : wpX_explore post (nI n, nI d, nI m, mt, lc, aC, aN, aE, aB, aG, od, sn, mv, rm, bd, ls, ah) x1 x2 := by
  have s0ok := ot_s0 T
  have T0 := T
  obtain ⟨⟨⟨hn1, hn⟩, ⟨hd1, hd⟩, hm⟩, ⟨hC, hco⟩, ⟨hN, hne⟩, ⟨hE, hef⟩, ⟨hB, hbe⟩, ⟨hG, hgo⟩⟩ := T
  have slt := ot_ok_lt hn s0ok
  refine loop_0 (fun k i (sn : Nat → Int32) => wX_explore_2 post x1 x2 (nI n) (nI d) (nI m) mt lc k (nI i) aC aN aE aB aG od sn mv rm bd ls ah) (fun i sn => ∀ j, j < i → sn j = 0) 1024 sn (fun j hj => by omega) ?_ ?_
  · intro k sn hI
    refine br_t (nI_le (a := 1024) (b := 1024) (by omega) (by omega)) (ox_begin T0 ?_)
    have hB0 : ot_BF (ot_R (ot_bs be n) br (ot_E n m ne ef bo)) 0 od sn (fun _ => 0) := ⟨fun i hi => by omega, fun s hs => Or.inl (hI s hs), Eq.trans (cn_eq fun s hs => ⟨fun w => ot_01 ((hI s hs).symm.trans w), fun w => w.elim⟩) (ot_cnF 1024), fun i j hi => by omega⟩
    refine ox_meet (k := 0) slt hb (Or.inl (hI _ slt)) (fun _ => by omega) (fun w => ?_) (fun w1 w2 => ?_)
    · exact ⟨1025, ox_ex41 T0 hb hp hP 1025 0 0 od sn mv (fun _ => 0) (by omega) (by omega) ⟨hB0, fun y => w.elim id (fun b => absurd b y), fun i q hi => by omega⟩⟩
    · exact ⟨1025, ox_ex41 T0 hb hp hP 1025 0 1 _ _ mv (ot_up (fun _ => 0) 0 (ot_bs be n)) (by omega) (by omega) ⟨ot_BFs hB0 slt w1 (ot_R0 w2), fun _ => pk_us, fun i q hi hq y => by omega⟩⟩
  · intro k i sn hi hI ih
    refine br_f (nI_ge (b := 1024) hi (by decide)) ⟨vp_in_nI hi (by omega), nm_r (e' := upd sn i 0) (by rw [nI_clamp (by omega)]; rfl) (nm_r (nI_1 i) (ih _ ?_))⟩
    exact lt_s (fun j hj => by rw [pk_un (by omega)]; exact hI j hj) pk_us
end
