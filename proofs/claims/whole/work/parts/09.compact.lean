section
variable {n c N : Nat} {od tm : Int32} {pr va cr mo ve kl op ov er ek ep ev ck cy cm cn ak ap av ac gr tt ex ba el se co : Nat → Int32}
/-- what the component keeps of the oldest revision, over the first i events -/
def lc_O (i : Nat) (p : Int32) (op ov er ek ep ev ba el : Nat → Int32) : Prop := ∀ j, j < 16 → ov j = (lc_lk er ek ep ev el (nI j) p (lc_bs ba j) i).1 ∧ op j = (if (lc_lk er ek ep ev el (nI j) p (lc_bs ba j) i).2.1 = 0 then 0 else 1)
theorem lc_O_s {K i q : Nat} {p : Int32} {op' ov' : Nat → Int32} (R : lc_R n N K pr va cr mo ve kl op' ov' er ek ep ev ba el) (hK : K < 2 ^ 30) (hi : i < n) (hq : ek i = nI q) (hq16 : q < 16) (hr : er i ≤ p) (h : lc_O i p op ov er ek ep ev ba el) : lc_O (i + 1) p (upd op q (ep i)) (upd ov q (ev i)) er ek ep ev ba el := by
  intro j hj
  by_cases e : j = q
  · subst e
    rw [lc_lk_t hq hr, pk_us, pk_us]
    rcases R.2.2.2.1 i hi with ⟨z, z'⟩ | z
    · rw [lc_ap0 z, z, z']; exact ⟨rfl, rfl⟩
    · rw [lc_ap1 (by rw [z]; exact lc_10), z]
      obtain ⟨⟨w, ew, hw⟩, _⟩ := R.2.2.2.2.1 j hj
      obtain ⟨w', hw', ew'⟩ := lc_lk_v (er := er) (ek := ek) (ep := ep) (ev := ev) (el := el) (key := nI j) (p := p) (s := lc_bs ba j) (w := w) ew i
      refine ⟨rfl, ?_⟩
      show _ = if (lc_lk er ek ep ev el (nI j) p (lc_bs ba j) i).2.1 + 1 = 0 then 0 else 1
      rw [ew', nI_1, if_neg (nI_ne0 (by omega) (by omega))]
  · rw [lc_lk_f (fun z => e ((nI_eq (by omega) (by omega)).mp (hq.symm.trans z.1)).symm), pk_un e, pk_un e]
    exact h j hj
theorem lc_xComp {K d : Nat} {p : Int32} {op' ov' : Nat → Int32} (R : lc_R n N K pr va cr mo ve kl op' ov' er ek ep ev ba el) (hK : K < 2 ^ 30) (hn : n ≤ 76) (hd : d ≤ n) (hd1 : ∀ i, i < d → er i ≤ p) (hd2 : ∀ i, d ≤ i → i < n → ¬ er i ≤ p) : ∀ (e i : Nat) (op ov : Nat → Int32), i + e = n → lc_O i p op ov er ek ep ev ba el → ∃ op'' ov'' : Nat → Int32, lc_O n p op'' ov'' er ek ep ev ba el ∧ ∀ post : Int32 → SX → Prop, wX_compact_15 post p (nI n) (nI c) (nI N) od tm 1 (nI d) (nI n) pr va cr mo ve kl op'' ov'' er ek ep ev ck cy cm cn ak ap av ac gr tt ex → wX_compact_15 post p (nI n) (nI c) (nI N) od tm (e + 1) (nI (min i d)) (nI i) pr va cr mo ve kl op ov er ek ep ev ck cy cm cn ak ap av ac gr tt ex := by
  intro e
  induction e with
  | zero =>
    intro i op ov he h
    have ei : i = n := by omega
    subst ei
    rw [show min i d = d by omega]
    exact ⟨op, ov, h, fun post hp => hp⟩
  | succ e ih =>
    intro i op ov he h
    have hi : i < n := by omega
    have hg : ¬ nI n ≤ nI i := nI_ge (by omega) (by omega)
    have hv : vp_in (nI i) 76 := vp_in_nI (by omega) (by decide)
    have hc : (nI i).toNatClampNeg = i := nI_clamp (by omega)
    by_cases q : i < d
    · obtain ⟨r, hr16, er'⟩ := R.2.2.1 i hi
      have hek : ek (nI i).toNatClampNeg = nI r := by rw [hc]; exact er'
      have hvk : vp_in (ek (nI i).toNatClampNeg) 16 := by rw [hek]; exact vp_in_nI hr16 (by decide)
      have hpb : vp_nar .boolean (ep (nI i).toNatClampNeg) = ep i := by
        rw [hc]
        exact lc_nb (by rcases R.2.2.2.1 i hi with ⟨z, _⟩ | z; exact Or.inl z; exact Or.inr z)
      obtain ⟨o2, v2, h2, hX⟩ := ih (i + 1) (upd op r (ep i)) (upd ov r (ev i)) (by omega) (lc_O_s R hK hi er' hr16 (hd1 i q) h)
      rw [show min (i + 1) d = i + 1 by omega] at hX
      rw [show min i d = i by omega]
      exact ⟨o2, v2, h2, fun post hp => br_f hg ⟨hv, br_f (by rw [hc]; exact Int32.not_lt.mpr (hd1 i q)) ⟨hv, hv, hvk, nm_r (show upd op (ek (nI i).toNatClampNeg).toNatClampNeg (vp_nar .boolean (ep (nI i).toNatClampNeg)) = upd op r (ep i) by rw [hpb, hek, nI_clamp (by omega)]) ⟨hv, hv, hvk, nm_r (show upd ov (ek (nI i).toNatClampNeg).toNatClampNeg (ev (nI i).toNatClampNeg) = upd ov r (ev i) by rw [hek, hc, nI_clamp (by omega)]) (nm_r (nI_1 i) (nm_r (nI_1 i) (hX post hp)))⟩⟩⟩⟩
    · have hne := hd2 i (by omega) hi
      obtain ⟨o2, v2, h2, hX⟩ := ih (i + 1) op ov (by omega) (fun j hj => by rw [lc_lk_f (fun z => hne z.2)]; exact h j hj)
      rw [show min (i + 1) d = min i d by omega] at hX
      exact ⟨o2, v2, h2, fun post hp => br_f hg ⟨hv, br_t (by rw [hc]; exact Int32.not_le.mp hne) (nm_r (nI_1 i) (hX post hp))⟩⟩
/-- the events that stay move down, both sides in step -/
theorem lc_shift {d : Nat} {p : Int32} {er0 ek0 ep0 ev0 el0 : Nat → Int32} (hn : n ≤ 76) (hd : d ≤ n) (hd2 : ∀ i, d ≤ i → i < n → ¬ er0 i ≤ p) (hb : ∀ i, i < n → ep0 i = 0 ∨ ep0 i = 1) : ∀ (e i : Nat) (er ek ep ev el : Nat → Int32), i + e = n → d ≤ i →
    (∀ m, m + d < i → er m = er0 (m + d) ∧ ek m = ek0 (m + d) ∧ ep m = ep0 (m + d) ∧ ev m = ev0 (m + d) ∧ el m = el0 (m + d)) →
    (∀ m, i ≤ m + d → er m = er0 m ∧ ek m = ek0 m ∧ ep m = ep0 m ∧ ev m = ev0 m ∧ el m = el0 m) →
    ∃ er' ek' ep' ev' el' : Nat → Int32, (∀ m, m + d < n → er' m = er0 (m + d) ∧ ek' m = ek0 (m + d) ∧ ep' m = ep0 (m + d) ∧ ev' m = ev0 (m + d) ∧ el' m = el0 (m + d)) ∧
      (∀ post : SX → Prop, post ((nI (n - d)), (nI c), (nI N), od, tm, pr, va, cr, mo, ve, kl, op, ov, er', ek', ep', ev', ck, cy, cm, cn, ak, ap, av, ac, gr, tt, ex) → wX_dropEvents_2 post (nI d) (nI n) (nI c) (nI N) od tm (e + 1) (nI i) pr va cr mo ve kl op ov er ek ep ev ck cy cm cn ak ap av ac gr tt ex) ∧
      (∀ post : Int32 → SY → Prop, post (nI (n - d)) (p, (nI N), (nI (n - d)), (nI c), tm, ba, er', ek', ep', ev', el', se, co, ak, ap, av, ac, gr, tt, ex) → wY_compact_72 post p od (nI N) (nI n) (nI c) tm (e + 1) (nI (i - d)) (nI i) ba er ek ep ev el se co ak ap av ac gr tt ex) := by
  intro e
  induction e with
  | zero =>
    intro i er ek ep ev el he hdi h1 h2
    have ei : i = n := by omega
    subst ei
    exact ⟨er, ek, ep, ev, el, h1, fun post hp => br_t (Int32.le_refl _) (nm_r (pk_sub hd) hp), fun post hp => br_t (Int32.le_refl _) hp⟩
  | succ e ih =>
    intro i er ek ep ev el he hdi h1 h2
    have hg : ¬ nI n ≤ nI i := nI_ge (by omega) (by omega)
    have hv : vp_in (nI i) 76 := vp_in_nI (by omega) (by decide)
    have hw : vp_in (nI i) 96 := vp_in_nI (by omega) (by decide)
    have hc : (nI i).toNatClampNeg = i := nI_clamp (by omega)
    have es : nI i - nI d = nI (i - d) := pk_sub hdi
    have hb' : i - d < 2 ^ 31 := by omega
    have hvs : vp_in (nI i - nI d) 76 := by rw [es]; exact vp_in_nI (by omega) (by decide)
    have hws : vp_in (nI (i - d)) 96 := vp_in_nI (by omega) (by decide)
    obtain ⟨q1, q2, q3, q4, q5⟩ := h2 i (by omega)
    have hpb : vp_nar .boolean (ep (nI i).toNatClampNeg) = ep i := by
      rw [hc, q3]; exact lc_nb (hb i (by omega))
    have ux : ∀ (a : Nat → Int32), upd a (nI i - nI d).toNatClampNeg (a (nI i).toNatClampNeg) = upd a (i - d) (a i) := fun a => by rw [es, nI_clamp hb', hc]
    have uy : ∀ (a : Nat → Int32), upd a (nI (i - d)).toNatClampNeg (a (nI i).toNatClampNeg) = upd a (i - d) (a i) := fun a => by rw [nI_clamp hb', hc]
    obtain ⟨er', ek', ep', ev', el', hf, hX, hY⟩ := ih (i + 1) (upd er (i - d) (er i)) (upd ek (i - d) (ek i)) (upd ep (i - d) (ep i)) (upd ev (i - d) (ev i)) (upd el (i - d) (el i)) (by omega) (by omega) (fun m hm => by
        by_cases z : m = i - d
        · subst z
          rw [pk_us, pk_us, pk_us, pk_us, pk_us, show i - d + d = i by omega]
          exact ⟨q1, q2, q3, q4, q5⟩
        · rw [pk_un z, pk_un z, pk_un z, pk_un z, pk_un z]
          exact h1 m (by omega)) (fun m hm => by
        rw [pk_un (by omega), pk_un (by omega), pk_un (by omega), pk_un (by omega), pk_un (by omega)]
        exact h2 m (by omega))
    rw [show i + 1 - d = i - d + 1 by omega] at hY
    refine ⟨er', ek', ep', ev', el', hf, fun post hp => br_f hg ⟨hv, hvs, nm_r (ux er) ⟨hv, hvs, nm_r (ux ek) ⟨hv, hvs, nm_r (show upd ep (nI i - nI d).toNatClampNeg (vp_nar .boolean (ep (nI i).toNatClampNeg)) = upd ep (i - d) (ep i) by rw [hpb, es, nI_clamp hb']) ⟨hv, hvs, nm_r (ux ev) (nm_r (nI_1 i) (hX post hp))⟩⟩⟩⟩, fun post hp => br_f hg ⟨hw, br_f (by rw [hc, q1]; exact hd2 i hdi (by omega)) ⟨hw, hws, nm_r (uy er) ⟨hw, hws, nm_r (uy ek) ⟨hw, hws, nm_r (show upd ep (nI (i - d)).toNatClampNeg (vp_nar .boolean (ep (nI i).toNatClampNeg)) = upd ep (i - d) (ep i) by rw [hpb, nI_clamp hb']) ⟨hw, hws, nm_r (uy ev) ⟨hw, hws, nm_r (uy el) (nm_r (nI_1 (i - d)) (nm_r (nI_1 i) (hY post hp)))⟩⟩⟩⟩⟩⟩⟩
theorem lc_ySkip {d f : Nat} {p : Int32} (hn : n ≤ 76) (hd : d ≤ n) (hd1 : ∀ i, i < d → er i ≤ p) : ∀ (e i : Nat), i + e = d → ∀ post : Int32 → SY → Prop, wY_compact_72 post p od (nI N) (nI n) (nI c) tm f (nI 0) (nI d) ba er ek ep ev el se co ak ap av ac gr tt ex → wY_compact_72 post p od (nI N) (nI n) (nI c) tm (f + e) (nI 0) (nI i) ba er ek ep ev el se co ak ap av ac gr tt ex := by
  intro e
  induction e with
  | zero =>
    intro i he post hp
    have ei : i = d := by omega
    subst ei
    exact hp
  | succ e ih =>
    intro i he post hp
    have hg : ¬ nI n ≤ nI i := nI_ge (by omega) (by omega)
    have hw : vp_in (nI i) 96 := vp_in_nI (by omega) (by decide)
    have hc : (nI i).toNatClampNeg = i := nI_clamp (by omega)
    exact br_f hg ⟨hw, br_t (by rw [hc]; exact hd1 i (by omega)) (nm_r (nI_1 i) (ih (i + 1) (by omega) post hp))⟩
theorem lc_u5 {a : Nat → Int32} {j f : Nat} {x : Int32} (hj : j < 16) (hf : f < 5) : upd a (nI j * 5 + nI f).toNatClampNeg x = upd a (j * 5 + f) x := by rw [lc_ix5, nI_clamp (by omega)]
theorem lc_yBase {p : Int32} {ba0 : Nat → Int32} (hn : n ≤ 96) : ∀ (e j : Nat) (ba se : Nat → Int32), j + e = 16 → (∀ i, i < j → lc_bs ba i = lc_lk er ek ep ev el (nI i) p (lc_bs ba0 i) n) → (∀ i, j ≤ i → lc_bs ba i = lc_bs ba0 i) →
    ∃ ba' se' : Nat → Int32, (∀ i, i < 16 → lc_bs ba' i = lc_lk er ek ep ev el (nI i) p (lc_bs ba0 i) n) ∧ ∀ post : Int32 → SY → Prop, wY_compact_21 post p 1 (nI 16) od (nI N) (nI n) (nI c) tm ba' er ek ep ev el se' co ak ap av ac gr tt ex → wY_compact_21 post p (e + 1) (nI j) od (nI N) (nI n) (nI c) tm ba er ek ep ev el se co ak ap av ac gr tt ex := by
  intro e
  induction e with
  | zero =>
    intro j ba se he h1 h2
    have ej : j = 16 := by omega
    subst ej
    exact ⟨ba, se, h1, fun post hp => hp⟩
  | succ e ih =>
    intro j ba se he h1 h2
    have hj : j < 16 := by omega
    have hg : ¬ (16 : Int32) ≤ nI j := nI_ge (b := 16) hj (by decide)
    obtain ⟨s1, e1, hl⟩ := lc_yLook (n := n) (c := c) (N := N) (od := od) (tm := tm) (ba := ba) (er := er) (ek := ek) (ep := ep) (ev := ev) (el := el) (se := se) (co := co) (ak := ak) (ap := ap) (av := av) (ac := ac) (gr := gr) (tt := tt) (ex := ex) (p := p) hj hn
    rw [h2 j (Nat.le_refl _)] at e1
    obtain ⟨b2, s2, hb, hY⟩ := ih (j + 1) (upd (upd (upd (upd (upd ba (j * 5 + 0) (s1 0)) (j * 5 + 1) (s1 1)) (j * 5 + 2) (s1 2)) (j * 5 + 3) (s1 3)) (j * 5 + 4) (s1 4)) s1 (by omega) (fun i hi => by
        by_cases z : i = j
        · subst z
          rw [← e1]
          show (_, _, _, _, _) = (_, _, _, _, _)
          rw [pk_un (by omega), pk_un (by omega), pk_un (by omega), pk_un (by omega), show i * 5 = i * 5 + 0 from rfl, pk_us]
          rw [pk_un (by omega), pk_un (by omega), pk_un (by omega), pk_us]
          rw [pk_un (by omega), pk_un (by omega), pk_us]
          rw [pk_un (by omega), pk_us, pk_us]
        · rw [← h1 i (by omega)]
          show (_, _, _, _, _) = (_, _, _, _, _)
          simp only [lc_ut]
          rw [if_neg (by omega), if_neg (by omega), if_neg (by omega), if_neg (by omega), if_neg (by omega)]
          rw [if_neg (by omega), if_neg (by omega), if_neg (by omega), if_neg (by omega), if_neg (by omega)]
          rw [if_neg (by omega), if_neg (by omega), if_neg (by omega), if_neg (by omega), if_neg (by omega)]
          rw [if_neg (by omega), if_neg (by omega), if_neg (by omega), if_neg (by omega), if_neg (by omega)]
          rw [if_neg (by omega), if_neg (by omega), if_neg (by omega), if_neg (by omega), if_neg (by omega)]) (fun i hi => by
        rw [← h2 i (by omega)]
        show (_, _, _, _, _) = (_, _, _, _, _)
        simp only [lc_ut]
        rw [if_neg (by omega), if_neg (by omega), if_neg (by omega), if_neg (by omega), if_neg (by omega)]
        rw [if_neg (by omega), if_neg (by omega), if_neg (by omega), if_neg (by omega), if_neg (by omega)]
        rw [if_neg (by omega), if_neg (by omega), if_neg (by omega), if_neg (by omega), if_neg (by omega)]
        rw [if_neg (by omega), if_neg (by omega), if_neg (by omega), if_neg (by omega), if_neg (by omega)]
        rw [if_neg (by omega), if_neg (by omega), if_neg (by omega), if_neg (by omega), if_neg (by omega)])
    refine ⟨b2, s2, hb, fun post hp => br_f hg (hl _ ⟨6, ?_⟩)⟩
    exact br_f (by decide) ⟨vp_in_nI (n := 0) (by decide) (by decide), lc_b5 (f := 0) hj (by decide), nm_r (lc_u5 (f := 0) hj (by decide)) (nm_r (e' := 1) rfl
      (br_f (by decide) ⟨vp_in_nI (n := 1) (by decide) (by decide), lc_b5 (f := 1) hj (by decide), nm_r (lc_u5 (f := 1) hj (by decide)) (nm_r (e' := 2) rfl
      (br_f (by decide) ⟨vp_in_nI (n := 2) (by decide) (by decide), lc_b5 (f := 2) hj (by decide), nm_r (lc_u5 (f := 2) hj (by decide)) (nm_r (e' := 3) rfl
      (br_f (by decide) ⟨vp_in_nI (n := 3) (by decide) (by decide), lc_b5 (f := 3) hj (by decide), nm_r (lc_u5 (f := 3) hj (by decide)) (nm_r (e' := 4) rfl
      (br_f (by decide) ⟨vp_in_nI (n := 4) (by decide) (by decide), lc_b5 (f := 4) hj (by decide), nm_r (lc_u5 (f := 4) hj (by decide)) (nm_r (e' := 5) rfl
      (br_t (by decide) (nm_r (nI_1 j) (hY post hp))))⟩))⟩))⟩))⟩))⟩
/-- the relation behind a compaction -/
theorem lc_R_c {K d : Nat} {p : Int32} {op' ov' er' ek' ep' ev' el' ba' : Nat → Int32} (hd : d ≤ n) (hd1 : ∀ i, i < d → er i ≤ p) (hd2 : ∀ i, d ≤ i → i < n → ¬ er i ≤ p) (R : lc_R n N K pr va cr mo ve kl op ov er ek ep ev ba el)
    (hO : lc_O n p op' ov' er ek ep ev ba el) (hf : ∀ m, m + d < n → er' m = er (m + d) ∧ ek' m = ek (m + d) ∧ ep' m = ep (m + d) ∧ ev' m = ev (m + d) ∧ el' m = el (m + d)) (hb : ∀ i, i < 16 → lc_bs ba' i = lc_lk er ek ep ev el (nI i) p (lc_bs ba i) n) :
    lc_R (n - d) N K pr va cr mo ve kl op' ov' er' ek' ep' ev' ba' el' := by
  obtain ⟨a1, a2, a3, a4, a5, a6, a7⟩ := R
  have hcut : ∀ j, lc_lk er ek ep ev el (nI j) p (lc_bs ba j) n = lc_lk er ek ep ev el (nI j) p (lc_bs ba j) d := by
    intro j
    have h := lc_lk_n (er := er) (ek := ek) (ep := ep) (ev := ev) (el := el) (key := nI j) (p := p) (s := lc_bs ba j) (d := d) (n - d) (fun i h1 h2 => hd2 i h1 (by omega))
    rw [show d + (n - d) = n by omega] at h
    exact h
  refine ⟨fun i hi => ?_, fun i j hij hj => ?_, fun i hi => ?_, fun i hi => ?_, fun j hj => ?_, fun j hj => ?_, a7⟩
  · rw [(hf i (by omega)).1]; exact a1 _ (by omega)
  · rw [(hf i (by omega)).1, (hf j (by omega)).1]; exact a2 _ _ (by omega) (by omega)
  · rw [(hf i (by omega)).2.1]; exact a3 _ (by omega)
  · rw [(hf i (by omega)).2.2.1, (hf i (by omega)).2.2.2.1]; exact a4 _ (by omega)
  · have e := hb j hj
    have e0 : ba' (j * 5) = (lc_lk er ek ep ev el (nI j) p (lc_bs ba j) n).1 := congrArg (fun t => t.1) e
    have e1 : ba' (j * 5 + 1) = (lc_lk er ek ep ev el (nI j) p (lc_bs ba j) n).2.1 := congrArg (fun t => t.2.1) e
    obtain ⟨⟨w, ew, hw⟩, _⟩ := a5 j hj
    obtain ⟨w', hw', ew'⟩ := lc_lk_v (er := er) (ek := ek) (ep := ep) (ev := ev) (el := el) (key := nI j) (p := p) (s := lc_bs ba j) (w := w) ew d
    refine ⟨⟨w', by rw [e1, hcut j]; exact ew', by omega⟩, ?_, ?_⟩
    · rw [e0]; exact (hO j hj).1
    · rw [e1]; exact (hO j hj).2
  · have e2 : lc_bs ba' j = lc_lk er ek ep ev el (nI j) (nI N) (lc_bs ba j) d := by
      rw [hb j hj, hcut j]
      exact lc_lk_r d fun i hi _ => ⟨fun _ => a1 i (by omega), fun _ => hd1 i hi⟩
    rw [e2, lc_lk_s (n - d) (fun i hi => hf i (by omega)), show n - d + d = n by omega]
    exact a6 j hj
end
theorem i_vc_compact {k : Nat} {u : SX} {v : SY} (I : i_Rel k u v) (hk : k + 5 ≤ 2560) (v1 : Int32) : wpX_compact (fun r u' => wpY_compact (fun r' v' => r' = r ∧ i_Rel (k + 5) u' v') v v1) u v1 := by
  obtain ⟨n, c, N, od, tm, pr, va, cr, mo, ve, kl, op, ov, er, ek, ep, ev, ck, cy, cm, cn, ak, ap, av, ac, gr, tt, ex, ba, el, se, co, rfl, rfl, h1, h2, h3, h4, h5⟩ := I
  unfold wpX_compact
  by_cases a : v1 < od
  · exact br_t a (br_t rfl (br_t a ⟨rfl, i_up (lc_mk h1 h2 h3 h4 h5)⟩))
  · by_cases b : v1 ≤ nI N
    · obtain ⟨d, hd, hd1, hd2⟩ := lc_cut (er := er) v1 n h3.2.1
      obtain ⟨op', ov', hO, hX⟩ := lc_xComp (n := n) (c := c) (N := N) (od := od) (tm := tm) (pr := pr) (va := va) (cr := cr) (mo := mo) (ve := ve) (kl := kl) (er := er) (ek := ek) (ep := ep) (ev := ev) (ck := ck) (cy := cy) (cm := cm) (cn := cn) (ak := ak) (ap := ap) (av := av) (ac := ac) (gr := gr) (tt := tt) (ex := ex) h3 (by omega) (by omega) hd hd1 hd2 n 0 op ov (by omega) (fun j hj => by
        obtain ⟨_, e1, e2⟩ := h3.2.2.2.2.1 j hj
        exact ⟨e1, e2⟩)
      rw [Nat.zero_min] at hX
      obtain ⟨ba', se', hb, hY⟩ := lc_yBase (n := n) (c := c) (N := N) (od := od) (tm := tm) (er := er) (ek := ek) (ep := ep) (ev := ev) (el := el) (co := co) (ak := ak) (ap := ap) (av := av) (ac := ac) (gr := gr) (tt := tt) (ex := ex) (p := v1) (ba0 := ba) (by omega) 16 0 ba se rfl (fun i hi => absurd hi (by omega)) (fun i _ => rfl)
      obtain ⟨er', ek', ep', ev', el', hf, hX2, hY2⟩ := lc_shift (n := n) (c := c) (N := N) (od := od) (tm := tm) (pr := pr) (va := va) (cr := cr) (mo := mo) (ve := ve) (kl := kl) (ck := ck) (cy := cy) (cm := cm) (cn := cn) (ak := ak) (ap := ap) (av := av) (ac := ac) (gr := gr) (tt := tt) (ex := ex) (op := op') (ov := ov') (ba := ba') (se := se') (co := co) (p := v1) (by omega) hd hd2 (fun i hi => by rcases h3.2.2.2.1 i hi with ⟨z, _⟩ | z; exact Or.inl z; exact Or.inr z) (n - d) d er ek ep ev el (by omega) (Nat.le_refl _) (fun m hm => absurd hm (by omega)) (fun m _ => ⟨rfl, rfl, rfl, rfl, rfl⟩)
      rw [Nat.sub_self] at hY2
      refine br_f a (br_f (Int32.not_lt.mpr b) (br_f lc_10 ⟨n + 1, hX _ (br_t (Int32.le_refl _) ⟨n - d + 1, hX2 _ (br_f a (br_t b ⟨17, hY _ (br_t (nI_le (a := 16) (b := 16) (by decide) (by decide)) ⟨n - d + 1 + d, lc_ySkip (by omega) hd hd1 d 0 (by omega) _ (hY2 _ ⟨rfl, ?_⟩)⟩)⟩))⟩)⟩))
      exact i_up (lc_mk h1 (by omega) (lc_R_c hd hd1 hd2 h3 hO hf hb) h4 h5)
    · exact br_f a (br_t (Int32.not_le.mp b) (br_t rfl (br_f a (br_f b ⟨rfl, i_up (lc_mk h1 h2 h3 h4 h5)⟩))))
