section
variable {n c N : Nat} {od tm : Int32} {pr va cr mo ve kl op ov er ek ep ev ck cy cm cn ak ap av ac gr tt ex ba el se co : Nat → Int32}
/-- a list's names, both sides in step -/
theorem lc_names {l m : Nat} {key : Int32} (hl : l < 2) (hm : m ≤ 4) (hac : ac l = nI m) : ∀ d i : Nat, i + d = m →
    ((∀ post : Int32 → Prop, post 1 → wX_listNames_17 post key (nI (l * 4 + m)) (nI n) (nI c) (nI N) od tm pr va cr mo ve kl op ov er ek ep ev ck cy cm cn ak ap av ac gr tt ex (d + 1) (nI (l * 4 + i))) ∧ (∀ (post : Int32 → SY → Prop) (x2 x3 : Int32), post (-2) (od, (nI N), (nI n), (nI c), tm, ba, er, ek, ep, ev, el, se, co, ak, ap, av, ac, gr, tt, ex) → wY_action_25 post key x2 x3 (nI l) od (nI N) (nI n) (nI c) tm ba er ek ep ev el se co ak ap av ac gr tt ex (d + 1) (nI i)))
    ∨ ((∀ i', i ≤ i' → i' < m → ¬ ak (l * 4 + i') = key) ∧ (∀ post : Int32 → Prop, post 0 → wX_listNames_17 post key (nI (l * 4 + m)) (nI n) (nI c) (nI N) od tm pr va cr mo ve kl op ov er ek ep ev ck cy cm cn ak ap av ac gr tt ex (d + 1) (nI (l * 4 + i))) ∧ (∀ (post : Int32 → SY → Prop) (x2 x3 : Int32), wY_action_25 post key x2 x3 (nI l) od (nI N) (nI n) (nI c) tm ba er ek ep ev el se co ak ap av ac gr tt ex 1 (nI m) → wY_action_25 post key x2 x3 (nI l) od (nI N) (nI n) (nI c) tm ba er ek ep ev el se co ak ap av ac gr tt ex (d + 1) (nI i))) := by
  have hv : vp_in (nI l) 2 := vp_in_nI hl (by decide)
  have hc : (nI l).toNatClampNeg = l := nI_clamp (by omega)
  intro d
  induction d with
  | zero =>
    intro i hd
    have e : i = m := by omega
    subst e
    exact Or.inr ⟨fun i' h1 h2 => absurd h1 (by omega), fun post hp => br_t (Int32.le_refl _) hp, fun post x2 x3 hp => hp⟩
  | succ d ih =>
    intro i hd
    have hg : ¬ nI (l * 4 + m) ≤ nI (l * 4 + i) := nI_ge (by omega) (by omega)
    have hi : vp_in (nI (l * 4 + i)) 8 := vp_in_nI (by omega) (by decide)
    have hci : (nI (l * 4 + i)).toNatClampNeg = l * 4 + i := nI_clamp (by omega)
    have hgy : ¬ ac (nI l).toNatClampNeg ≤ nI i := by rw [hc, hac]; exact nI_ge (by omega) (by omega)
    have hiy : vp_in (nI l * 4 + nI i) 8 := lc_in4 (by omega) (by decide)
    have hcy : (nI l * 4 + nI i).toNatClampNeg = l * 4 + i := by rw [lc_ix4, hci]
    by_cases z : ak (l * 4 + i) = key
    · exact Or.inl ⟨fun post hp => br_f hg ⟨hi, br_t (by rw [hci]; exact z) hp⟩, fun post x2 x3 hp => ⟨hv, br_f hgy ⟨hiy, br_t (by rw [hcy]; exact z) hp⟩⟩⟩
    · rcases ih (i + 1) (by omega) with ⟨hX, hY⟩ | ⟨hq, hX, hY⟩
      · exact Or.inl ⟨fun post hp => br_f hg ⟨hi, br_f (by rw [hci]; exact z) (nm_r (nI_1 _) (hX post hp))⟩, fun post x2 x3 hp => ⟨hv, br_f hgy ⟨hiy, br_f (by rw [hcy]; exact z) (nm_r (nI_1 i) (hY post x2 x3 hp))⟩⟩⟩
      · refine Or.inr ⟨fun i' h1 h2 => ?_, fun post hp => br_f hg ⟨hi, br_f (by rw [hci]; exact z) (nm_r (nI_1 _) (hX post hp))⟩, fun post x2 x3 hp => ⟨hv, br_f hgy ⟨hiy, br_f (by rw [hcy]; exact z) (nm_r (nI_1 i) (hY post x2 x3 hp))⟩⟩⟩
        by_cases e : i' = i
        · rw [e]; exact z
        · exact hq i' (by omega) h2
theorem lc_A_w {l m q : Nat} {p x : Int32} (hl : l < 2) (hm : m < 4) (hac : ac l = nI m) (hq : q < 16) (hp : (p = 0 ∧ x = 0) ∨ p = 1) (hn : ∀ i', 0 ≤ i' → i' < m → ¬ ak (l * 4 + i') = nI q) (h : lc_A ak ap av ac) : lc_A (upd ak (l * 4 + m) (nI q)) (upd ap (l * 4 + m) p) (upd av (l * 4 + m) x) (upd ac l (nI (m + 1))) := by
  intro l' hl'
  obtain ⟨m', hm', e', hL⟩ := h l' hl'
  by_cases e : l' = l
  · subst e
    have em : m' = m := (nI_eq (by omega) (by omega)).mp (e'.symm.trans hac)
    subst em
    refine ⟨m' + 1, by omega, pk_us, fun i hi => ?_⟩
    by_cases z : i = m'
    · subst z
      simp only [pk_us]
      refine ⟨⟨q, hq, rfl⟩, hp, fun i' hi' e => ?_⟩
      by_cases y : i' = i
      · exact y.symm
      · rw [pk_un (by omega)] at e
        exact absurd e.symm (hn i' (by omega) (by omega))
    · have n1 : l' * 4 + i ≠ l' * 4 + m' := by omega
      obtain ⟨g1, g2, g3⟩ := hL i (by omega)
      simp only [pk_un n1]
      refine ⟨g1, g2, fun i' hi' e => ?_⟩
      by_cases y : i' = m'
      · rw [y, pk_us] at e
        exact absurd e (hn i (by omega) (by omega))
      · rw [pk_un (by omega)] at e
        exact g3 i' (by omega) e
  · refine ⟨m', hm', by rw [pk_un e]; exact e', fun i hi => ?_⟩
    have nn : ∀ i, i < m' → l' * 4 + i ≠ l * 4 + m := by intro i hi; omega
    obtain ⟨g1, g2, g3⟩ := hL i hi
    simp only [pk_un (nn i hi)]
    refine ⟨g1, g2, fun i' hi' e => ?_⟩
    rw [pk_un (nn i' hi')] at e
    exact g3 i' hi' e
theorem lc_act {k l q : Nat} {p x o : Int32} (hl : l < 2) (hq : q < 16) (hp : (p = 0 ∧ x = 0) ∨ p = 1) (hnp : vp_nar .boolean p = p) (h1 : N ≤ k) (h2 : n + lc_pc pr 16 ≤ 76) (h3 : lc_R n N (16 * k) pr va cr mo ve kl op ov er ek ep ev ba el) (h4 : lc_C c ck cy cm cn co) (h5 : lc_A ak ap av ac)
    (HY : ∀ post : Int32 → SY → Prop, (∃ f, wY_action_25 post (nI q) p x (nI l) od (nI N) (nI n) (nI c) tm ba er ek ep ev el se co ak ap av ac gr tt ex f 0) → wpY_action post (od, (nI N), (nI n), (nI c), tm, ba, er, ek, ep, ev, el, se, co, ak, ap, av, ac, gr, tt, ex) (nI q) p x o) :
    wX_addAction_19 (fun r u' => wpY_action (fun r' v' => r' = r ∧ i_Rel (k + 5) u' v') (od, (nI N), (nI n), (nI c), tm, ba, er, ek, ep, ev, el, se, co, ak, ap, av, ac, gr, tt, ex) (nI q) p x o) (nI q) p x (nI l) (nI n) (nI c) (nI N) od tm pr va cr mo ve kl op ov er ek ep ev ck cy cm cn ak ap av ac gr tt ex := by
  obtain ⟨m, hm, hac, hL⟩ := h5 l hl
  have hv : vp_in (nI l) 2 := vp_in_nI hl (by decide)
  have hc : (nI l).toNatClampNeg = l := nI_clamp (by omega)
  have ec : ac (nI l).toNatClampNeg = nI m := by rw [hc]; exact hac
  unfold wX_addAction_19 wpX_listNames
  refine nm_r (lc_ix40 l) ⟨hv, nm_r (show nI (l * 4) + ac (nI l).toNatClampNeg = nI (l * 4 + m) by rw [ec, nI_add]) ⟨m + 1, ?_⟩⟩
  rcases lc_names (n := n) (c := c) (N := N) (od := od) (tm := tm) (pr := pr) (va := va) (cr := cr) (mo := mo) (ve := ve) (kl := kl) (op := op) (ov := ov) (er := er) (ek := ek) (ep := ep) (ev := ev) (ck := ck) (cy := cy) (cm := cm) (cn := cn) (ak := ak) (ap := ap) (av := av) (ac := ac) (gr := gr) (tt := tt) (ex := ex) (ba := ba) (el := el) (se := se) (co := co) (key := nI q) hl hm hac m 0 (by omega) with ⟨hX, hY⟩ | ⟨hn, hX, hY⟩
  · exact hX _ (br_f lc_10 (HY _ ⟨m + 1, hY _ _ _ ⟨rfl, i_up (lc_mk h1 h2 h3 h4 h5)⟩⟩))
  · by_cases b : m < 4
    · have b1 : ac (nI l).toNatClampNeg < 4 := by rw [ec]; exact nI_lt (b := 4) b (by decide)
      have b2 : ¬ ac (nI l).toNatClampNeg = 4 := by
        rw [ec]
        intro z
        have := (nI_eq (a := m) (b := 4) (by omega) (by decide)).mp z
        omega
      have ei : nI l * 4 + ac (nI l).toNatClampNeg = nI (l * 4 + m) := by rw [ec, lc_ix4]
      have hi : vp_in (nI (l * 4 + m)) 8 := vp_in_nI (by omega) (by decide)
      have hb : l * 4 + m < 2 ^ 31 := by omega
      have eu : upd ac (nI l).toNatClampNeg (ac (nI l).toNatClampNeg + 1) = upd ac l (nI (m + 1)) := by rw [ec, hc, nI_1]
      refine hX _ (br_t rfl ⟨hv, br_t b1 ⟨hv, nm_r ei ⟨hi, nm_r (lc_u hb) ⟨hi, nm_r (show upd ap (nI (l * 4 + m)).toNatClampNeg (vp_nar .boolean p) = upd ap (l * 4 + m) p by rw [nI_clamp hb, hnp]) ⟨hi, nm_r (lc_u hb) ⟨hv, hv, nm_r eu ⟨hv, HY _ ⟨m + 1, hY _ _ _ ?_⟩⟩⟩⟩⟩⟩⟩⟩)
      exact ⟨hv, br_t (by rw [ec]; exact Int32.le_refl _) ⟨hv, br_f b2 ⟨hv, nm_r ei ⟨hi, nm_r (lc_u hb) ⟨hi, nm_r (show upd ap (nI (l * 4 + m)).toNatClampNeg (vp_nar .boolean p) = upd ap (l * 4 + m) p by rw [nI_clamp hb, hnp]) ⟨hi, nm_r (lc_u hb) ⟨hv, hv, nm_r eu ⟨hv, rfl, i_up (lc_mk h1 h2 h3 h4 (lc_A_w hl b hac hq hp hn h5))⟩⟩⟩⟩⟩⟩⟩⟩
    · have em : m = 4 := by omega
      subst em
      have b1 : ¬ ac (nI l).toNatClampNeg < 4 := by rw [ec]; decide
      have b2 : ac (nI l).toNatClampNeg = 4 := by rw [ec]; rfl
      refine hX _ (br_t rfl ⟨hv, br_f b1 (HY _ ⟨4 + 1, hY _ _ _ ?_⟩)⟩)
      exact ⟨hv, br_t (by rw [ec]; exact Int32.le_refl _) ⟨hv, br_t b2 ⟨rfl, i_up (lc_mk h1 h2 h3 h4 h5)⟩⟩⟩
theorem lc_action {k : Nat} {key p x o : Int32} (hp : (p = 0 ∧ x = 0) ∨ p = 1) (hnp : vp_nar .boolean p = p) (h1 : N ≤ k) (h2 : n + lc_pc pr 16 ≤ 76) (h3 : lc_R n N (16 * k) pr va cr mo ve kl op ov er ek ep ev ba el) (h4 : lc_C c ck cy cm cn co) (h5 : lc_A ak ap av ac) :
    wpX_addAction (fun r u' => wpY_action (fun r' v' => r' = r ∧ i_Rel (k + 5) u' v') (od, (nI N), (nI n), (nI c), tm, ba, er, ek, ep, ev, el, se, co, ak, ap, av, ac, gr, tt, ex) key p x o) ((nI n), (nI c), (nI N), od, tm, pr, va, cr, mo, ve, kl, op, ov, er, ek, ep, ev, ck, cy, cm, cn, ak, ap, av, ac, gr, tt, ex) key p x o := by
  unfold wpX_addAction
  rcases lc_key (n := n) (c := c) (N := N) (od := od) (tm := tm) (ba := ba) (er := er) (ek := ek) (ep := ep) (ev := ev) (el := el) (se := se) (co := co) (ak := ak) (ap := ap) (av := av) (ac := ac) (gr := gr) (tt := tt) (ex := ex) key with ⟨hx, hy⟩ | ⟨q, hq, rfl, hx, hy⟩
  · refine hx _ (br_t rfl ?_)
    by_cases z : o = 0
    · refine br_t z ?_
      unfold wY_action_10
      exact hy _ (br_t rfl ⟨rfl, i_up (lc_mk h1 h2 h3 h4 h5)⟩)
    · refine br_f z ?_
      unfold wY_action_10
      exact hy _ (br_t rfl ⟨rfl, i_up (lc_mk h1 h2 h3 h4 h5)⟩)
  · by_cases z : o = 0
    · refine hx _ (br_f lc_10 (br_t z (lc_act (l := 0) (by decide) hq hp hnp h1 h2 h3 h4 h5 (fun post hw => br_t z ?_))))
      unfold wY_action_10
      exact hy _ (br_f lc_10 hw)
    · refine hx _ (br_f lc_10 (br_f z (lc_act (l := 1) (by decide) hq hp hnp h1 h2 h3 h4 h5 (fun post hw => br_f z ?_))))
      unfold wY_action_10
      exact hy _ (br_f lc_10 hw)
end
theorem i_vc_thenPut {k : Nat} {u : SX} {v : SY} (I : i_Rel k u v) (hk : k + 5 ≤ 2560) (v1 : Int32) (v2 : Int32) (v3 : Int32) : wpX_thenPut (fun r u' => wpY_thenPut (fun r' v' => r' = r ∧ i_Rel (k + 5) u' v') v v1 v2 (lw_bz v3)) u v1 v2 (lw_bz v3) := by
  obtain ⟨n, c, N, od, tm, pr, va, cr, mo, ve, kl, op, ov, er, ek, ep, ev, ck, cy, cm, cn, ak, ap, av, ac, gr, tt, ex, ba, el, se, co, rfl, rfl, h1, h2, h3, h4, h5⟩ := I
  unfold wpX_thenPut wpY_thenPut
  exact lc_action (p := 1) (x := v2) (Or.inr rfl) lc_n1 h1 h2 h3 h4 h5
theorem i_vc_thenDelete {k : Nat} {u : SX} {v : SY} (I : i_Rel k u v) (hk : k + 5 ≤ 2560) (v1 : Int32) (v2 : Int32) : wpX_thenDelete (fun r u' => wpY_thenDelete (fun r' v' => r' = r ∧ i_Rel (k + 5) u' v') v v1 (lw_bz v2)) u v1 (lw_bz v2) := by
  obtain ⟨n, c, N, od, tm, pr, va, cr, mo, ve, kl, op, ov, er, ek, ep, ev, ck, cy, cm, cn, ak, ap, av, ac, gr, tt, ex, ba, el, se, co, rfl, rfl, h1, h2, h3, h4, h5⟩ := I
  unfold wpX_thenDelete wpY_thenDelete
  exact lc_action (p := 0) (x := 0) (Or.inl ⟨rfl, rfl⟩) lc_n0 h1 h2 h3 h4 h5
