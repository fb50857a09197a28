def i_Rel (k : Nat) (u : SX) (v : SY) : Prop := lc_Rel k (16 * k) u v
theorem i_up {k : Nat} {u : SX} {v : SY} (h : i_Rel k u v) : i_Rel (k + 5) u v := lc_Rel_m (by omega) (by omega) h
theorem lc_i {k B K : Nat} {u : SX} {v : SY} (hB : B ≤ k) (hK : K ≤ 16 * k) (h : lc_Rel B K u v) : i_Rel k u v := lc_Rel_m hB hK h
section
variable {n c N : Nat} {od tm : Int32} {pr va cr mo ve kl op ov er ek ep ev ck cy cm cn ak ap av ac gr tt ex ba el se co : Nat → Int32}
theorem lc_xInit : ∀ (d j : Nat) (kl : Nat → Int32), j + d = 16 → (∀ i, i < j → kl i = -1) → ∃ kl' : Nat → Int32, (∀ i, i < 16 → kl' i = -1) ∧ ∀ post : SX → Prop, post ((nI n), (nI c), (nI N), od, tm, pr, va, cr, mo, ve, kl', op, ov, er, ek, ep, ev, ck, cy, cm, cn, ak, ap, av, ac, gr, tt, ex) → wX_init_207 post (nI n) (nI c) (nI N) od tm (d + 1) (nI j) pr va cr mo ve kl op ov er ek ep ev ck cy cm cn ak ap av ac gr tt ex := by
  intro d
  induction d with
  | zero =>
    intro j kl hd h
    have e : j = 16 := by omega
    subst e
    exact ⟨kl, h, fun post hp => br_t (nI_le (a := 16) (b := 16) (by decide) (by decide)) hp⟩
  | succ d ih =>
    intro j kl hd h
    obtain ⟨k2, e2, h2⟩ := ih (j + 1) (upd kl j (-1)) (by omega) (fun i hi => by
      by_cases q : i = j
      · rw [q, pk_us]
      · rw [pk_un q]; exact h i (by omega))
    exact ⟨k2, e2, fun post hp => br_f (nI_ge (b := 16) (by omega) (by decide)) ⟨vp_in_nI (by omega) (by decide), nm_r (lc_u (by omega)) (nm_r (nI_1 j) (h2 post hp))⟩⟩
theorem lc_yInit : ∀ (d j : Nat) (ba : Nat → Int32), j + d = 16 → (∀ i, i < j → ba (i * 5 + 4) = -1) → (∀ i, i % 5 ≠ 4 → ba i = 0) → ∃ ba' : Nat → Int32, (∀ i, i < 16 → ba' (i * 5 + 4) = -1) ∧ (∀ i, i % 5 ≠ 4 → ba' i = 0) ∧ ∀ post : SY → Prop, post (od, (nI N), (nI n), (nI c), tm, ba', er, ek, ep, ev, el, se, co, ak, ap, av, ac, gr, tt, ex) → wY_init_121 post od (nI N) (nI n) (nI c) tm (d + 1) (nI j) ba er ek ep ev el se co ak ap av ac gr tt ex := by
  intro d
  induction d with
  | zero =>
    intro j ba hd h g
    have e : j = 16 := by omega
    subst e
    exact ⟨ba, h, g, fun post hp => br_t (nI_le (a := 16) (b := 16) (by decide) (by decide)) hp⟩
  | succ d ih =>
    intro j ba hd h g
    obtain ⟨k2, e2, g2, h2⟩ := ih (j + 1) (upd ba (j * 5 + 4) (-1)) (by omega) (fun i hi => by
      by_cases q : i = j
      · rw [q, pk_us]
      · rw [pk_un (by omega)]; exact h i (by omega)) (fun i hi => by rw [pk_un (by omega)]; exact g i hi)
    exact ⟨k2, e2, g2, fun post hp => br_f (nI_ge (b := 16) (by omega) (by decide)) ⟨lc_b5 (f := 4) (by omega) (by decide), nm_r (show upd ba (nI j * 5 + nI 4).toNatClampNeg (-1) = _ by rw [lc_ix5, nI_clamp (by omega)]) (nm_r (nI_1 j) (h2 post hp))⟩⟩
end
theorem lc_pc0 : ∀ m, lc_pc (fun _ => 0) m = 0 := by
  intro m
  induction m with
  | zero => rfl
  | succ m ih => simp only [lc_pc, ih, if_pos]
theorem i_vc0 : wpX_init (fun u => wpY_init (fun v => i_Rel 0 u v)) := by
  obtain ⟨kl, hk, hX⟩ := lc_xInit (n := 0) (c := 0) (N := 0) (od := 0) (tm := 0) (pr := fun _ => 0) (va := fun _ => 0) (cr := fun _ => 0) (mo := fun _ => 0) (ve := fun _ => 0) (op := fun _ => 0) (ov := fun _ => 0) (er := fun _ => 0) (ek := fun _ => 0) (ep := fun _ => 0) (ev := fun _ => 0) (ck := fun _ => 0) (cy := fun _ => 0) (cm := fun _ => 0) (cn := fun _ => 0) (ak := fun _ => 0) (ap := fun _ => 0) (av := fun _ => 0) (ac := fun _ => 0) (gr := fun _ => 0) (tt := fun _ => 0) (ex := fun _ => 0) 16 0 (fun _ => 0) rfl (fun i hi => absurd hi (by omega))
  obtain ⟨ba, hb, gb, hY⟩ := lc_yInit (n := 0) (c := 0) (N := 0) (od := 0) (tm := 0) (el := fun _ => 0) (se := fun _ => 0) (co := fun _ => 0) (er := fun _ => 0) (ek := fun _ => 0) (ep := fun _ => 0) (ev := fun _ => 0) (ak := fun _ => 0) (ap := fun _ => 0) (av := fun _ => 0) (ac := fun _ => 0) (gr := fun _ => 0) (tt := fun _ => 0) (ex := fun _ => 0) 16 0 (fun _ => 0) rfl (fun i hi => absurd hi (by omega)) (fun _ _ => rfl)
  refine ⟨17, hX _ ⟨17, hY _ ?_⟩⟩
  refine lc_mk (n := 0) (c := 0) (N := 0) (Nat.le_refl _) (by rw [lc_pc0]; decide) ⟨fun i hi => absurd hi (by omega), fun i j _ hj => absurd hj (by omega), fun i hi => absurd hi (by omega), fun i hi => absurd hi (by omega), fun j hj => ⟨⟨0, gb _ (by omega), by omega⟩, (gb _ (by omega)).symm, ?_⟩, fun j hj => ?_, fun j hj => ⟨rfl, fun _ => hk j hj⟩⟩ ⟨by omega, fun i hi => absurd hi (by omega)⟩ (fun l hl => ⟨0, by omega, rfl, fun i hi => absurd hi (by omega)⟩)
  · rw [gb _ (by omega), if_pos rfl]
  · show (ba (j * 5), ba (j * 5 + 1), ba (j * 5 + 2), ba (j * 5 + 3), ba (j * 5 + 4)) = (0, 0, 0, 0, kl j)
    rw [gb _ (by omega), gb _ (by omega), gb _ (by omega), gb _ (by omega), hb j hj, hk j hj]
section
variable {n c N : Nat} {od tm : Int32} {pr va cr mo ve kl op ov er ek ep ev ck cy cm cn ak ap av ac gr tt ex ba el se co : Nat → Int32}
theorem lc_key (x : Int32) : ((∀ post : Int32 → Prop, post 0 → wpX_isKey post x) ∧ (∀ post : Int32 → Prop, post 0 → wpY_isKey post (od, (nI N), (nI n), (nI c), tm, ba, er, ek, ep, ev, el, se, co, ak, ap, av, ac, gr, tt, ex) x)) ∨ ∃ j, j < 16 ∧ x = nI j ∧ (∀ post : Int32 → Prop, post 1 → wpX_isKey post (nI j)) ∧ (∀ post : Int32 → Prop, post 1 → wpY_isKey post (od, (nI N), (nI n), (nI c), tm, ba, er, ek, ep, ev, el, se, co, ak, ap, av, ac, gr, tt, ex) (nI j)) := by
  rcases pk_ix x (n := 16) (by decide) with h | h | ⟨j, hj, rfl⟩
  · exact Or.inl ⟨fun post hp => br_t h hp, fun post hp => br_t h hp⟩
  · have h0 : ¬ x < 0 := Int32.not_lt.mpr (Int32.le_trans (nI_pos' (n := 16) (by decide)) h)
    exact Or.inl ⟨fun post hp => br_f h0 (br_t h hp), fun post hp => br_f h0 (br_t h hp)⟩
  · have h0 : ¬ nI j < 0 := nI_pos (by omega)
    have h1 : ¬ (16 : Int32) ≤ nI j := nI_ge (b := 16) hj (by decide)
    exact Or.inr ⟨j, hj, rfl, fun post hp => br_f h0 (br_f h1 hp), fun post hp => br_f h0 (br_f h1 hp)⟩
theorem lc_lease (x : Int32) : (∀ post : Int32 → Prop, post 0 → wpX_isLease post x) ∧ (x < 0 ∨ (¬ x < 0 ∧ nI 4 ≤ x ∧ ¬ x ≤ nI 3)) ∨ ∃ l, l < 4 ∧ x = nI l ∧ (∀ post : Int32 → Prop, post 1 → wpX_isLease post (nI l)) := by
  rcases pk_ix x (n := 4) (by decide) with h | h | ⟨j, hj, rfl⟩
  · exact Or.inl ⟨fun post hp => br_t h hp, Or.inl h⟩
  · have h0 : ¬ x < 0 := Int32.not_lt.mpr (Int32.le_trans (nI_pos' (n := 4) (by decide)) h)
    refine Or.inl ⟨fun post hp => br_f h0 (br_t h hp), Or.inr ⟨h0, h, fun z => ?_⟩⟩
    have := Int32.le_trans h z
    exact absurd this (by decide)
  · have h0 : ¬ nI j < 0 := nI_pos (by omega)
    have h1 : ¬ (4 : Int32) ≤ nI j := nI_ge (b := 4) hj (by decide)
    exact Or.inr ⟨j, hj, rfl, fun post hp => br_f h0 (br_f h1 hp)⟩
theorem lc_grant (x : Int32) : ((∀ post : Int32 → Prop, post 0 → wpX_isGranted post ((nI n), (nI c), (nI N), od, tm, pr, va, cr, mo, ve, kl, op, ov, er, ek, ep, ev, ck, cy, cm, cn, ak, ap, av, ac, gr, tt, ex) x) ∧ (∀ post : Int32 → Prop, post 0 → wpY_isGranted post (od, (nI N), (nI n), (nI c), tm, ba, er, ek, ep, ev, el, se, co, ak, ap, av, ac, gr, tt, ex) x)) ∨ ∃ l, l < 4 ∧ x = nI l ∧ ¬ gr l = 0 ∧ (∀ post : Int32 → Prop, post 1 → wpX_isGranted post ((nI n), (nI c), (nI N), od, tm, pr, va, cr, mo, ve, kl, op, ov, er, ek, ep, ev, ck, cy, cm, cn, ak, ap, av, ac, gr, tt, ex) (nI l)) ∧ (∀ post : Int32 → Prop, post 1 → wpY_isGranted post (od, (nI N), (nI n), (nI c), tm, ba, er, ek, ep, ev, el, se, co, ak, ap, av, ac, gr, tt, ex) (nI l)) := by
  rcases lc_lease x with ⟨hx, h | ⟨h0, h4, h3⟩⟩ | ⟨l, hl, rfl, hx⟩
  · exact Or.inl ⟨fun post hp => by unfold wpX_isGranted; exact hx _ (br_t rfl hp), fun post hp => br_t h hp⟩
  · exact Or.inl ⟨fun post hp => by unfold wpX_isGranted; exact hx _ (br_t rfl hp), fun post hp => br_f h0 (br_t h4 hp)⟩
  · have h0 : ¬ nI l < 0 := nI_pos (by omega)
    have h1 : ¬ (4 : Int32) ≤ nI l := nI_ge (b := 4) hl (by decide)
    have hv : vp_in (nI l) 4 := vp_in_nI hl (by decide)
    have hc : (nI l).toNatClampNeg = l := nI_clamp (by omega)
    by_cases z : gr l = 0
    · exact Or.inl ⟨fun post hp => by unfold wpX_isGranted; exact hx _ (br_f lc_10 ⟨hv, br_t (by rw [hc]; exact z) hp⟩), fun post hp => br_f h0 (br_f h1 ⟨hv, br_t (by rw [hc]; exact z) hp⟩)⟩
    · exact Or.inr ⟨l, hl, rfl, z, fun post hp => by unfold wpX_isGranted; exact hx _ (br_f lc_10 ⟨hv, br_f (by rw [hc]; exact z) hp⟩), fun post hp => br_f h0 (br_f h1 ⟨hv, br_f (by rw [hc]; exact z) hp⟩)⟩
theorem lc_yGr {l : Nat} (hl : l < 4) (g : ¬ gr l = 0) {post : Int32 → Prop} (h : post 1) : wpY_isGranted post (od, (nI N), (nI n), (nI c), tm, ba, er, ek, ep, ev, el, se, co, ak, ap, av, ac, gr, tt, ex) (nI l) :=
  br_f (nI_pos (by omega)) (br_f (nI_ge (b := 4) hl (by decide)) ⟨vp_in_nI hl (by decide), br_f (by rw [nI_clamp (by omega)]; exact g) h⟩)
theorem lc_yKeep {l : Nat} (hl : l < 4) (g : ¬ gr l = 0) {post : Int32 → SY → Prop} (h : post (tm + tt l) (od, (nI N), (nI n), (nI c), tm, ba, er, ek, ep, ev, el, se, co, ak, ap, av, ac, gr, tt, (upd ex l (tm + tt l)))) : wpY_keep post (od, (nI N), (nI n), (nI c), tm, ba, er, ek, ep, ev, el, se, co, ak, ap, av, ac, gr, tt, ex) (nI l) := by
  have hv : vp_in (nI l) 4 := vp_in_nI hl (by decide)
  have hc : (nI l).toNatClampNeg = l := nI_clamp (by omega)
  unfold wpY_keep
  exact lc_yGr hl g (br_f lc_10 ⟨hv, hv, nm_r (by rw [hc]) ⟨hv, by rw [hc, pk_us]; exact h⟩⟩)
theorem lc_yPres {K j : Nat} (R : lc_R n N K pr va cr mo ve kl op ov er ek ep ev ba el) (hK : K < 2 ^ 30) (hn : n ≤ 96) (hj : j < 16) : ∃ se', lc_sv se' = (va j, ve j, mo j, cr j, kl j) ∧ ∀ post : Int32 → SY → Prop, post (pr j) (od, (nI N), (nI n), (nI c), tm, ba, er, ek, ep, ev, el, se', co, ak, ap, av, ac, gr, tt, ex) → wpY_present post (od, (nI N), (nI n), (nI c), tm, ba, er, ek, ep, ev, el, se, co, ak, ap, av, ac, gr, tt, ex) (nI j) := by
  obtain ⟨w, hw, ew⟩ := lc_R_v R hj
  obtain ⟨a1, a2, a3, a4, a5, a6, a7⟩ := R
  have hl := a6 j hj
  rw [ew] at hl
  obtain ⟨s1, e1, h1⟩ := lc_yPresent (n := n) (c := c) (N := N) (od := od) (tm := tm) (er := er) (ek := ek) (ep := ep) (ev := ev) (ak := ak) (ap := ap) (av := av) (ac := ac) (gr := gr) (tt := tt) (ex := ex) (ba := ba) (el := el) (se := se) (co := co) hj hn (by omega) hl
  refine ⟨s1, by rw [e1, ew], fun post hp => h1 post ?_⟩
  have e : pr j = if w = 0 then 0 else 1 := by
    rw [(a7 j hj).1, ew]
    by_cases z : w = 0
    · rw [if_pos z, z, if_pos nI_0]
    · rw [if_neg z, if_neg (nI_ne0 (by omega) (by omega))]
  rw [← e]
  exact hp
theorem lc_put25 {k j : Nat} {x l : Int32} (hk : k + 5 ≤ 2560) (hj : j < 16) (h1 : N ≤ k) (h2 : n + lc_pc pr 16 ≤ 76) (h3 : lc_R n N (16 * k) pr va cr mo ve kl op ov er ek ep ev ba el) (h4 : lc_C c ck cy cm cn co) (h5 : lc_A ak ap av ac)
    (HY : ∀ post : Int32 → SY → Prop, wY_put_26 post (nI j) x l od (nI N) (nI n) (nI c) tm ba er ek ep ev el se co ak ap av ac gr tt ex → wpY_put post (od, (nI N), (nI n), (nI c), tm, ba, er, ek, ep, ev, el, se, co, ak, ap, av, ac, gr, tt, ex) (nI j) x l) :
    wX_put_25 (fun r u' => wpY_put (fun r' v' => r' = r ∧ i_Rel (k + 5) u' v') (od, (nI N), (nI n), (nI c), tm, ba, er, ek, ep, ev, el, se, co, ak, ap, av, ac, gr, tt, ex) (nI j) x l) (nI j) x l (nI n) (nI c) (nI N) od tm pr va cr mo ve kl op ov er ek ep ev ck cy cm cn ak ap av ac gr tt ex := by
  by_cases h : n < 60
  · have hl : nI n < 60 := nI_lt (b := 60) h (by decide)
    refine br_t hl (nm_r (nI_1 N) (lc_xPutKey hj (by omega) (HY _ (br_t hl (nm_r (nI_1 N) (lc_yAdd (by omega) ⟨rfl, lc_i (B := k + 5) (K := 16 * k + 1) (Nat.le_refl _) (by omega) (lc_mk (by omega) ?_ (lc_R_p hj (by omega) (lc_R_b (by omega) h3)) h4 h5)⟩))))))
    have := lc_pc_le (if pr j = 0 then upd pr j 1 else pr) 16
    omega
  · have hl : ¬ nI n < 60 := nI_nlt (b := 60) (by omega) (by omega)
    exact br_f hl (HY _ (br_f hl ⟨rfl, i_up (lc_mk h1 h2 h3 h4 h5)⟩))
end
theorem i_vc_put {k : Nat} {u : SX} {v : SY} (I : i_Rel k u v) (hk : k + 5 ≤ 2560) (v1 : Int32) (v2 : Int32) (v3 : Int32) : wpX_put (fun r u' => wpY_put (fun r' v' => r' = r ∧ i_Rel (k + 5) u' v') v v1 v2 v3) u v1 v2 v3 := by
  obtain ⟨n, c, N, od, tm, pr, va, cr, mo, ve, kl, op, ov, er, ek, ep, ev, ck, cy, cm, cn, ak, ap, av, ac, gr, tt, ex, ba, el, se, co, rfl, rfl, h1, h2, h3, h4, h5⟩ := I
  unfold wpX_put wpY_put
  rcases lc_key (n := n) (c := c) (N := N) (od := od) (tm := tm) (ba := ba) (er := er) (ek := ek) (ep := ep) (ev := ev) (el := el) (se := se) (co := co) (ak := ak) (ap := ap) (av := av) (ac := ac) (gr := gr) (tt := tt) (ex := ex) v1 with ⟨hx, hy⟩ | ⟨j, hj, rfl, hx, hy⟩
  · exact hx _ (br_t rfl (hy _ (br_t rfl ⟨rfl, i_up (lc_mk h1 h2 h3 h4 h5)⟩)))
  · by_cases z : v3 = -1
    · exact hx _ (br_f lc_10 (br_t z (lc_put25 hk hj h1 h2 h3 h4 h5 (fun post hp => by unfold wpY_put; exact hy _ (br_f lc_10 (br_t z hp))))))
    · rcases lc_grant (n := n) (c := c) (N := N) (od := od) (tm := tm) (pr := pr) (va := va) (cr := cr) (mo := mo) (ve := ve) (kl := kl) (op := op) (ov := ov) (er := er) (ek := ek) (ep := ep) (ev := ev) (ck := ck) (cy := cy) (cm := cm) (cn := cn) (ak := ak) (ap := ap) (av := av) (ac := ac) (gr := gr) (tt := tt) (ex := ex) (ba := ba) (el := el) (se := se) (co := co) v3 with ⟨gx, gy⟩ | ⟨l, hl, rfl, hg, gx, gy⟩
      · exact hx _ (br_f lc_10 (br_f z (gx _ (br_t rfl (hy _ (br_f lc_10 (br_f z (gy _ (br_t rfl ⟨rfl, i_up (lc_mk h1 h2 h3 h4 h5)⟩)))))))))
      · exact hx _ (br_f lc_10 (br_f z (gx _ (br_f lc_10 (lc_put25 hk hj h1 h2 h3 h4 h5 (fun post hp => by unfold wpY_put; exact hy _ (br_f lc_10 (br_f z (gy _ (br_f lc_10 hp))))))))))
theorem i_vc_delete {k : Nat} {u : SX} {v : SY} (I : i_Rel k u v) (hk : k + 5 ≤ 2560) (v1 : Int32) : wpX_delete (fun r u' => wpY_delete (fun r' v' => r' = r ∧ i_Rel (k + 5) u' v') v v1) u v1 := by
  obtain ⟨n, c, N, od, tm, pr, va, cr, mo, ve, kl, op, ov, er, ek, ep, ev, ck, cy, cm, cn, ak, ap, av, ac, gr, tt, ex, ba, el, se, co, rfl, rfl, h1, h2, h3, h4, h5⟩ := I
  unfold wpX_delete wpY_delete
  rcases lc_key (n := n) (c := c) (N := N) (od := od) (tm := tm) (ba := ba) (er := er) (ek := ek) (ep := ep) (ev := ev) (el := el) (se := se) (co := co) (ak := ak) (ap := ap) (av := av) (ac := ac) (gr := gr) (tt := tt) (ex := ex) v1 with ⟨hx, hy⟩ | ⟨j, hj, rfl, hx, hy⟩
  · exact hx _ (br_t rfl (hy _ (br_t rfl ⟨rfl, i_up (lc_mk h1 h2 h3 h4 h5)⟩)))
  · have hv : vp_in (nI j) 16 := vp_in_nI hj (by decide)
    have hc : (nI j).toNatClampNeg = j := nI_clamp (by omega)
    obtain ⟨s1, e1, hp⟩ := lc_yPres (n := n) (c := c) (N := N) (od := od) (tm := tm) (ba := ba) (er := er) (ek := ek) (ep := ep) (ev := ev) (el := el) (se := se) (co := co) (ak := ak) (ap := ap) (av := av) (ac := ac) (gr := gr) (tt := tt) (ex := ex) h3 (by omega) (by omega) hj
    by_cases z : pr j = 0
    · exact hx _ (br_f lc_10 ⟨hv, br_t (by rw [hc]; exact z) (hy _ (br_f lc_10 (hp _ (br_t z ⟨rfl, i_up (lc_mk h1 h2 h3 h4 h5)⟩))))⟩)
    · by_cases h : n < 60
      · have hl : nI n < 60 := nI_lt (b := 60) h (by decide)
        refine hx _ (br_f lc_10 ⟨hv, br_f (by rw [hc]; exact z) (br_t hl (nm_r (nI_1 N) (lc_xDelKey hj (by omega) (hy _ (br_f lc_10 (hp _ (br_f z (br_t hl (nm_r (nI_1 N) (lc_yAdd (by omega) ⟨rfl, lc_i (B := k + 5) (K := 16 * k + 1) (Nat.le_refl _) (by omega) (lc_mk (by omega) ?_ (lc_R_d hj (lc_R_b (by omega) h3)) h4 h5)⟩))))))))))⟩)
        have := lc_pc_le (upd pr j 0) 16
        omega
      · have hl : ¬ nI n < 60 := nI_nlt (b := 60) (by omega) (by omega)
        exact hx _ (br_f lc_10 ⟨hv, br_f (by rw [hc]; exact z) (br_f hl (hy _ (br_f lc_10 (hp _ (br_f z (br_f hl ⟨rfl, i_up (lc_mk h1 h2 h3 h4 h5)⟩))))))⟩)
theorem i_vc_revision {k : Nat} {u : SX} {v : SY} (I : i_Rel k u v) (hk : k + 5 ≤ 2560) : wpX_revision (fun r => wpY_revision (fun r' => r' = r ∧ i_Rel (k + 5) u v) v) u := by
  have J := i_up I
  obtain ⟨n, c, N, od, tm, pr, va, cr, mo, ve, kl, op, ov, er, ek, ep, ev, ck, cy, cm, cn, ak, ap, av, ac, gr, tt, ex, ba, el, se, co, rfl, rfl, h1, h2, h3, h4, h5⟩ := I
  exact ⟨rfl, J⟩
theorem i_vc_keep {k : Nat} {u : SX} {v : SY} (I : i_Rel k u v) (hk : k + 5 ≤ 2560) (v1 : Int32) : wpX_keep (fun r u' => wpY_keep (fun r' v' => r' = r ∧ i_Rel (k + 5) u' v') v v1) u v1 := by
  obtain ⟨n, c, N, od, tm, pr, va, cr, mo, ve, kl, op, ov, er, ek, ep, ev, ck, cy, cm, cn, ak, ap, av, ac, gr, tt, ex, ba, el, se, co, rfl, rfl, h1, h2, h3, h4, h5⟩ := I
  unfold wpX_keep wpY_keep
  rcases lc_grant (n := n) (c := c) (N := N) (od := od) (tm := tm) (pr := pr) (va := va) (cr := cr) (mo := mo) (ve := ve) (kl := kl) (op := op) (ov := ov) (er := er) (ek := ek) (ep := ep) (ev := ev) (ck := ck) (cy := cy) (cm := cm) (cn := cn) (ak := ak) (ap := ap) (av := av) (ac := ac) (gr := gr) (tt := tt) (ex := ex) (ba := ba) (el := el) (se := se) (co := co) v1 with ⟨gx, gy⟩ | ⟨l, hl, rfl, hg, gx, gy⟩
  · exact gx _ (br_t rfl (gy _ (br_t rfl ⟨rfl, i_up (lc_mk h1 h2 h3 h4 h5)⟩)))
  · have hv : vp_in (nI l) 4 := vp_in_nI hl (by decide)
    exact gx _ (br_f lc_10 ⟨hv, hv, nm_e ⟨hv, gy _ (br_f lc_10 ⟨hv, hv, nm_e ⟨hv, rfl, i_up (lc_mk h1 h2 h3 h4 h5)⟩⟩)⟩⟩)
theorem i_vc_grant {k : Nat} {u : SX} {v : SY} (I : i_Rel k u v) (hk : k + 5 ≤ 2560) (v1 : Int32) (v2 : Int32) : wpX_grant (fun r u' => wpY_grant (fun r' v' => r' = r ∧ i_Rel (k + 5) u' v') v v1 v2) u v1 v2 := by
  obtain ⟨n, c, N, od, tm, pr, va, cr, mo, ve, kl, op, ov, er, ek, ep, ev, ck, cy, cm, cn, ak, ap, av, ac, gr, tt, ex, ba, el, se, co, rfl, rfl, h1, h2, h3, h4, h5⟩ := I
  unfold wpX_grant wpY_grant
  rcases lc_lease v1 with ⟨hx, h | ⟨h0, h4', h3'⟩⟩ | ⟨l, hl, rfl, hx⟩
  · exact hx _ (br_t rfl (br_t h ⟨rfl, i_up (lc_mk h1 h2 h3 h4 h5)⟩))
  · exact hx _ (br_t rfl (br_f h0 (br_f h3' ⟨rfl, i_up (lc_mk h1 h2 h3 h4 h5)⟩)))
  · have hv : vp_in (nI l) 4 := vp_in_nI hl (by decide)
    have h0 : ¬ nI l < 0 := nI_pos (by omega)
    have h3' : nI l ≤ 3 := nI_le (b := 3) (by omega) (by decide)
    have hb : l < 2 ^ 31 := by omega
    have hc : (nI l).toNatClampNeg = l := nI_clamp hb
    by_cases g : gr l = 0
    · have g' : gr (nI l).toNatClampNeg = 0 := by rw [hc]; exact g
      by_cases a : v2 < 1
      · exact hx _ (br_f lc_10 ⟨hv, br_t g' (br_t a (br_f h0 (br_t h3' ⟨hv, br_t g' (br_t a ⟨rfl, i_up (lc_mk h1 h2 h3 h4 h5)⟩)⟩)))⟩)
      · by_cases b : v2 ≤ 50
        · refine hx _ (br_f lc_10 ⟨hv, br_t g' (br_f a (br_t b ⟨hv, nm_r (lc_u hb) ⟨hv, nm_r (lc_u hb) ⟨hv, nm_r (lc_u hb) ⟨hv, br_f h0 (br_t h3' ⟨hv, br_t g' (br_f a (br_t b ⟨hv, nm_r (lc_u hb) ⟨hv, nm_r (lc_u hb) (lc_yKeep hl (by rw [pk_us]; exact lc_10) ⟨?_, ?_⟩)⟩⟩))⟩)⟩⟩⟩⟩))⟩)
          · rw [hc, pk_us, pk_us]
          · rw [show upd tt l v2 l = v2 from pk_us]; exact i_up (lc_mk h1 h2 h3 h4 h5)
        · exact hx _ (br_f lc_10 ⟨hv, br_t g' (br_f a (br_f b (br_f h0 (br_t h3' ⟨hv, br_t g' (br_f a (br_f b ⟨rfl, i_up (lc_mk h1 h2 h3 h4 h5)⟩))⟩))))⟩)
    · have g' : ¬ gr (nI l).toNatClampNeg = 0 := by rw [hc]; exact g
      exact hx _ (br_f lc_10 ⟨hv, br_f g' (br_f h0 (br_t h3' ⟨hv, br_f g' ⟨rfl, i_up (lc_mk h1 h2 h3 h4 h5)⟩⟩))⟩)
