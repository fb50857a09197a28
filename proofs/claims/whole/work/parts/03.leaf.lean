section
variable {n c N : Nat} {od tm : Int32} {pr va cr mo ve kl op ov er ek ep ev ck cy cm cn ak ap av ac gr tt ex ba el se co : Nat → Int32}
theorem lc_u {a : Nat → Int32} {j : Nat} {x : Int32} (h : j < 2 ^ 31) : upd a (nI j).toNatClampNeg x = upd a j x := by rw [nI_clamp h]
theorem lc_xAdd {post : SX → Prop} {p0 p1 p2 : Int32} (hn : n < 76) (h : post ((nI (n + 1)), (nI c), (nI N), od, tm, pr, va, cr, mo, ve, kl, op, ov, (upd er n (nI N)), (upd ek n p0), (upd ep n (vp_nar .boolean p1)), (upd ev n p2), ck, cy, cm, cn, ak, ap, av, ac, gr, tt, ex)) : wpX_addEvent post ((nI n), (nI c), (nI N), od, tm, pr, va, cr, mo, ve, kl, op, ov, er, ek, ep, ev, ck, cy, cm, cn, ak, ap, av, ac, gr, tt, ex) p0 p1 p2 := by
  have hi : vp_in (nI n) 76 := vp_in_nI hn (by decide)
  have hb : n < 2 ^ 31 := by omega
  exact br_t (nI_lt (b := 76) hn (by decide)) ⟨hi, nm_r (lc_u hb) ⟨hi, nm_r (lc_u hb) ⟨hi, nm_r (lc_u hb) ⟨hi, nm_r (lc_u hb) (nm_r (nI_1 n) h)⟩⟩⟩⟩
theorem lc_xPut26 {post : SX → Prop} {j : Nat} {x l : Int32} (hj : j < 16) (hn : n < 76) (h : post ((nI (n + 1)), (nI c), (nI N), od, tm, pr, (upd va j x), cr, (upd mo j (nI N)), (upd ve j (ve j + 1)), (upd kl j l), op, ov, (upd er n (nI N)), (upd ek n (nI j)), (upd ep n 1), (upd ev n x), ck, cy, cm, cn, ak, ap, av, ac, gr, tt, ex)) : wX_putKey_26 post (nI j) x l (nI n) (nI c) (nI N) od tm pr va cr mo ve kl op ov er ek ep ev ck cy cm cn ak ap av ac gr tt ex := by
  have hi : vp_in (nI j) 16 := vp_in_nI hj (by decide)
  have hb : j < 2 ^ 31 := by omega
  exact ⟨hi, hi, nm_r (by rw [nI_clamp hb]) ⟨hi, nm_r (lc_u hb) ⟨hi, nm_r (lc_u hb) ⟨hi, nm_r (lc_u hb) (lc_xAdd hn h)⟩⟩⟩⟩
theorem lc_xPutKey {post : SX → Prop} {j : Nat} {x l : Int32} (hj : j < 16) (hn : n < 76) (h : post ((nI (n + 1)), (nI c), (nI N), od, tm, (if pr j = 0 then upd pr j 1 else pr), (upd va j x), (if pr j = 0 then upd cr j (nI N) else cr), (upd mo j (nI N)), (upd ve j (ve j + 1)), (upd kl j l), op, ov, (upd er n (nI N)), (upd ek n (nI j)), (upd ep n 1), (upd ev n x), ck, cy, cm, cn, ak, ap, av, ac, gr, tt, ex)) : wpX_putKey post ((nI n), (nI c), (nI N), od, tm, pr, va, cr, mo, ve, kl, op, ov, er, ek, ep, ev, ck, cy, cm, cn, ak, ap, av, ac, gr, tt, ex) (nI j) x l := by
  have hi : vp_in (nI j) 16 := vp_in_nI hj (by decide)
  have hb : j < 2 ^ 31 := by omega
  by_cases z : pr j = 0
  · rw [if_pos z, if_pos z] at h
    exact ⟨hi, br_t (by rw [nI_clamp hb]; exact z) ⟨hi, nm_r (lc_u hb) ⟨hi, nm_r (lc_u hb) (lc_xPut26 hj hn h)⟩⟩⟩
  · rw [if_neg z, if_neg z] at h
    exact ⟨hi, br_f (by rw [nI_clamp hb]; exact z) (lc_xPut26 hj hn h)⟩
theorem lc_xDelKey {post : SX → Prop} {j : Nat} (hj : j < 16) (hn : n < 76) (h : post ((nI (n + 1)), (nI c), (nI N), od, tm, (upd pr j 0), (upd va j 0), (upd cr j 0), (upd mo j 0), (upd ve j 0), (upd kl j (-1)), op, ov, (upd er n (nI N)), (upd ek n (nI j)), (upd ep n 0), (upd ev n 0), ck, cy, cm, cn, ak, ap, av, ac, gr, tt, ex)) : wpX_deleteKey post ((nI n), (nI c), (nI N), od, tm, pr, va, cr, mo, ve, kl, op, ov, er, ek, ep, ev, ck, cy, cm, cn, ak, ap, av, ac, gr, tt, ex) (nI j) := by
  have hi : vp_in (nI j) 16 := vp_in_nI hj (by decide)
  have hb : j < 2 ^ 31 := by omega
  exact ⟨hi, nm_r (lc_u hb) ⟨hi, nm_r (lc_u hb) ⟨hi, nm_r (lc_u hb) ⟨hi, nm_r (lc_u hb) ⟨hi, nm_r (lc_u hb) ⟨hi, nm_r (lc_u hb) (lc_xAdd hn h)⟩⟩⟩⟩⟩⟩
theorem lc_yAdd {post : SY → Prop} {p0 p1 p2 p3 p4 : Int32} (hn : n < 96) (h : post (od, (nI N), (nI (n + 1)), (nI c), tm, ba, (upd er n p0), (upd ek n p1), (upd ep n (vp_nar .boolean p2)), (upd ev n p3), (upd el n p4), se, co, ak, ap, av, ac, gr, tt, ex)) : wpY_add post (od, (nI N), (nI n), (nI c), tm, ba, er, ek, ep, ev, el, se, co, ak, ap, av, ac, gr, tt, ex) p0 p1 p2 p3 p4 := by
  have hi : vp_in (nI n) 96 := vp_in_nI hn (by decide)
  have hb : n < 2 ^ 31 := by omega
  exact ⟨hi, nm_r (lc_u hb) ⟨hi, nm_r (lc_u hb) ⟨hi, nm_r (lc_u hb) ⟨hi, nm_r (lc_u hb) ⟨hi, nm_r (lc_u hb) (nm_r (nI_1 n) h)⟩⟩⟩⟩⟩
theorem lc_yAp30 {post : SY → Prop} {i : Nat} (hi : i < 96) (h : post (od, (nI N), (nI n), (nI c), tm, ba, er, ek, ep, ev, el, (upd (upd (upd (upd se 0 (ev i)) 1 (se 1 + 1)) 2 (er i)) 4 (el i)), co, ak, ap, av, ac, gr, tt, ex)) : wY_apply_30 post (nI i) od (nI N) (nI n) (nI c) tm ba er ek ep ev el se co ak ap av ac gr tt ex := by
  have hv : vp_in (nI i) 96 := vp_in_nI hi (by decide)
  have hc : (nI i).toNatClampNeg = i := nI_clamp (by omega)
  exact ⟨hv, nm_r (by rw [hc]) (nm_r (by rw [pk_un (show (1 : Nat) ≠ 0 by decide)]) ⟨hv, nm_r (by rw [hc]) ⟨hv, nm_r (by rw [hc]) h⟩⟩)⟩
theorem lc_yApply {i : Nat} (hi : i < 96) : ∃ se', lc_sv se' = lc_ap (er i) (ep i) (ev i) (el i) (lc_sv se) ∧ ∀ post : SY → Prop, post (od, (nI N), (nI n), (nI c), tm, ba, er, ek, ep, ev, el, se', co, ak, ap, av, ac, gr, tt, ex) → wpY_apply post (od, (nI N), (nI n), (nI c), tm, ba, er, ek, ep, ev, el, se, co, ak, ap, av, ac, gr, tt, ex) (nI i) := by
  have hv : vp_in (nI i) 96 := vp_in_nI hi (by decide)
  have hc : (nI i).toNatClampNeg = i := nI_clamp (by omega)
  by_cases z : ep i = 0
  · refine ⟨upd (upd (upd (upd (upd se 0 0) 1 0) 2 0) 3 0) 4 (-1), ?_, fun post h => ⟨hv, br_t (by rw [hc]; exact z) ⟨5, ?_⟩⟩⟩
    · rw [lc_ap0 z]; rfl
    · exact br_f (by decide) ⟨vp_in_nI (n := 0) (by decide) (by decide), nm_e (nm_r (e' := 1) rfl (br_f (by decide) ⟨vp_in_nI (n := 1) (by decide) (by decide), nm_e (nm_r (e' := 2) rfl (br_f (by decide) ⟨vp_in_nI (n := 2) (by decide) (by decide), nm_e (nm_r (e' := 3) rfl (br_f (by decide) ⟨vp_in_nI (n := 3) (by decide) (by decide), nm_e (nm_r (e' := 4) rfl (br_t (by decide) (nm_e h)))⟩))⟩))⟩))⟩
  · by_cases y : se 1 = 0
    · refine ⟨_, ?_, fun post h => ⟨hv, br_f (by rw [hc]; exact z) (br_t y ⟨hv, nm_r (by rw [hc]) (lc_yAp30 hi h)⟩)⟩⟩
      rw [lc_ap1 z]
      show _ = (ev i, se 1 + 1, er i, if se 1 = 0 then er i else se 3, el i)
      rw [if_pos y]; rfl
    · refine ⟨_, ?_, fun post h => ⟨hv, br_f (by rw [hc]; exact z) (br_f y (lc_yAp30 hi h))⟩⟩
      rw [lc_ap1 z]
      show _ = (ev i, se 1 + 1, er i, if se 1 = 0 then er i else se 3, el i)
      rw [if_neg y]; rfl
theorem lc_yLook31 {j : Nat} {p : Int32} {s : Int32 × Int32 × Int32 × Int32 × Int32} (hn : n ≤ 96) : ∀ (d i : Nat) (se : Nat → Int32), i + d = n → lc_sv se = lc_lk er ek ep ev el (nI j) p s i → ∃ se', lc_sv se' = lc_lk er ek ep ev el (nI j) p s n ∧ ∀ post : SY → Prop, post (od, (nI N), (nI n), (nI c), tm, ba, er, ek, ep, ev, el, se', co, ak, ap, av, ac, gr, tt, ex) → wY_look_31 post (nI j) p (d + 1) (nI i) od (nI N) (nI n) (nI c) tm ba er ek ep ev el se co ak ap av ac gr tt ex := by
  intro d
  induction d with
  | zero =>
    intro i se hd hs
    have e : i = n := by omega
    subst e
    exact ⟨se, hs, fun post h => br_t (Int32.le_refl _) h⟩
  | succ d ih =>
    intro i se hd hs
    have hg : ¬ nI n ≤ nI i := nI_ge (by omega) (by omega)
    have hv : vp_in (nI i) 96 := vp_in_nI (by omega) (by decide)
    have hc : (nI i).toNatClampNeg = i := nI_clamp (by omega)
    by_cases hk : ek i = nI j
    · by_cases hr : er i ≤ p
      · obtain ⟨s1, e1, h1⟩ := lc_yApply (n := n) (c := c) (N := N) (od := od) (tm := tm) (er := er) (ek := ek) (ep := ep) (ev := ev) (ak := ak) (ap := ap) (av := av) (ac := ac) (gr := gr) (tt := tt) (ex := ex) (ba := ba) (el := el) (se := se) (co := co) (i := i) (by omega)
        obtain ⟨s2, e2, h2⟩ := ih (i + 1) s1 (by omega) (by rw [lc_lk_t hk hr, ← hs, e1])
        exact ⟨s2, e2, fun post h => br_f hg ⟨hv, br_t (by rw [hc]; exact hk) ⟨hv, br_f (by rw [hc]; exact Int32.not_lt.mpr hr) (h1 _ (nm_r (nI_1 i) (h2 post h)))⟩⟩⟩
      · obtain ⟨s2, e2, h2⟩ := ih (i + 1) se (by omega) (by rw [lc_lk_f (fun z => hr z.2), hs])
        exact ⟨s2, e2, fun post h => br_f hg ⟨hv, br_t (by rw [hc]; exact hk) ⟨hv, br_t (by rw [hc]; exact Int32.not_le.mp hr) (nm_r (nI_1 i) (h2 post h))⟩⟩⟩
    · obtain ⟨s2, e2, h2⟩ := ih (i + 1) se (by omega) (by rw [lc_lk_f (fun z => hk z.1), hs])
      exact ⟨s2, e2, fun post h => br_f hg ⟨hv, br_f (by rw [hc]; exact hk) (nm_r (nI_1 i) (h2 post h))⟩⟩
theorem lc_ix5 (j f : Nat) : nI j * 5 + nI f = nI (j * 5 + f) := by
  rw [show (5 : Int32) = nI 5 from rfl, pk_mul, nI_add]
theorem lc_b5 {j f : Nat} (hj : j < 16) (hf : f < 5) : vp_in (nI j * 5 + nI f) 80 := by
  rw [lc_ix5]; exact vp_in_nI (by omega) (by decide)
theorem lc_r5 {a : Nat → Int32} {j f : Nat} (hj : j < 16) (hf : f < 5) : a (nI j * 5 + nI f).toNatClampNeg = a (j * 5 + f) := by
  rw [lc_ix5, nI_clamp (by omega)]
theorem lc_yLook {j : Nat} {p : Int32} (hj : j < 16) (hn : n ≤ 96) : ∃ se', lc_sv se' = lc_lk er ek ep ev el (nI j) p (lc_bs ba j) n ∧ ∀ post : SY → Prop, post (od, (nI N), (nI n), (nI c), tm, ba, er, ek, ep, ev, el, se', co, ak, ap, av, ac, gr, tt, ex) → wpY_look post (od, (nI N), (nI n), (nI c), tm, ba, er, ek, ep, ev, el, se, co, ak, ap, av, ac, gr, tt, ex) (nI j) p := by
  obtain ⟨s2, e2, h2⟩ := lc_yLook31 (c := c) (N := N) (od := od) (tm := tm) (er := er) (ek := ek) (ep := ep) (ev := ev) (ak := ak) (ap := ap) (av := av) (ac := ac) (gr := gr) (tt := tt) (ex := ex) (ba := ba) (el := el) (co := co) (j := j) (p := p) (s := lc_bs ba j) hn n 0 (upd (upd (upd (upd (upd se 0 (ba (j * 5 + 0))) 1 (ba (j * 5 + 1))) 2 (ba (j * 5 + 2))) 3 (ba (j * 5 + 3))) 4 (ba (j * 5 + 4))) (by omega) rfl
  refine ⟨s2, e2, fun post h => ⟨6, ?_⟩⟩
  exact br_f (by decide) ⟨lc_b5 (f := 0) hj (by decide), vp_in_nI (n := 0) (by decide) (by decide), nm_r (congrArg (upd _ _) (lc_r5 (f := 0) hj (by decide))) (nm_r (e' := 1) rfl
    (br_f (by decide) ⟨lc_b5 (f := 1) hj (by decide), vp_in_nI (n := 1) (by decide) (by decide), nm_r (congrArg (upd _ _) (lc_r5 (f := 1) hj (by decide))) (nm_r (e' := 2) rfl
    (br_f (by decide) ⟨lc_b5 (f := 2) hj (by decide), vp_in_nI (n := 2) (by decide) (by decide), nm_r (congrArg (upd _ _) (lc_r5 (f := 2) hj (by decide))) (nm_r (e' := 3) rfl
    (br_f (by decide) ⟨lc_b5 (f := 3) hj (by decide), vp_in_nI (n := 3) (by decide) (by decide), nm_r (congrArg (upd _ _) (lc_r5 (f := 3) hj (by decide))) (nm_r (e' := 4) rfl
    (br_f (by decide) ⟨lc_b5 (f := 4) hj (by decide), vp_in_nI (n := 4) (by decide) (by decide), nm_r (congrArg (upd _ _) (lc_r5 (f := 4) hj (by decide))) (nm_r (e' := 5) rfl
    (br_t (by decide) ⟨n + 1, h2 post h⟩))⟩))⟩))⟩))⟩))⟩
/-- present, where what is seen at the newest revision is known -/
theorem lc_yPresent {j w : Nat} {a x d e : Int32} (hj : j < 16) (hn : n ≤ 96) (hw : w < 2 ^ 31) (hl : lc_lk er ek ep ev el (nI j) (nI N) (lc_bs ba j) n = (a, nI w, x, d, e)) : ∃ se', lc_sv se' = (a, nI w, x, d, e) ∧ ∀ post : Int32 → SY → Prop, post (if w = 0 then 0 else 1) (od, (nI N), (nI n), (nI c), tm, ba, er, ek, ep, ev, el, se', co, ak, ap, av, ac, gr, tt, ex) → wpY_present post (od, (nI N), (nI n), (nI c), tm, ba, er, ek, ep, ev, el, se, co, ak, ap, av, ac, gr, tt, ex) (nI j) := by
  obtain ⟨s1, e1, h1⟩ := lc_yLook (n := n) (c := c) (N := N) (od := od) (tm := tm) (er := er) (ek := ek) (ep := ep) (ev := ev) (ak := ak) (ap := ap) (av := av) (ac := ac) (gr := gr) (tt := tt) (ex := ex) (ba := ba) (el := el) (se := se) (co := co) (j := j) (p := nI N) hj hn
  rw [hl] at e1
  refine ⟨s1, e1, fun post h => h1 _ ?_⟩
  have e : s1 1 = nI w := congrArg (fun t => t.2.1) e1
  by_cases z : w = 0
  · rw [if_pos z] at h
    exact br_t (by rw [e, z]; decide) h
  · rw [if_neg z] at h
    exact br_f (by rw [e]; exact nI_nle (by omega) hw) h
end
