def lc_at (t : Int32 × Int32 × Int32 × Int32 × Int32) : Nat → Int32
  | 0 => t.1
  | 1 => t.2.1
  | 2 => t.2.2.1
  | 3 => t.2.2.2.1
  | _ => t.2.2.2.2
theorem lc_sv_at {se : Nat → Int32} {t : Int32 × Int32 × Int32 × Int32 × Int32} (h : lc_sv se = t) {a : Nat} (ha : a < 5) : se a = lc_at t a := by
  subst h
  match a, ha with
  | 0, _ => rfl
  | 1, _ => rfl
  | 2, _ => rfl
  | 3, _ => rfl
  | 4, _ => rfl
section
variable {n c N : Nat} {od tm : Int32} {pr va cr mo ve kl op ov er ek ep ev ck cy cm cn ak ap av ac gr tt ex ba el se co : Nat → Int32}
theorem lc_xRead {a j : Nat} (ha : a < 5) (hj : j < 16) {post : Int32 → Prop} (h : post (lc_at (va j, ve j, mo j, cr j, kl j) a)) : wpX_readAttribute post ((nI n), (nI c), (nI N), od, tm, pr, va, cr, mo, ve, kl, op, ov, er, ek, ep, ev, ck, cy, cm, cn, ak, ap, av, ac, gr, tt, ex) (nI a) (nI j) := by
  have hv : vp_in (nI j) 16 := vp_in_nI hj (by decide)
  have hc : (nI j).toNatClampNeg = j := nI_clamp (by omega)
  match a, ha with
  | 0, _ => exact br_f (by decide) (br_f (by decide) (br_t (by decide) ⟨hv, by rw [hc]; exact h⟩))
  | 1, _ => exact br_f (by decide) (br_f (by decide) (br_f (by decide) (br_t (by decide) ⟨hv, by rw [hc]; exact h⟩)))
  | 2, _ => exact br_f (by decide) (br_f (by decide) (br_f (by decide) (br_f (by decide) (br_t (by decide) ⟨hv, by rw [hc]; exact h⟩))))
  | 3, _ => exact br_f (by decide) (br_f (by decide) (br_f (by decide) (br_f (by decide) (br_f (by decide) (br_t (by decide) ⟨hv, by rw [hc]; exact h⟩)))))
  | 4, _ => exact br_f (by decide) (br_t (by decide) ⟨hv, by rw [hc]; exact h⟩)
theorem lc_xLast {j : Nat} {p : Int32} {s : Int32 × Int32 × Int32 × Int32 × Int32} (hn : n ≤ 76) : ∀ m : Nat, m ≤ n → ∃ r : Int32, ((r = -1 ∧ lc_lk er ek ep ev el (nI j) p s m = s) ∨ ∃ i, i < m ∧ r = nI i ∧ lc_lk er ek ep ev el (nI j) p s m = lc_ap (er i) (ep i) (ev i) (el i) (lc_lk er ek ep ev el (nI j) p s i)) ∧ ∀ post : Int32 → Prop, post r → wX_lastEvent_7 post (nI j) p (nI n) (nI c) (nI N) od tm pr va cr mo ve kl op ov er ek ep ev ck cy cm cn ak ap av ac gr tt ex (m + 1) (nI m + (-1)) := by
  intro m
  induction m with
  | zero =>
    intro _
    exact ⟨-1, Or.inl ⟨rfl, rfl⟩, fun post hp => br_t (by decide) hp⟩
  | succ m ih =>
    intro hm
    have hv : vp_in (nI m) 76 := vp_in_nI (by omega) (by decide)
    have hc : (nI m).toNatClampNeg = m := nI_clamp (by omega)
    have h0 : ¬ nI m < 0 := nI_pos (by omega)
    rw [pk_m1]
    have go : ¬ (ek m = nI j ∧ er m ≤ p) → ∃ r : Int32, ((r = -1 ∧ lc_lk er ek ep ev el (nI j) p s (m + 1) = s) ∨ ∃ i, i < m + 1 ∧ r = nI i ∧ lc_lk er ek ep ev el (nI j) p s (m + 1) = lc_ap (er i) (ep i) (ev i) (el i) (lc_lk er ek ep ev el (nI j) p s i)) ∧ ∀ post : Int32 → Prop, post r → wX_lastEvent_7 post (nI j) p (nI n) (nI c) (nI N) od tm pr va cr mo ve kl op ov er ek ep ev ck cy cm cn ak ap av ac gr tt ex (m + 1) (nI m + (-1)) := by
      intro z
      obtain ⟨r, hr, h⟩ := ih (by omega)
      rw [lc_lk_f z]
      refine ⟨r, ?_, h⟩
      rcases hr with hr | ⟨i, hi, e1, e2⟩
      · exact Or.inl hr
      · exact Or.inr ⟨i, by omega, e1, e2⟩
    by_cases hk : ek m = nI j
    · by_cases hr : er m ≤ p
      · exact ⟨nI m, Or.inr ⟨m, by omega, rfl, lc_lk_t hk hr⟩, fun post hp => br_f h0 ⟨hv, br_t (by rw [hc]; exact hk) ⟨hv, br_f (by rw [hc]; exact Int32.not_lt.mpr hr) hp⟩⟩⟩
      · obtain ⟨r, e, h⟩ := go (fun z => hr z.2)
        exact ⟨r, e, fun post hp => br_f h0 ⟨hv, br_t (by rw [hc]; exact hk) ⟨hv, br_t (by rw [hc]; exact Int32.not_le.mp hr) (nm_e (h post hp))⟩⟩⟩
    · obtain ⟨r, e, h⟩ := go (fun z => hk z.1)
      exact ⟨r, e, fun post hp => br_f h0 ⟨hv, br_f (by rw [hc]; exact hk) (nm_e (h post hp))⟩⟩
theorem lc_xLastEvent {j : Nat} {p : Int32} {s : Int32 × Int32 × Int32 × Int32 × Int32} (hn : n ≤ 76) : ∃ r : Int32, ((r = -1 ∧ lc_lk er ek ep ev el (nI j) p s n = s) ∨ ∃ i, i < n ∧ r = nI i ∧ lc_lk er ek ep ev el (nI j) p s n = lc_ap (er i) (ep i) (ev i) (el i) (lc_lk er ek ep ev el (nI j) p s i)) ∧ ∀ post : Int32 → Prop, post r → wpX_lastEvent post ((nI n), (nI c), (nI N), od, tm, pr, va, cr, mo, ve, kl, op, ov, er, ek, ep, ev, ck, cy, cm, cn, ak, ap, av, ac, gr, tt, ex) (nI j) p := by
  obtain ⟨r, e, h⟩ := lc_xLast (n := n) (c := c) (N := N) (od := od) (tm := tm) (pr := pr) (va := va) (cr := cr) (mo := mo) (ve := ve) (kl := kl) (op := op) (ov := ov) (er := er) (ek := ek) (ep := ep) (ev := ev) (ck := ck) (cy := cy) (cm := cm) (cn := cn) (ak := ak) (ap := ap) (av := av) (ac := ac) (gr := gr) (tt := tt) (ex := ex) (el := el) (j := j) (p := p) (s := s) hn n (Nat.le_refl _)
  exact ⟨r, e, fun post hp => nm_r (Int32.sub_eq_add_neg _ _) ⟨n + 1, h post hp⟩⟩
theorem lc_events {lo hi from' : Int32} (hn : n ≤ 76) : ∀ (d i : Nat) (x : Int32), i + d = n → ∃ r : Int32, (∀ post : Int32 → Prop, post r → wX_events_27 post lo hi from' (nI n) (nI c) (nI N) od tm pr va cr mo ve kl op ov er ek ep ev ck cy cm cn ak ap av ac gr tt ex (d + 1) x (nI i)) ∧ (∀ post : Int32 → Prop, post r → wY_events_27 post lo hi from' od (nI N) (nI n) (nI c) tm ba er ek ep ev el se co ak ap av ac gr tt ex (d + 1) x (nI i)) := by
  intro d
  induction d with
  | zero =>
    intro i x hd
    have e : i = n := by omega
    subst e
    exact ⟨x, fun post hp => br_t (Int32.le_refl _) hp, fun post hp => br_t (Int32.le_refl _) hp⟩
  | succ d ih =>
    intro i x hd
    have hg : ¬ nI n ≤ nI i := nI_ge (by omega) (by omega)
    have hv : vp_in (nI i) 76 := vp_in_nI (by omega) (by decide)
    have hw : vp_in (nI i) 96 := vp_in_nI (by omega) (by decide)
    obtain ⟨r, hX, hY⟩ := ih (i + 1) x (by omega)
    by_cases a : er (nI i).toNatClampNeg < from'
    · refine ⟨r, fun post hp => br_f hg ⟨hv, br_t a (nm_r (nI_1 i) (hX post hp))⟩, fun post hp => br_f hg ⟨hw, ?_⟩⟩
      by_cases b : ek (nI i).toNatClampNeg < lo
      · exact br_t b (nm_r (nI_1 i) (hY post hp))
      · by_cases g : hi < ek (nI i).toNatClampNeg
        · exact br_f b ⟨hw, br_t g (nm_r (nI_1 i) (hY post hp))⟩
        · exact br_f b ⟨hw, br_f g ⟨hw, br_t a (nm_r (nI_1 i) (hY post hp))⟩⟩
    · by_cases b : ek (nI i).toNatClampNeg < lo
      · exact ⟨r, fun post hp => br_f hg ⟨hv, br_f a ⟨hv, br_t b (nm_r (nI_1 i) (hX post hp))⟩⟩, fun post hp => br_f hg ⟨hw, br_t b (nm_r (nI_1 i) (hY post hp))⟩⟩
      · by_cases g : hi < ek (nI i).toNatClampNeg
        · exact ⟨r, fun post hp => br_f hg ⟨hv, br_f a ⟨hv, br_f b ⟨hv, br_t g (nm_r (nI_1 i) (hX post hp))⟩⟩⟩, fun post hp => br_f hg ⟨hw, br_f b ⟨hw, br_t g (nm_r (nI_1 i) (hY post hp))⟩⟩⟩
        · obtain ⟨r, hX, hY⟩ := ih (i + 1) (x + 1) (by omega)
          exact ⟨r, fun post hp => br_f hg ⟨hv, br_f a ⟨hv, br_f b ⟨hv, br_f g (nm_e (nm_r (nI_1 i) (hX post hp)))⟩⟩⟩, fun post hp => br_f hg ⟨hw, br_f b ⟨hw, br_f g ⟨hw, br_f a (nm_e (nm_r (nI_1 i) (hY post hp)))⟩⟩⟩⟩
theorem lc_C_w {a q b : Nat} {x : Int32} (hc : c < 4) (ha : a < 4) (hq : q < 16) (hb : b < 4) (h : lc_C c ck cy cm cn co) : lc_C (c + 1) (upd ck c (nI a)) (upd cy c (nI q)) (upd cm c (nI b)) (upd cn c x) (upd (upd (upd (upd co (c * 4) (nI a)) (c * 4 + 1) (nI q)) (c * 4 + 2) (nI b)) (c * 4 + 3) x) := by
  obtain ⟨_, h⟩ := h
  refine ⟨by omega, fun i hi => ?_⟩
  by_cases e : i = c
  · subst e
    simp only [pk_us]
    refine ⟨⟨a, ha, rfl⟩, ⟨q, hq, rfl⟩, ⟨b, hb, rfl⟩, ?_, ?_, ?_, trivial⟩
    · rw [pk_un (by omega), pk_un (by omega), pk_un (by omega), pk_us]
    · rw [pk_un (by omega), pk_un (by omega), pk_us]
    · rw [pk_un (by omega), pk_us]
  · obtain ⟨g1, g2, g3, g4, g5, g6, g7⟩ := h i (by omega)
    simp only [pk_un e]
    refine ⟨g1, g2, g3, ?_, ?_, ?_, ?_⟩
    · rw [pk_un (by omega), pk_un (by omega), pk_un (by omega), pk_un (by omega)]; exact g4
    · rw [pk_un (by omega), pk_un (by omega), pk_un (by omega), pk_un (by omega)]; exact g5
    · rw [pk_un (by omega), pk_un (by omega), pk_un (by omega), pk_un (by omega)]; exact g6
    · rw [pk_un (by omega), pk_un (by omega), pk_un (by omega), pk_un (by omega)]; exact g7
theorem lc_ix4 (j f : Nat) : nI j * 4 + nI f = nI (j * 4 + f) := by
  rw [show (4 : Int32) = nI 4 from rfl, pk_mul, nI_add]
theorem lc_ix40 (j : Nat) : nI j * 4 = nI (j * 4) := by
  rw [show (4 : Int32) = nI 4 from rfl, pk_mul]
theorem lc_u4 {a : Nat → Int32} {j f : Nat} {x : Int32} (h : j * 4 + f < 2 ^ 31) : upd a (nI j * 4 + nI f).toNatClampNeg x = upd a (j * 4 + f) x := by rw [lc_ix4, nI_clamp h]
theorem lc_u40 {a : Nat → Int32} {j : Nat} {x : Int32} (h : j * 4 < 2 ^ 31) : upd a (nI j * 4).toNatClampNeg x = upd a (j * 4) x := by rw [lc_ix40, nI_clamp h]
theorem lc_in4 {j f M : Nat} (h : j * 4 + f < M) (hM : M < 2 ^ 31) : vp_in (nI j * 4 + nI f) M := by rw [lc_ix4]; exact vp_in_nI h hM
theorem lc_in40 {j M : Nat} (h : j * 4 < M) (hM : M < 2 ^ 31) : vp_in (nI j * 4) M := by rw [lc_ix40]; exact vp_in_nI h hM
end
theorem i_vc_attribute {k : Nat} {u : SX} {v : SY} (I : i_Rel k u v) (hk : k + 5 ≤ 2560) (v1 : Int32) (v2 : Int32) : wpX_attribute (fun r => wpY_attribute (fun r' v' => r' = r ∧ i_Rel (k + 5) u v') v v1 v2) u v1 v2 := by
  obtain ⟨n, c, N, od, tm, pr, va, cr, mo, ve, kl, op, ov, er, ek, ep, ev, ck, cy, cm, cn, ak, ap, av, ac, gr, tt, ex, ba, el, se, co, rfl, rfl, h1, h2, h3, h4, h5⟩ := I
  unfold wpX_attribute wpY_attribute
  rcases lc_key (n := n) (c := c) (N := N) (od := od) (tm := tm) (ba := ba) (er := er) (ek := ek) (ep := ep) (ev := ev) (el := el) (se := se) (co := co) (ak := ak) (ap := ap) (av := av) (ac := ac) (gr := gr) (tt := tt) (ex := ex) v2 with ⟨hx, hy⟩ | ⟨j, hj, rfl, hx, hy⟩
  · exact hx _ (br_t rfl (hy _ (br_t rfl ⟨rfl, i_up (lc_mk h1 h2 h3 h4 h5)⟩)))
  · rcases pk_ix v1 (n := 5) (by decide) with h | h | ⟨a, ha, rfl⟩
    · exact hx _ (br_f lc_10 (br_t h (hy _ (br_f lc_10 (br_t h ⟨rfl, i_up (lc_mk h1 h2 h3 h4 h5)⟩)))))
    · have h0 : ¬ v1 < 0 := Int32.not_lt.mpr (Int32.le_trans (nI_pos' (n := 5) (by decide)) h)
      have h4' : ¬ v1 ≤ 4 := fun z => absurd (Int32.le_trans h z) (by decide)
      exact hx _ (br_f lc_10 (br_f h0 (br_f h4' (hy _ (br_f lc_10 (br_f h0 (br_f h4' ⟨rfl, i_up (lc_mk h1 h2 h3 h4 h5)⟩)))))))
    · have h0 : ¬ nI a < 0 := nI_pos (by omega)
      have h4' : nI a ≤ 4 := nI_le (b := 4) (by omega) (by decide)
      obtain ⟨s1, e1, hl⟩ := lc_yLook (n := n) (c := c) (N := N) (od := od) (tm := tm) (ba := ba) (er := er) (ek := ek) (ep := ep) (ev := ev) (el := el) (se := se) (co := co) (ak := ak) (ap := ap) (av := av) (ac := ac) (gr := gr) (tt := tt) (ex := ex) (p := nI N) hj (by omega)
      have e2 := e1
      rw [h3.2.2.2.2.2.1 j hj] at e2
      exact hx _ (br_f lc_10 (br_f h0 (br_t h4' (lc_xRead ha hj (hy _ (br_f lc_10 (br_f h0 (br_t h4' (hl _ ⟨vp_in_nI ha (by decide), by rw [nI_clamp (by omega)]; exact lc_sv_at e2 ha, i_up (lc_mk h1 h2 h3 h4 h5)⟩)))))))))
theorem i_vc_get {k : Nat} {u : SX} {v : SY} (I : i_Rel k u v) (hk : k + 5 ≤ 2560) (v1 : Int32) (v2 : Int32) : wpX_get (fun r => wpY_get (fun r' v' => r' = r ∧ i_Rel (k + 5) u v') v v1 v2) u v1 v2 := by
  obtain ⟨n, c, N, od, tm, pr, va, cr, mo, ve, kl, op, ov, er, ek, ep, ev, ck, cy, cm, cn, ak, ap, av, ac, gr, tt, ex, ba, el, se, co, rfl, rfl, h1, h2, h3, h4, h5⟩ := I
  unfold wpX_get wpY_get
  rcases lc_key (n := n) (c := c) (N := N) (od := od) (tm := tm) (ba := ba) (er := er) (ek := ek) (ep := ep) (ev := ev) (el := el) (se := se) (co := co) (ak := ak) (ap := ap) (av := av) (ac := ac) (gr := gr) (tt := tt) (ex := ex) v1 with ⟨hx, hy⟩ | ⟨j, hj, rfl, hx, hy⟩
  · exact hx _ (br_t rfl (hy _ (br_t rfl ⟨rfl, i_up (lc_mk h1 h2 h3 h4 h5)⟩)))
  · by_cases a : v2 < od
    · exact hx _ (br_f lc_10 (br_t a (br_t rfl (hy _ (br_f lc_10 (br_t a ⟨rfl, i_up (lc_mk h1 h2 h3 h4 h5)⟩))))))
    · by_cases b : v2 ≤ nI N
      · obtain ⟨s1, e1, hl⟩ := lc_yLook (n := n) (c := c) (N := N) (od := od) (tm := tm) (ba := ba) (er := er) (ek := ek) (ep := ep) (ev := ev) (el := el) (se := se) (co := co) (ak := ak) (ap := ap) (av := av) (ac := ac) (gr := gr) (tt := tt) (ex := ex) (p := v2) hj (by omega)
        obtain ⟨r, e, hL⟩ := lc_xLastEvent (n := n) (c := c) (N := N) (od := od) (tm := tm) (pr := pr) (va := va) (cr := cr) (mo := mo) (ve := ve) (kl := kl) (op := op) (ov := ov) (er := er) (ek := ek) (ep := ep) (ev := ev) (ck := ck) (cy := cy) (cm := cm) (cn := cn) (ak := ak) (ap := ap) (av := av) (ac := ac) (gr := gr) (tt := tt) (ex := ex) (el := el) (j := j) (p := v2) (s := lc_bs ba j) (by omega)
        have HY : ∀ post : Int32 → SY → Prop, post (lc_lk er ek ep ev el (nI j) v2 (lc_bs ba j) n).1 (od, (nI N), (nI n), (nI c), tm, ba, er, ek, ep, ev, el, s1, co, ak, ap, av, ac, gr, tt, ex) → wpY_look (fun u => post (u.2.2.2.2.2.2.2.2.2.2.2.1 0) u) (od, (nI N), (nI n), (nI c), tm, ba, er, ek, ep, ev, el, se, co, ak, ap, av, ac, gr, tt, ex) (nI j) v2 := fun post hp => hl _ (by rw [← e1] at hp; exact hp)
        rcases e with ⟨rfl, e⟩ | ⟨i, hi, rfl, e⟩
        · refine hx _ (br_f lc_10 (br_f a (br_f (Int32.not_lt.mpr b) (br_f lc_10 (hL _ (br_t rfl ⟨vp_in_nI hj (by decide), hy _ (br_f lc_10 (br_f a (br_t b (hl _ ⟨?_, i_up (lc_mk h1 h2 h3 h4 h5)⟩))))⟩))))))
          rw [e] at e1
          rw [nI_clamp (by omega), (h3.2.2.2.2.1 j hj).2.1]
          exact congrArg (fun t => t.1) e1
        · refine hx _ (br_f lc_10 (br_f a (br_f (Int32.not_lt.mpr b) (br_f lc_10 (hL _ (br_f ?_ ⟨vp_in_nI (by omega) (by decide), hy _ (br_f lc_10 (br_f a (br_t b (hl _ ⟨?_, i_up (lc_mk h1 h2 h3 h4 h5)⟩))))⟩))))))
          · exact fun z => absurd (show nI i < 0 by rw [z]; decide) (nI_pos (by omega))
          · rw [e] at e1
            rw [nI_clamp (by omega)]
            have e2 : s1 0 = _ := congrArg (fun t => t.1) e1
            rw [e2]
            rcases h3.2.2.2.1 i hi with ⟨z, z'⟩ | z
            · rw [lc_ap0 z, z']
            · rw [lc_ap1 (by rw [z]; exact lc_10)]
      · exact hx _ (br_f lc_10 (br_f a (br_t (Int32.not_le.mp b) (br_t rfl (hy _ (br_f lc_10 (br_f a (br_f b ⟨rfl, i_up (lc_mk h1 h2 h3 h4 h5)⟩))))))))
theorem i_vc_has {k : Nat} {u : SX} {v : SY} (I : i_Rel k u v) (hk : k + 5 ≤ 2560) (v1 : Int32) (v2 : Int32) : wpX_has (fun r => wpY_has (fun r' v' => r' = r ∧ i_Rel (k + 5) u v') v v1 v2) u v1 v2 := by
  obtain ⟨n, c, N, od, tm, pr, va, cr, mo, ve, kl, op, ov, er, ek, ep, ev, ck, cy, cm, cn, ak, ap, av, ac, gr, tt, ex, ba, el, se, co, rfl, rfl, h1, h2, h3, h4, h5⟩ := I
  unfold wpX_has wpY_has
  rcases lc_key (n := n) (c := c) (N := N) (od := od) (tm := tm) (ba := ba) (er := er) (ek := ek) (ep := ep) (ev := ev) (el := el) (se := se) (co := co) (ak := ak) (ap := ap) (av := av) (ac := ac) (gr := gr) (tt := tt) (ex := ex) v1 with ⟨hx, hy⟩ | ⟨j, hj, rfl, hx, hy⟩
  · exact hx _ (br_t rfl (hy _ (br_t rfl ⟨rfl, i_up (lc_mk h1 h2 h3 h4 h5)⟩)))
  · by_cases a : v2 < od
    · exact hx _ (br_f lc_10 (br_t a (br_t rfl (hy _ (br_f lc_10 (br_t a ⟨rfl, i_up (lc_mk h1 h2 h3 h4 h5)⟩))))))
    · by_cases b : v2 ≤ nI N
      · obtain ⟨s1, e1, hl⟩ := lc_yLook (n := n) (c := c) (N := N) (od := od) (tm := tm) (ba := ba) (er := er) (ek := ek) (ep := ep) (ev := ev) (el := el) (se := se) (co := co) (ak := ak) (ap := ap) (av := av) (ac := ac) (gr := gr) (tt := tt) (ex := ex) (p := v2) hj (by omega)
        obtain ⟨r, e, hL⟩ := lc_xLastEvent (n := n) (c := c) (N := N) (od := od) (tm := tm) (pr := pr) (va := va) (cr := cr) (mo := mo) (ve := ve) (kl := kl) (op := op) (ov := ov) (er := er) (ek := ek) (ep := ep) (ev := ev) (ck := ck) (cy := cy) (cm := cm) (cn := cn) (ak := ak) (ap := ap) (av := av) (ac := ac) (gr := gr) (tt := tt) (ex := ex) (el := el) (j := j) (p := v2) (s := lc_bs ba j) (by omega)
        obtain ⟨⟨w, ew, hw⟩, e3, e4⟩ := h3.2.2.2.2.1 j hj
        have hs : s1 1 = (lc_lk er ek ep ev el (nI j) v2 (lc_bs ba j) n).2.1 := congrArg (fun t => t.2.1) e1
        have fin : ∀ x : Int32, ((x = 0 ∧ s1 1 ≤ 0) ∨ (x = 1 ∧ ¬ s1 1 ≤ 0)) → (narrow .boolean (.int x) = .int x ∧ wpY_has (fun r' v' => r' = x ∧ i_Rel (k + 5) ((nI n), (nI c), (nI N), od, tm, pr, va, cr, mo, ve, kl, op, ov, er, ek, ep, ev, ck, cy, cm, cn, ak, ap, av, ac, gr, tt, ex) v') (od, (nI N), (nI n), (nI c), tm, ba, er, ek, ep, ev, el, se, co, ak, ap, av, ac, gr, tt, ex) (nI j) v2) := by
          intro x hxx
          unfold wpY_has
          rcases hxx with ⟨rfl, z⟩ | ⟨rfl, z⟩
          · exact ⟨lc_fb (Or.inl rfl), hy _ (br_f lc_10 (br_f a (br_t b (hl _ (br_t z ⟨rfl, i_up (lc_mk h1 h2 h3 h4 h5)⟩)))))⟩
          · exact ⟨lc_fb (Or.inr rfl), hy _ (br_f lc_10 (br_f a (br_t b (hl _ (br_f z ⟨rfl, i_up (lc_mk h1 h2 h3 h4 h5)⟩)))))⟩
        rcases e with ⟨rfl, e⟩ | ⟨i, hi, rfl, e⟩
        · refine hx _ (br_f lc_10 (br_f a (br_f (Int32.not_lt.mpr b) (br_f lc_10 (hL _ (br_t rfl ⟨vp_in_nI hj (by decide), fin _ ?_⟩))))))
          rw [nI_clamp (by omega), hs, e, e4]
          show _ ∧ ba (j * 5 + 1) ≤ 0 ∨ _ ∧ ¬ ba (j * 5 + 1) ≤ 0
          rw [ew]
          by_cases z : w = 0
          · rw [z]; exact Or.inl ⟨rfl, by decide⟩
          · rw [if_neg (nI_ne0 (by omega) (by omega))]; exact Or.inr ⟨rfl, nI_nle (by omega) (by omega)⟩
        · refine hx _ (br_f lc_10 (br_f a (br_f (Int32.not_lt.mpr b) (br_f lc_10 (hL _ (br_f ?_ ⟨vp_in_nI (by omega) (by decide), fin _ ?_⟩))))))
          · exact fun z => absurd (show nI i < 0 by rw [z]; decide) (nI_pos (by omega))
          · rw [nI_clamp (by omega), hs, e]
            rcases h3.2.2.2.1 i hi with ⟨z, z'⟩ | z
            · rw [lc_ap0 z, z]; exact Or.inl ⟨rfl, by decide⟩
            · rw [lc_ap1 (by rw [z]; exact lc_10), z]
              obtain ⟨w', hw', ew'⟩ := lc_lk_v (er := er) (ek := ek) (ep := ep) (ev := ev) (el := el) (key := nI j) (p := v2) (s := lc_bs ba j) (w := w) ew i
              refine Or.inr ⟨rfl, ?_⟩
              show ¬ (lc_lk er ek ep ev el (nI j) v2 (lc_bs ba j) i).2.1 + 1 ≤ 0
              rw [ew', nI_1]
              exact nI_nle (by omega) (by omega)
      · exact hx _ (br_f lc_10 (br_f a (br_t (Int32.not_le.mp b) (br_t rfl (hy _ (br_f lc_10 (br_f a (br_f b ⟨rfl, i_up (lc_mk h1 h2 h3 h4 h5)⟩))))))))
theorem i_vc_events {k : Nat} {u : SX} {v : SY} (I : i_Rel k u v) (hk : k + 5 ≤ 2560) (v1 : Int32) (v2 : Int32) (v3 : Int32) : wpX_events (fun r => wpY_events (fun r' => r' = r ∧ i_Rel (k + 5) u v) v v1 v2 v3) u v1 v2 v3 := by
  have J := i_up I
  obtain ⟨n, c, N, od, tm, pr, va, cr, mo, ve, kl, op, ov, er, ek, ep, ev, ck, cy, cm, cn, ak, ap, av, ac, gr, tt, ex, ba, el, se, co, rfl, rfl, h1, h2, h3, h4, h5⟩ := I
  by_cases a : v3 ≤ od
  · exact br_t a (br_t a ⟨rfl, J⟩)
  · by_cases b : v3 ≤ nI N + 1
    · obtain ⟨r, hX, hY⟩ := lc_events (n := n) (c := c) (N := N) (od := od) (tm := tm) (pr := pr) (va := va) (cr := cr) (mo := mo) (ve := ve) (kl := kl) (op := op) (ov := ov) (er := er) (ek := ek) (ep := ep) (ev := ev) (ck := ck) (cy := cy) (cm := cm) (cn := cn) (ak := ak) (ap := ap) (av := av) (ac := ac) (gr := gr) (tt := tt) (ex := ex) (ba := ba) (el := el) (se := se) (co := co) (lo := v1) (hi := v2) (from' := v3) (by omega) n 0 0 (by omega)
      exact br_f a (br_t b ⟨n + 1, hX _ (br_f a (br_t b ⟨n + 1, hY _ ⟨rfl, J⟩⟩))⟩)
    · exact br_f a (br_f b (br_f a (br_f b ⟨rfl, J⟩)))
theorem i_vc_when {k : Nat} {u : SX} {v : SY} (I : i_Rel k u v) (hk : k + 5 ≤ 2560) (v1 : Int32) (v2 : Int32) (v3 : Int32) (v4 : Int32) : wpX_when (fun r u' => wpY_when (fun r' v' => r' = r ∧ i_Rel (k + 5) u' v') v v1 v2 v3 v4) u v1 v2 v3 v4 := by
  obtain ⟨n, c, N, od, tm, pr, va, cr, mo, ve, kl, op, ov, er, ek, ep, ev, ck, cy, cm, cn, ak, ap, av, ac, gr, tt, ex, ba, el, se, co, rfl, rfl, h1, h2, h3, h4, h5⟩ := I
  unfold wpX_when wpY_when
  rcases lc_key (n := n) (c := c) (N := N) (od := od) (tm := tm) (ba := ba) (er := er) (ek := ek) (ep := ep) (ev := ev) (el := el) (se := se) (co := co) (ak := ak) (ap := ap) (av := av) (ac := ac) (gr := gr) (tt := tt) (ex := ex) v2 with ⟨hx, hy⟩ | ⟨j, hj, rfl, hx, hy⟩
  · exact hx _ (br_t rfl (hy _ (br_t rfl ⟨rfl, i_up (lc_mk h1 h2 h3 h4 h5)⟩)))
  · by_cases a1 : v1 < 0
    · exact hx _ (br_f lc_10 (br_t a1 (hy _ (br_f lc_10 (br_t a1 ⟨rfl, i_up (lc_mk h1 h2 h3 h4 h5)⟩)))))
    · by_cases a2 : 3 < v1
      · exact hx _ (br_f lc_10 (br_f a1 (br_t a2 (hy _ (br_f lc_10 (br_f a1 (br_t a2 ⟨rfl, i_up (lc_mk h1 h2 h3 h4 h5)⟩)))))))
      · by_cases a3 : v3 < 0
        · exact hx _ (br_f lc_10 (br_f a1 (br_f a2 (br_t a3 (hy _ (br_f lc_10 (br_f a1 (br_f a2 (br_t a3 ⟨rfl, i_up (lc_mk h1 h2 h3 h4 h5)⟩)))))))))
        · by_cases a4 : v3 ≤ 3
          · by_cases a5 : c < 4
            · obtain ⟨a, ha, rfl⟩ := nI_of2 (x := v1) (M := 3) (n := 3) (by decide) a1 (Int32.not_lt.mp a2)
              obtain ⟨b, hb, rfl⟩ := nI_of2 (x := v3) (M := 3) (n := 3) (by decide) a3 a4
              have q1 : nI c < 4 := nI_lt (b := 4) a5 (by decide)
              have q2 : ¬ nI c = 4 := fun z => by
                have := (nI_eq (a := c) (b := 4) (by omega) (by decide)).mp z
                omega
              have hv : vp_in (nI c) 4 := vp_in_nI a5 (by decide)
              have hb' : c < 2 ^ 31 := by omega
              exact hx _ (br_f lc_10 (br_f a1 (br_f a2 (br_f a3 (br_t a4 (br_t q1 ⟨hv, nm_r (lc_u hb') ⟨hv, nm_r (lc_u hb') ⟨hv, nm_r (lc_u hb') ⟨hv, nm_r (lc_u hb') (nm_r (nI_1 c) (hy _ (br_f lc_10 (br_f a1 (br_f a2 (br_f a3 (br_t a4 (br_f q2
                ⟨lc_in40 (by omega) (by decide), nm_r (lc_u40 (by omega)) ⟨lc_in4 (f := 1) (by omega) (by decide), nm_r (lc_u4 (f := 1) (by omega)) ⟨lc_in4 (f := 2) (by omega) (by decide), nm_r (lc_u4 (f := 2) (by omega)) ⟨lc_in4 (f := 3) (by omega) (by decide), nm_r (lc_u4 (f := 3) (by omega)) (nm_r (nI_1 c) ⟨rfl, i_up (lc_mk h1 h2 h3 (lc_C_w a5 (by omega) hj (by omega) h4) h5)⟩)⟩⟩⟩⟩))))))))⟩⟩⟩⟩))))))
            · have e : c = 4 := by have := h4.1; omega
              subst e
              exact hx _ (br_f lc_10 (br_f a1 (br_f a2 (br_f a3 (br_t a4 (br_f (by decide) (hy _ (br_f lc_10 (br_f a1 (br_f a2 (br_f a3 (br_t a4 (br_t (by decide) ⟨rfl, i_up (lc_mk h1 h2 h3 h4 h5)⟩)))))))))))))
          · exact hx _ (br_f lc_10 (br_f a1 (br_f a2 (br_f a3 (br_f a4 (hy _ (br_f lc_10 (br_f a1 (br_f a2 (br_f a3 (br_f a4 ⟨rfl, i_up (lc_mk h1 h2 h3 h4 h5)⟩)))))))))))
