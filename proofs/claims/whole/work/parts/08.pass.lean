section
variable {n c N : Nat} {od tm : Int32} {pr va cr mo ve kl op ov er ek ep ev ck cy cm cn ak ap av ac gr tt ex ba el se co : Nat → Int32}
/-- the first lease that has run out, both sides in step -/
theorem lc_first : ∀ (d j : Nat) (x : Int32), j + d = 4 → (x = -1 ∨ ∃ l, l < 4 ∧ x = nI l ∧ ¬ gr l = 0) →
    ∃ r : Int32, (r = -1 ∨ ∃ l, l < 4 ∧ r = nI l ∧ ¬ gr l = 0) ∧ (∀ post : Int32 → Prop, post r → wX_firstExpired_4 post (nI n) (nI c) (nI N) od tm pr va cr mo ve kl op ov er ek ep ev ck cy cm cn ak ap av ac gr tt ex (d + 1) x (nI j)) ∧
      (∀ (post : Int32 → SY → Prop) J27 (x2 x3 : Int32), wY_pass_38 post J27 x2 x3 od (nI N) (nI n) (nI c) tm ba er ek ep ev el se co ak ap av ac gr tt ex 1 r (nI 4) → wY_pass_38 post J27 x2 x3 od (nI N) (nI n) (nI c) tm ba er ek ep ev el se co ak ap av ac gr tt ex (d + 1) x (nI j)) := by
  intro d
  induction d with
  | zero =>
    intro j x hd hx
    have e : j = 4 := by omega
    subst e
    exact ⟨x, hx, fun post hp => br_t (nI_le (a := 4) (b := 4) (by decide) (by decide)) hp, fun post J27 x2 x3 h => h⟩
  | succ d ih =>
    intro j x hd hx
    have hg : ¬ (4 : Int32) ≤ nI j := nI_ge (b := 4) (by omega) (by decide)
    have hv : vp_in (nI j) 4 := vp_in_nI (by omega) (by decide)
    have hc : (nI j).toNatClampNeg = j := nI_clamp (by omega)
    by_cases g : gr j = 0
    · have g' : gr (nI j).toNatClampNeg = 0 := by rw [hc]; exact g
      obtain ⟨r, hr, hX, hY⟩ := ih (j + 1) x (by omega) hx
      exact ⟨r, hr, fun post hp => br_f hg ⟨hv, br_t g' (nm_r (nI_1 j) (hX post hp))⟩, fun post J27 x2 x3 h => br_f hg ⟨hv, br_t g' (br_t rfl (nm_r (nI_1 j) (hY post J27 x2 x3 h)))⟩⟩
    · have g' : ¬ gr (nI j).toNatClampNeg = 0 := by rw [hc]; exact g
      by_cases t : ex (nI j).toNatClampNeg ≤ tm
      · have t' : ¬ tm < ex (nI j).toNatClampNeg := Int32.not_lt.mpr t
        rcases hx with rfl | ⟨l, hl, rfl, hgl⟩
        · obtain ⟨r, hr, hX, hY⟩ := ih (j + 1) (nI j) (by omega) (Or.inr ⟨j, by omega, rfl, g⟩)
          exact ⟨r, hr, fun post hp => br_f hg ⟨hv, br_f g' ⟨hv, br_t t (br_t rfl (nm_r (nI_1 j) (hX post hp)))⟩⟩, fun post J27 x2 x3 h => br_f hg ⟨hv, br_f g' ⟨hv, br_f t' (br_f lc_10 (br_t lc_m1 (nm_r (nI_1 j) (hY post J27 x2 x3 h))))⟩⟩⟩
        · have hvl : vp_in (nI l) 4 := vp_in_nI hl (by decide)
          have h0 : ¬ nI l < 0 := nI_pos (by omega)
          have hm : ¬ nI l = -1 := fun z => lc_m1l hl z.symm
          by_cases q : ex (nI l).toNatClampNeg ≤ ex (nI j).toNatClampNeg
          · obtain ⟨r, hr, hX, hY⟩ := ih (j + 1) (nI l) (by omega) (Or.inr ⟨l, hl, rfl, hgl⟩)
            exact ⟨r, hr, fun post hp => br_f hg ⟨hv, br_f g' ⟨hv, br_t t (br_f hm ⟨hv, hvl, br_t q (nm_r (nI_1 j) (hX post hp))⟩)⟩⟩, fun post J27 x2 x3 h => br_f hg ⟨hv, br_f g' ⟨hv, br_f t' (br_f lc_10 (br_f h0 ⟨hv, hvl, br_t q (nm_r (nI_1 j) (hY post J27 x2 x3 h))⟩))⟩⟩⟩
          · obtain ⟨r, hr, hX, hY⟩ := ih (j + 1) (nI j) (by omega) (Or.inr ⟨j, by omega, rfl, g⟩)
            exact ⟨r, hr, fun post hp => br_f hg ⟨hv, br_f g' ⟨hv, br_t t (br_f hm ⟨hv, hvl, br_f q (nm_r (nI_1 j) (hX post hp))⟩)⟩⟩, fun post J27 x2 x3 h => br_f hg ⟨hv, br_f g' ⟨hv, br_f t' (br_f lc_10 (br_f h0 ⟨hv, hvl, br_f q (nm_r (nI_1 j) (hY post J27 x2 x3 h))⟩))⟩⟩⟩
      · have t' : tm < ex (nI j).toNatClampNeg := Int32.not_le.mp t
        obtain ⟨r, hr, hX, hY⟩ := ih (j + 1) x (by omega) hx
        exact ⟨r, hr, fun post hp => br_f hg ⟨hv, br_f g' ⟨hv, br_f t (nm_r (nI_1 j) (hX post hp))⟩⟩, fun post J27 x2 x3 h => br_f hg ⟨hv, br_f g' ⟨hv, br_t t' (br_t rfl (nm_r (nI_1 j) (hY post J27 x2 x3 h)))⟩⟩⟩
/-- no lease has run out: the reference's rounds change nothing -/
theorem lc_passIdle {x2 : Int32} (hF : ∀ (post : Int32 → SY → Prop) J27 (x2 x3 : Int32), wY_pass_38 post J27 x2 x3 od (nI N) (nI n) (nI c) tm ba er ek ep ev el se co ak ap av ac gr tt ex 1 (-1) (nI 4) → wY_pass_38 post J27 x2 x3 od (nI N) (nI n) (nI c) tm ba er ek ep ev el se co ak ap av ac gr tt ex (4 + 1) (-1) (nI 0)) : ∀ (d j : Nat), j + d = 4 → ∀ post : Int32 → SY → Prop, post x2 (od, (nI N), (nI n), (nI c), tm, ba, er, ek, ep, ev, el, se, co, ak, ap, av, ac, gr, tt, ex) → wY_pass_27 post (d + 1) x2 (nI j) od (nI N) (nI n) (nI c) tm ba er ek ep ev el se co ak ap av ac gr tt ex := by
  intro d
  induction d with
  | zero =>
    intro j hd post hp
    have e : j = 4 := by omega
    subst e
    exact br_t (nI_le (a := 4) (b := 4) (by decide) (by decide)) hp
  | succ d ih =>
    intro j hd post hp
    have hg : ¬ (4 : Int32) ≤ nI j := nI_ge (b := 4) (by omega) (by decide)
    exact br_f hg ⟨4 + 1, hF _ _ _ _ (br_t (nI_le (a := 4) (b := 4) (by decide) (by decide)) (br_t lc_m1 (nm_r (nI_1 j) (ih (j + 1) (by omega) post hp))))⟩
end
theorem lc_passLoop : ∀ (d j B K : Nat) (x2 : Int32) (n c N : Nat) (od tm : Int32) (pr va cr mo ve kl op ov er ek ep ev ck cy cm cn ak ap av ac gr tt ex ba el se co : Nat → Int32), j + d = 4 → B + d < 2 ^ 29 → K + 16 * d < 2 ^ 29 → N ≤ B → n + lc_pc pr 16 ≤ 76 → lc_R n N K pr va cr mo ve kl op ov er ek ep ev ba el → lc_C c ck cy cm cn co → lc_A ak ap av ac →
    ∃ (r : Int32) (u' : SX) (v' : SY), lc_Rel (B + d) (K + 16 * d) u' v' ∧ (∀ post : Int32 → SX → Prop, post r u' → wX_pass_27 post (d + 1) x2 (nI j) (nI n) (nI c) (nI N) od tm pr va cr mo ve kl op ov er ek ep ev ck cy cm cn ak ap av ac gr tt ex) ∧ (∀ post : Int32 → SY → Prop, post r v' → wY_pass_27 post (d + 1) x2 (nI j) od (nI N) (nI n) (nI c) tm ba er ek ep ev el se co ak ap av ac gr tt ex) := by
  intro d
  induction d with
  | zero =>
    intro j B K x2 n c N od tm pr va cr mo ve kl op ov er ek ep ev ck cy cm cn ak ap av ac gr tt ex ba el se co hd hB hK h1 h2 h3 h4 h5
    have e : j = 4 := by omega
    subst e
    have h44 : (4 : Int32) ≤ nI 4 := nI_le (a := 4) (b := 4) (by decide) (by decide)
    exact ⟨x2, _, _, lc_mk (od := od) (tm := tm) (gr := gr) (tt := tt) (ex := ex) (se := se) (by omega) h2 h3 h4 h5, fun post hp => br_t h44 hp, fun post hp => br_t h44 hp⟩
  | succ d ih =>
    intro j B K x2 n c N od tm pr va cr mo ve kl op ov er ek ep ev ck cy cm cn ak ap av ac gr tt ex ba el se co hd hB hK h1 h2 h3 h4 h5
    have hg : ¬ (4 : Int32) ≤ nI j := nI_ge (b := 4) (by omega) (by decide)
    have h44 : (4 : Int32) ≤ nI 4 := nI_le (a := 4) (b := 4) (by decide) (by decide)
    obtain ⟨r, hr, hX, hY⟩ := lc_first (n := n) (c := c) (N := N) (od := od) (tm := tm) (pr := pr) (va := va) (cr := cr) (mo := mo) (ve := ve) (kl := kl) (op := op) (ov := ov) (er := er) (ek := ek) (ep := ep) (ev := ev) (ck := ck) (cy := cy) (cm := cm) (cn := cn) (ak := ak) (ap := ap) (av := av) (ac := ac) (gr := gr) (tt := tt) (ex := ex) (ba := ba) (el := el) (se := se) (co := co) 4 0 (-1) rfl (Or.inl rfl)
    rcases hr with rfl | ⟨l, hl, rfl, hgl⟩
    · refine ⟨x2, _, _, lc_mk (B := B + (d + 1)) (K := K + 16 * (d + 1)) (od := od) (tm := tm) (gr := gr) (tt := tt) (ex := ex) (se := se) (by omega) h2 (lc_R_K (by omega) h3) h4 h5, fun post hp => br_f hg ⟨4 + 1, hX _ (br_t rfl hp)⟩, lc_passIdle hY (d + 1) j hd⟩
    · have h0 : ¬ nI l < 0 := nI_pos (by omega)
      have hm : ¬ nI l = -1 := fun z => lc_m1l hl z.symm
      obtain ⟨r1, u1, v1, R1, hX1, hY1⟩ := lc_end (n := n) (c := c) (N := N) (od := od) (tm := tm) (pr := pr) (va := va) (cr := cr) (mo := mo) (ve := ve) (kl := kl) (op := op) (ov := ov) (er := er) (ek := ek) (ep := ep) (ev := ev) (ck := ck) (cy := cy) (cm := cm) (cn := cn) (ak := ak) (ap := ap) (av := av) (ac := ac) (gr := gr) (tt := tt) (ex := ex) (ba := ba) (el := el) (se := se) (co := co) hl hgl (show B < 2 ^ 30 by omega) (show K + 16 < 2 ^ 30 by omega) h1 h2 h3 h4 h5
      obtain ⟨n, c, N, od, tm, pr, va, cr, mo, ve, kl, op, ov, er, ek, ep, ev, ck, cy, cm, cn, ak, ap, av, ac, gr, tt, ex, ba, el, se, co, rfl, rfl, h1, h2, h3, h4, h5⟩ := R1
      obtain ⟨r2, u2, v2, R2, hX2, hY2⟩ := ih (j + 1) (B + 1) (K + 16) (x2 + 1) n c N od tm pr va cr mo ve kl op ov er ek ep ev ck cy cm cn ak ap av ac gr tt ex ba el se co (by omega) (by omega) (by omega) h1 h2 h3 h4 h5
      refine ⟨r2, u2, v2, lc_Rel_m (by omega) (by omega) R2, fun post hp => br_f hg ⟨4 + 1, hX _ (br_f hm (hX1 _ (nm_e (nm_r (nI_1 j) (hX2 post hp)))))⟩, fun post hp => br_f hg ⟨4 + 1, hY _ _ _ _ (br_t h44 (br_f h0 (hY1 _ (nm_e (nm_r (nI_1 j) (hY2 post hp))))))⟩⟩
theorem i_vc_pass {k : Nat} {u : SX} {v : SY} (I : i_Rel k u v) (hk : k + 5 ≤ 2560) (v1 : Int32) : wpX_pass (fun r u' => wpY_pass (fun r' v' => r' = r ∧ i_Rel (k + 5) u' v') v v1) u v1 := by
  obtain ⟨n, c, N, od, tm, pr, va, cr, mo, ve, kl, op, ov, er, ek, ep, ev, ck, cy, cm, cn, ak, ap, av, ac, gr, tt, ex, ba, el, se, co, rfl, rfl, h1, h2, h3, h4, h5⟩ := I
  by_cases a : v1 < 0
  · exact br_t a (br_t a ⟨rfl, i_up (lc_mk h1 h2 h3 h4 h5)⟩)
  · by_cases b : v1 ≤ 100
    · obtain ⟨r, u', v', R', hX, hY⟩ := lc_passLoop 4 0 k (16 * k) 0 n c N od (tm + v1) pr va cr mo ve kl op ov er ek ep ev ck cy cm cn ak ap av ac gr tt ex ba el se co rfl (by omega) (by omega) h1 h2 h3 h4 h5
      exact br_f a (br_t b (nm_e ⟨4 + 1, hX _ (br_f a (br_t b (nm_e ⟨4 + 1, hY _ ⟨rfl, lc_i (by omega) (by omega) R'⟩⟩)))⟩))
    · exact br_f a (br_f b (br_f a (br_f b ⟨rfl, i_up (lc_mk h1 h2 h3 h4 h5)⟩)))
