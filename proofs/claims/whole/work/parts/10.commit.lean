def lc_cmp (m : Nat) (x y : Int32) : Int32 := match m with
  | 0 => if x = y then 1 else 0
  | 1 => if x = y then 0 else 1
  | 2 => if y ≤ x then 0 else 1
  | _ => if x ≤ y then 0 else 1
theorem lc_cmp01 (m : Nat) (x y : Int32) : lc_cmp m x y = 0 ∨ lc_cmp m x y = 1 := by
  unfold lc_cmp
  split <;> split <;> first | exact Or.inl rfl | exact Or.inr rfl
theorem lc_if {p : Prop} {a b : Int32} {A : Int32 → Prop} (i : Decidable p) (h : A (if p then a else b)) : (p → A a) ∧ (¬ p → A b) := by
  by_cases z : p
  · rw [if_pos z] at h; exact br_t z h
  · rw [if_neg z] at h; exact br_f z h
theorem lc_xCmp {m : Nat} (hm : m < 4) {x y : Int32} {post : Int32 → Prop} (h : post (lc_cmp m x y)) : wpX_compares post x (nI m) y := by
  match m, hm with
  | 0, _ => exact br_f (by decide) (br_f (by decide) (br_t (by decide) (lc_if _ h)))
  | 1, _ => exact br_f (by decide) (br_f (by decide) (br_f (by decide) (br_t (by decide) (lc_if _ h))))
  | 2, _ => exact br_f (by decide) (br_f (by decide) (br_f (by decide) (br_f (by decide) (br_t (by decide) (lc_if _ h)))))
  | 3, _ => exact br_f (by decide) (br_t (by decide) (lc_if _ h))
section
variable {n c N : Nat} {od tm : Int32} {pr va cr mo ve kl op ov er ek ep ev ck cy cm cn ak ap av ac gr tt ex ba el se co : Nat → Int32}
theorem lc_yHolds {K i a q m : Nat} (R : lc_R n N K pr va cr mo ve kl op ov er ek ep ev ba el) (hn : n ≤ 96) (hi : i < 4) (ha : a < 4) (hq : q < 16) (hm : m < 4) (e0 : co (i * 4) = nI a) (e1 : co (i * 4 + 1) = nI q) (e2 : co (i * 4 + 2) = nI m) :
    ∃ se', ∀ post : Int32 → SY → Prop, post (lc_cmp m (lc_at (va q, ve q, mo q, cr q, kl q) a) (co (i * 4 + 3))) (od, (nI N), (nI n), (nI c), tm, ba, er, ek, ep, ev, el, se', co, ak, ap, av, ac, gr, tt, ex) → wpY_holds post (od, (nI N), (nI n), (nI c), tm, ba, er, ek, ep, ev, el, se, co, ak, ap, av, ac, gr, tt, ex) (nI i) := by
  obtain ⟨s1, q1, hl⟩ := lc_yLook (n := n) (c := c) (N := N) (od := od) (tm := tm) (ba := ba) (er := er) (ek := ek) (ep := ep) (ev := ev) (el := el) (se := se) (co := co) (ak := ak) (ap := ap) (av := av) (ac := ac) (gr := gr) (tt := tt) (ex := ex) (p := nI N) hq hn
  rw [R.2.2.2.2.2.1 q hq] at q1
  refine ⟨s1, fun post hp => ?_⟩
  have i0 : vp_in (nI i * 4) 16 := lc_in40 (by omega) (by decide)
  have i1 : vp_in (nI i * 4 + 1) 16 := lc_in4 (f := 1) (by omega) (by decide)
  have i2 : vp_in (nI i * 4 + 2) 16 := lc_in4 (f := 2) (by omega) (by decide)
  have i3 : vp_in (nI i * 4 + 3) 16 := lc_in4 (f := 3) (by omega) (by decide)
  have r0 : co (nI i * 4).toNatClampNeg = nI a := by rw [lc_ix40, nI_clamp (by omega)]; exact e0
  have r1 : co (nI i * 4 + 1).toNatClampNeg = nI q := by
    rw [show nI i * 4 + 1 = nI (i * 4 + 1) from lc_ix4 i 1, nI_clamp (by omega)]; exact e1
  have r2 : co (nI i * 4 + 2).toNatClampNeg = nI m := by
    rw [show nI i * 4 + 2 = nI (i * 4 + 2) from lc_ix4 i 2, nI_clamp (by omega)]; exact e2
  have r3 : co (nI i * 4 + 3).toNatClampNeg = co (i * 4 + 3) := by
    rw [show nI i * 4 + 3 = nI (i * 4 + 3) from lc_ix4 i 3, nI_clamp (by omega)]
  have rs : s1 (co (nI i * 4).toNatClampNeg).toNatClampNeg = lc_at (va q, ve q, mo q, cr q, kl q) a := by
    rw [r0, nI_clamp (by omega)]; exact lc_sv_at q1 (by omega)
  refine ⟨i1, ?_⟩
  rw [r1]
  refine hl _ ⟨i0, by rw [r0]; exact vp_in_nI (by omega) (by decide), nm_r rs ⟨i3, nm_r r3 ⟨i2, ?_⟩⟩⟩
  match m, hm with
  | 0, _ => exact br_t (r2.trans rfl) (lc_if (A := fun r => post r (od, (nI N), (nI n), (nI c), tm, ba, er, ek, ep, ev, el, s1, co, ak, ap, av, ac, gr, tt, ex)) _ hp)
  | 1, _ => exact br_f (by rw [r2]; decide) ⟨i2, br_t (r2.trans rfl) (lc_if (A := fun r => post r (od, (nI N), (nI n), (nI c), tm, ba, er, ek, ep, ev, el, s1, co, ak, ap, av, ac, gr, tt, ex)) _ hp)⟩
  | 2, _ => exact br_f (by rw [r2]; decide) ⟨i2, br_f (by rw [r2]; decide) ⟨i2, br_t (r2.trans rfl) (lc_if (A := fun r => post r (od, (nI N), (nI n), (nI c), tm, ba, er, ek, ep, ev, el, s1, co, ak, ap, av, ac, gr, tt, ex)) _ hp)⟩⟩
  | 3, _ => exact br_f (by rw [r2]; decide) ⟨i2, br_f (by rw [r2]; decide) ⟨i2, br_f (by rw [r2]; decide) (lc_if (A := fun r => post r (od, (nI N), (nI n), (nI c), tm, ba, er, ek, ep, ev, el, s1, co, ak, ap, av, ac, gr, tt, ex)) _ hp)⟩⟩
theorem lc_condIdle (hc4 : c ≤ 4) : ∀ d i : Nat, i + d = c → ∀ post : Int32 → SY → Prop, wY_commit_16 post 1 0 (nI c) od (nI N) (nI n) (nI c) tm ba er ek ep ev el se co ak ap av ac gr tt ex → wY_commit_16 post (d + 1) 0 (nI i) od (nI N) (nI n) (nI c) tm ba er ek ep ev el se co ak ap av ac gr tt ex := by
  intro d
  induction d with
  | zero =>
    intro i hd post h
    have e : i = c := by omega
    subst e
    exact h
  | succ d ih =>
    intro i hd post h
    exact br_f (nI_ge (by omega) (by omega)) (br_t rfl (nm_r (nI_1 i) (ih (i + 1) (by omega) post h)))
theorem lc_conds {K : Nat} (R : lc_R n N K pr va cr mo ve kl op ov er ek ep ev ba el) (hn : n ≤ 96) (C : lc_C c ck cy cm cn co) : ∀ (d i : Nat) (se : Nat → Int32), i + d = c → ∃ (r : Int32) (se' : Nat → Int32), (r = 0 ∨ r = 1) ∧ (∀ post : Int32 → Prop, post r → wX_conditionsHold_2 post (nI n) (nI c) (nI N) od tm pr va cr mo ve kl op ov er ek ep ev ck cy cm cn ak ap av ac gr tt ex (d + 1) (nI i)) ∧ (∀ post : Int32 → SY → Prop, wY_commit_16 post 1 r (nI c) od (nI N) (nI n) (nI c) tm ba er ek ep ev el se' co ak ap av ac gr tt ex → wY_commit_16 post (d + 1) 1 (nI i) od (nI N) (nI n) (nI c) tm ba er ek ep ev el se co ak ap av ac gr tt ex) := by
  obtain ⟨hc4, hC⟩ := C
  intro d
  induction d with
  | zero =>
    intro i se hd
    have e : i = c := by omega
    subst e
    exact ⟨1, se, Or.inr rfl, fun post hp => br_t (Int32.le_refl _) hp, fun post h => h⟩
  | succ d ih =>
    intro i se hd
    obtain ⟨⟨a, ha, ea⟩, ⟨q, hq, eq⟩, ⟨m, hm, em⟩, f0, f1, f2, f3⟩ := hC i (by omega)
    have hg : ¬ nI c ≤ nI i := nI_ge (by omega) (by omega)
    have hv : vp_in (nI i) 4 := vp_in_nI (by omega) (by decide)
    have hci : (nI i).toNatClampNeg = i := nI_clamp (by omega)
    obtain ⟨s1, hH⟩ := lc_yHolds (n := n) (c := c) (N := N) (od := od) (tm := tm) (ba := ba) (er := er) (ek := ek) (ep := ep) (ev := ev) (el := el) (se := se) (co := co) (ak := ak) (ap := ap) (av := av) (ac := ac) (gr := gr) (tt := tt) (ex := ex) R hn (show i < 4 by omega) ha hq hm (f0.trans ea) (f1.trans eq) (f2.trans em)
    rw [f3] at hH
    rcases lc_cmp01 m (lc_at (va q, ve q, mo q, cr q, kl q) a) (cn i) with z | z
    · rw [z] at hH
      refine ⟨0, s1, Or.inl rfl, fun post hp => br_f hg ⟨hv, hv, ?_⟩, fun post h => br_f hg (br_f lc_10 (hH _ (br_t rfl (nm_r (nI_1 i) (lc_condIdle hc4 d (i + 1) (by omega) post h)))))⟩
      rw [hci, ea, eq]
      refine lc_xRead (by omega) hq ⟨hv, hv, ?_⟩
      rw [em]
      refine lc_xCmp hm ?_
      rw [z]
      exact br_t rfl hp
    · rw [z] at hH
      obtain ⟨r, s2, hr, hX, hY⟩ := ih (i + 1) s1 (by omega)
      refine ⟨r, s2, hr, fun post hp => br_f hg ⟨hv, hv, ?_⟩, fun post h => br_f hg (br_f lc_10 (hH _ (br_f lc_10 (nm_r (nI_1 i) (hY post h)))))⟩
      rw [hci, ea, eq]
      refine lc_xRead (by omega) hq ⟨hv, hv, ?_⟩
      rw [em]
      refine lc_xCmp hm ?_
      rw [z]
      exact br_f lc_10 (nm_r (nI_1 i) (hX post hp))
/-- does action i of list l change anything -/
def lc_ch (l i : Nat) (ak ap pr : Nat → Int32) : Prop := ¬ ap (l * 4 + i) = 0 ∨ ¬ pr (ak (l * 4 + i)).toNatClampNeg = 0
theorem lc_changes {l m : Nat} (hl : l < 2) (hm : m ≤ 4) (hL : lc_L l m ak ap av) : ∀ d i : Nat, i + d = m →
    ((∃ i', i ≤ i' ∧ i' < m ∧ lc_ch l i' ak ap pr) ∧ ∀ post : Int32 → Prop, post 1 → wX_listChanges_16 post (nI (l * 4 + m)) (nI n) (nI c) (nI N) od tm pr va cr mo ve kl op ov er ek ep ev ck cy cm cn ak ap av ac gr tt ex (d + 1) (nI (l * 4 + i))) ∨
    ((∀ i', i ≤ i' → i' < m → ¬ lc_ch l i' ak ap pr) ∧ ∀ post : Int32 → Prop, post 0 → wX_listChanges_16 post (nI (l * 4 + m)) (nI n) (nI c) (nI N) od tm pr va cr mo ve kl op ov er ek ep ev ck cy cm cn ak ap av ac gr tt ex (d + 1) (nI (l * 4 + i))) := by
  intro d
  induction d with
  | zero =>
    intro i hd
    have e : i = m := by omega
    subst e
    exact Or.inr ⟨fun i' h1 h2 => absurd h1 (by omega), fun post hp => br_t (Int32.le_refl _) hp⟩
  | succ d ih =>
    intro i hd
    have hg : ¬ nI (l * 4 + m) ≤ nI (l * 4 + i) := nI_ge (by omega) (by omega)
    have hi : vp_in (nI (l * 4 + i)) 8 := vp_in_nI (by omega) (by decide)
    have hci : (nI (l * 4 + i)).toNatClampNeg = l * 4 + i := nI_clamp (by omega)
    obtain ⟨⟨q, hq, eq⟩, _, _⟩ := hL i (by omega)
    have hvk : vp_in (ak (nI (l * 4 + i)).toNatClampNeg) 16 := by rw [hci, eq]; exact vp_in_nI hq (by decide)
    by_cases z : ap (l * 4 + i) = 0
    · by_cases y : pr (ak (l * 4 + i)).toNatClampNeg = 0
      · have nc : ¬ lc_ch l i ak ap pr := fun h => h.elim (fun h => h z) (fun h => h y)
        rcases ih (i + 1) (by omega) with ⟨⟨i', g1, g2, g3⟩, hX⟩ | ⟨g, hX⟩
        · exact Or.inl ⟨⟨i', by omega, g2, g3⟩, fun post hp => br_f hg ⟨hi, br_t (by rw [hci]; exact z) ⟨hi, hvk, br_t (by rw [hci]; exact y) (nm_r (nI_1 _) (hX post hp))⟩⟩⟩
        · refine Or.inr ⟨fun i' g1 g2 => ?_, fun post hp => br_f hg ⟨hi, br_t (by rw [hci]; exact z) ⟨hi, hvk, br_t (by rw [hci]; exact y) (nm_r (nI_1 _) (hX post hp))⟩⟩⟩
          by_cases e : i' = i
          · rw [e]; exact nc
          · exact g i' (by omega) g2
      · exact Or.inl ⟨⟨i, Nat.le_refl _, by omega, Or.inr y⟩, fun post hp => br_f hg ⟨hi, br_t (by rw [hci]; exact z) ⟨hi, hvk, br_f (by rw [hci]; exact y) hp⟩⟩⟩
    · exact Or.inl ⟨⟨i, Nat.le_refl _, by omega, Or.inl z⟩, fun post hp => br_f hg ⟨hi, br_f (by rw [hci]; exact z) hp⟩⟩
/-- nothing changes: the reference only looks -/
theorem lc_actIdle {l m K : Nat} {x3 : Int32} (hl : l < 2) (hm : m ≤ 4) (hac : ac l = nI m) (hL : lc_L l m ak ap av) (R : lc_R n N K pr va cr mo ve kl op ov er ek ep ev ba el) (hK : K < 2 ^ 30) (hn : n ≤ 96) : ∀ (d i : Nat) (se : Nat → Int32), i + d = m → (∀ i', i ≤ i' → i' < m → ¬ lc_ch l i' ak ap pr) → ∃ se', ∀ (post : Int32 → SY → Prop) (x1 : Int32), wY_commit_158 post x1 od (nI N) (nI n) (nI c) tm ba er ek ep ev el se' co ak ap av ac gr tt ex → wY_commit_73 post x1 (nI l) x3 (d + 1) 0 (nI (l * 4 + i)) od (nI N) (nI n) (nI c) tm ba er ek ep ev el se co ak ap av ac gr tt ex := by
  have hv : vp_in (nI l) 2 := vp_in_nI hl (by decide)
  have ee : nI l * 4 + ac (nI l).toNatClampNeg = nI (l * 4 + m) := by rw [nI_clamp (by omega), hac, lc_ix4]
  intro d
  induction d with
  | zero =>
    intro i se hd _
    have e : i = m := by omega
    subst e
    exact ⟨se, fun post x1 h => ⟨hv, br_t (by rw [ee]; exact Int32.le_refl _) (br_t rfl h)⟩⟩
  | succ d ih =>
    intro i se hd hn'
    have hg : ¬ nI l * 4 + ac (nI l).toNatClampNeg ≤ nI (l * 4 + i) := by rw [ee]; exact nI_ge (by omega) (by omega)
    have hi : vp_in (nI (l * 4 + i)) 8 := vp_in_nI (by omega) (by decide)
    have hci : (nI (l * 4 + i)).toNatClampNeg = l * 4 + i := nI_clamp (by omega)
    obtain ⟨⟨q, hq, eq⟩, _, _⟩ := hL i (by omega)
    have nc := hn' i (Nat.le_refl _) (by omega)
    have z : ap (l * 4 + i) = 0 := Classical.not_not.mp fun h => nc (Or.inl h)
    have y : pr q = 0 := Classical.not_not.mp fun h => nc (Or.inr (by rw [eq, nI_clamp (by omega)]; exact h))
    obtain ⟨s1, e1, hp1⟩ := lc_yPres (n := n) (c := c) (N := N) (od := od) (tm := tm) (ba := ba) (er := er) (ek := ek) (ep := ep) (ev := ev) (el := el) (se := se) (co := co) (ak := ak) (ap := ap) (av := av) (ac := ac) (gr := gr) (tt := tt) (ex := ex) R hK hn hq
    obtain ⟨s2, hY⟩ := ih (i + 1) s1 (by omega) (fun i' g1 g2 => hn' i' (by omega) g2)
    refine ⟨s2, fun post x1 h => ⟨hv, br_f hg ⟨hi, br_t (by rw [hci]; exact z) ⟨hi, ?_⟩⟩⟩⟩
    rw [hci, eq]
    exact hp1 _ (br_t y (nm_r (nI_1 _) (hY post x1 h)))
/-- the actions, both sides in step; the reference's newest revision follows at the end -/
theorem lc_carry {l m : Nat} (hl : l < 2) (hm : m ≤ 4) (hac : ac l = nI m) (hL : lc_L l m ak ap av) (hN : N + 1 < 2 ^ 31) : ∀ (d i n K : Nat) (x4 : Int32) (pr va cr mo ve kl er ek ep ev el se : Nat → Int32), i + d = m → n + d ≤ 60 → K + d < 2 ^ 30 → lc_R n (N + 1) K pr va cr mo ve kl op ov er ek ep ev ba el →
    (∀ i', i ≤ i' → i' < m → ∀ q, q < 16 → ak (l * 4 + i') = nI q → lc_lk er ek ep ev el (nI q) (nI N) (lc_bs ba q) n = lc_lk er ek ep ev el (nI q) (nI (N + 1)) (lc_bs ba q) n) →
    (x4 = 1 ∨ x4 = 0 ∧ ∃ i', i ≤ i' ∧ i' < m ∧ lc_ch l i' ak ap pr) →
    ∃ (n' : Nat) (pr' va' cr' mo' ve' kl' er' ek' ep' ev' el' se' : Nat → Int32), n' ≤ 60 ∧ lc_R n' (N + 1) (K + d) pr' va' cr' mo' ve' kl' op ov er' ek' ep' ev' ba el' ∧
      (∀ post : SX → Prop, post ((nI n'), (nI c), (nI (N + 1)), od, tm, pr', va', cr', mo', ve', kl', op, ov, er', ek', ep', ev', ck, cy, cm, cn, ak, ap, av, ac, gr, tt, ex) → wX_carryOut_35 post (nI (l * 4 + m)) (d + 1) (nI (l * 4 + i)) (nI n) (nI c) (nI (N + 1)) od tm pr va cr mo ve kl op ov er ek ep ev ck cy cm cn ak ap av ac gr tt ex) ∧
      (∀ (post : Int32 → SY → Prop) (x1 : Int32), wY_commit_158 post x1 od (nI (N + 1)) (nI n') (nI c) tm ba er' ek' ep' ev' el' se' co ak ap av ac gr tt ex → wY_commit_73 post x1 (nI l) (nI (N + 1)) (d + 1) x4 (nI (l * 4 + i)) od (nI N) (nI n) (nI c) tm ba er ek ep ev el se co ak ap av ac gr tt ex) := by
  have hv : vp_in (nI l) 2 := vp_in_nI hl (by decide)
  have ee : nI l * 4 + ac (nI l).toNatClampNeg = nI (l * 4 + m) := by rw [nI_clamp (by omega), hac, lc_ix4]
  intro d
  induction d with
  | zero =>
    intro i n K x4 pr va cr mo ve kl er ek ep ev el se hd hn hK R hu hx
    have e : i = m := by omega
    subst e
    have h4 : ¬ x4 = 0 := by
      rcases hx with rfl | ⟨_, i', g1, g2, _⟩
      · exact lc_10
      · omega
    exact ⟨n, pr, va, cr, mo, ve, kl, er, ek, ep, ev, el, se, by omega, R, fun post hp => br_t (Int32.le_refl _) hp, fun post x1 h => ⟨hv, br_t (by rw [ee]; exact Int32.le_refl _) (br_f h4 h)⟩⟩
  | succ d ih =>
    intro i n K x4 pr va cr mo ve kl er ek ep ev el se hd hn hK R hu hx
    have hg : ¬ nI (l * 4 + m) ≤ nI (l * 4 + i) := nI_ge (by omega) (by omega)
    have hgy : ¬ nI l * 4 + ac (nI l).toNatClampNeg ≤ nI (l * 4 + i) := by rw [ee]; exact hg
    have hi : vp_in (nI (l * 4 + i)) 8 := vp_in_nI (by omega) (by decide)
    have hci : (nI (l * 4 + i)).toNatClampNeg = l * 4 + i := nI_clamp (by omega)
    obtain ⟨⟨q, hq, eq⟩, hpv, hdis⟩ := hL i (by omega)
    have eqc : ak (nI (l * 4 + i)).toNatClampNeg = nI q := by rw [hci]; exact eq
    have hvq : vp_in (nI q) 16 := vp_in_nI hq (by decide)
    have hcq : (nI q).toNatClampNeg = q := nI_clamp (by omega)
    have hne : ∀ i', i + 1 ≤ i' → i' < m → ∀ q', q' < 16 → ak (l * 4 + i') = nI q' → ∀ r : Int32, ¬ (nI q = nI q' ∧ r ≤ nI N) ∧ ¬ (nI q = nI q' ∧ r ≤ nI (N + 1)) := by
      intro i' g1 g2 q' _ e' r
      have : ¬ nI q = nI q' := fun z => absurd (hdis i' g2 (by rw [eq, e', z])) (by omega)
      exact ⟨fun z => this z.1, fun z => this z.1⟩
    rcases hpv with ⟨zp, zv⟩ | zp
    · obtain ⟨w, hw, ew⟩ := lc_R_v R hq
      have hlk := (hu i (Nat.le_refl _) (by omega) q hq eq).trans (R.2.2.2.2.2.1 q hq)
      rw [ew] at hlk
      obtain ⟨s1, e1, hp1⟩ := lc_yPresent (n := n) (c := c) (N := N) (od := od) (tm := tm) (ba := ba) (er := er) (ek := ek) (ep := ep) (ev := ev) (el := el) (se := se) (co := co) (ak := ak) (ap := ap) (av := av) (ac := ac) (gr := gr) (tt := tt) (ex := ex) (j := q) (w := w) hq (by omega) (by omega) hlk
      have h7 := R.2.2.2.2.2.2 q hq
      by_cases y : w = 0
      · have hpr : pr q = 0 := by rw [h7.1, ew, y, if_pos nI_0]
        rw [if_pos y] at hp1
        obtain ⟨n', pr', va', cr', mo', ve', kl', er', ek', ep', ev', el', se', hn', R', hX, hY⟩ := ih (i + 1) n K x4 pr va cr mo ve kl er ek ep ev el s1 (by omega) (by omega) (by omega) R (fun i' g1 g2 => hu i' (by omega) g2) (by
          rcases hx with h | ⟨h, i', g1, g2, g3⟩
          · exact Or.inl h
          · refine Or.inr ⟨h, i', ?_, g2, g3⟩
            by_cases e : i' = i
            · rw [e] at g3
              rcases g3 with g3 | g3
              · exact absurd zp g3
              · rw [eq, hcq] at g3; exact absurd hpr g3
            · omega)
        refine ⟨n', pr', va', cr', mo', ve', kl', er', ek', ep', ev', el', se', hn', lc_R_K (by omega) R', fun post hp => br_f hg ⟨hi, nm_r eqc ⟨hi, br_t (by rw [hci]; exact zp) ⟨hvq, br_t (by rw [hcq]; exact hpr) (nm_r (nI_1 _) (hX post hp))⟩⟩⟩, fun post x1 h => ⟨hv, br_f hgy ⟨hi, br_t (by rw [hci]; exact zp) ⟨hi, ?_⟩⟩⟩⟩
        rw [eqc]
        exact hp1 _ (br_t rfl (nm_r (nI_1 _) (hY post x1 h)))
      · have hve : ¬ ve q = 0 := by rw [ew]; exact nI_ne0 (by omega) (by omega)
        have hpr : ¬ pr q = 0 := by rw [h7.1, if_neg hve]; exact lc_10
        rw [if_neg y] at hp1
        obtain ⟨n', pr', va', cr', mo', ve', kl', er', ek', ep', ev', el', se', hn', R', hX, hY⟩ := ih (i + 1) (n + 1) (K + 1) 1 _ _ _ _ _ _ _ _ _ _ _ s1 (by omega) (by omega) (by omega) (lc_R_d hq R) (fun i' g1 g2 q' h' e' => by
          rw [lc_lk_uf (hne i' g1 g2 q' h' e' _).1, lc_lk_uf (hne i' g1 g2 q' h' e' _).2]
          exact hu i' (by omega) g2 q' h' e') (Or.inl rfl)
        refine ⟨n', pr', va', cr', mo', ve', kl', er', ek', ep', ev', el', se', hn', lc_R_K (by omega) R', fun post hp => br_f hg ⟨hi, nm_r eqc ⟨hi, br_t (by rw [hci]; exact zp) ⟨hvq, br_f (by rw [hcq]; exact hpr) (lc_xDelKey hq (by omega) (nm_r (nI_1 _) (hX post hp)))⟩⟩⟩, fun post x1 h => ⟨hv, br_f hgy ⟨hi, br_t (by rw [hci]; exact zp) ⟨hi, ?_⟩⟩⟩⟩
        rw [eqc]
        refine hp1 _ (br_f lc_10 ⟨hi, hi, hi, ?_⟩)
        rw [hci, eq, zp, zv]
        exact lc_yAdd (by omega) (nm_r (nI_1 _) (hY post x1 h))
    · have zp' : ¬ ap (l * 4 + i) = 0 := by rw [zp]; exact lc_10
      obtain ⟨n', pr', va', cr', mo', ve', kl', er', ek', ep', ev', el', se', hn', R', hX, hY⟩ := ih (i + 1) (n + 1) (K + 1) 1 _ _ _ _ _ _ _ _ _ _ _ se (by omega) (by omega) (by omega) (lc_R_p (x := av (l * 4 + i)) (l := -1) hq (by omega) R) (fun i' g1 g2 q' h' e' => by
        rw [lc_lk_uf (hne i' g1 g2 q' h' e' _).1, lc_lk_uf (hne i' g1 g2 q' h' e' _).2]
        exact hu i' (by omega) g2 q' h' e') (Or.inl rfl)
      refine ⟨n', pr', va', cr', mo', ve', kl', er', ek', ep', ev', el', se', hn', lc_R_K (by omega) R', fun post hp => br_f hg ⟨hi, nm_r eqc ⟨hi, br_f (by rw [hci]; exact zp') ⟨hi, ?_⟩⟩⟩, fun post x1 h => ⟨hv, br_f hgy ⟨hi, br_f (by rw [hci]; exact zp') ⟨hi, hi, hi, ?_⟩⟩⟩⟩
      · rw [hci]
        exact lc_xPutKey hq (by omega) (nm_r (nI_1 _) (hX post hp))
      · rw [hci, eq, zp]
        exact lc_yAdd (by omega) (nm_r (nI_1 _) (hY post x1 h))
theorem lc_A0 : lc_A ak ap av (upd (upd ac 0 0) 1 0) := by
  intro l hl
  refine ⟨0, by omega, ?_, fun i hi => absurd hi (by omega)⟩
  by_cases e : l = 1
  · rw [e]; rfl
  · have e : l = 0 := by omega
    rw [e]; rfl
theorem lc_fr {B K : Nat} (h1 : N ≤ B) (h2 : n + lc_pc pr 16 ≤ 76) (h3 : lc_R n N K pr va cr mo ve kl op ov er ek ep ev ba el) : lc_Rel B K ((nI n), 0, (nI N), od, tm, pr, va, cr, mo, ve, kl, op, ov, er, ek, ep, ev, ck, cy, cm, cn, ak, ap, av, (upd (upd ac 0 0) 1 0), gr, tt, ex) (od, (nI N), (nI n), 0, tm, ba, er, ek, ep, ev, el, se, co, ak, ap, av, (upd (upd ac 0 0) 1 0), gr, tt, ex) :=
  lc_mk (c := 0) h1 h2 h3 ⟨by omega, fun i hi => absurd hi (by omega)⟩ lc_A0
theorem lc_fin {k l : Nat} {x1 : Int32} {V : SY} (hk : k + 5 ≤ 2560) (hn : n ≤ 56) (hl : l < 2) (h1 : N ≤ k) (h2 : n + lc_pc pr 16 ≤ 76) (h3 : lc_R n N (16 * k) pr va cr mo ve kl op ov er ek ep ev ba el) (h5 : lc_A ak ap av ac)
    (HY : ∀ post : Int32 → SY → Prop, wY_commit_57 post x1 (nI l) od (nI N) (nI n) (nI c) tm ba er ek ep ev el se co ak ap av ac gr tt ex → wpY_commit post V) :
    wX_commit_27 (fun r u' => wpY_commit (fun r' v' => r' = r ∧ i_Rel (k + 5) u' v') V) x1 (nI l) (nI n) (nI c) (nI N) od tm pr va cr mo ve kl op ov er ek ep ev ck cy cm cn ak ap av ac gr tt ex := by
  obtain ⟨m, hm, hac, hL⟩ := h5 l hl
  have hv : vp_in (nI l) 2 := vp_in_nI hl (by decide)
  have hc : (nI l).toNatClampNeg = l := nI_clamp (by omega)
  have ee : nI (l * 4) + ac (nI l).toNatClampNeg = nI (l * 4 + m) := by rw [hc, hac, nI_add]
  unfold wX_commit_27 wpX_carryOut wpX_listChanges
  refine nm_r (lc_ix40 l) ⟨hv, nm_r ee ⟨m + 1, ?_⟩⟩
  rcases lc_changes (n := n) (c := c) (N := N) (od := od) (tm := tm) (pr := pr) (va := va) (cr := cr) (mo := mo) (ve := ve) (kl := kl) (op := op) (ov := ov) (er := er) (ek := ek) (ep := ep) (ev := ev) (ck := ck) (cy := cy) (cm := cm) (cn := cn) (ak := ak) (ap := ap) (av := av) (ac := ac) (gr := gr) (tt := tt) (ex := ex) hl hm hL m 0 (by omega) with ⟨⟨i', g1, g2, g3⟩, hX⟩ | ⟨g, hX⟩
  · obtain ⟨n', pr', va', cr', mo', ve', kl', er', ek', ep', ev', el', se', hn', R', hX2, hY2⟩ := lc_carry (c := c) (od := od) (tm := tm) (op := op) (ov := ov) (ck := ck) (cy := cy) (cm := cm) (cn := cn) (gr := gr) (tt := tt) (ex := ex) (ba := ba) (co := co) hl hm hac hL (show N + 1 < 2 ^ 31 by omega) m 0 n (16 * k) 0 pr va cr mo ve kl er ek ep ev el se (by omega) (by omega) (by omega) (lc_R_b (by omega) h3) (fun _ _ _ q hq _ => lc_lk_r n fun i hi _ => ⟨fun _ => Int32.le_trans (h3.1 i hi) (nI_le (by omega) (by omega)), fun _ => h3.1 i hi⟩) (Or.inr ⟨rfl, i', g1, g2, g3⟩)
    have hpc := lc_pc_le pr' 16
    refine hX _ (br_f lc_10 (nm_r (nI_1 N) (nm_r (lc_ix40 l) ⟨hv, nm_r ee ⟨m + 1, hX2 _ ?_⟩⟩)))
    have hW : ∀ post : Int32 → SY → Prop, wY_commit_158 post x1 od (nI (N + 1)) (nI n') (nI c) tm ba er' ek' ep' ev' el' se' co ak ap av ac gr tt ex → wpY_commit post V := fun post h => HY _ (nm_r (nI_1 N) (nm_r (lc_ix40 l) ⟨m + 1, hY2 _ _ h⟩))
    by_cases z : x1 = 0
    · exact nm_e (nm_e (br_t z (hW _ (nm_e (nm_e (br_t z ⟨rfl, lc_i (B := k + 5) (K := 16 * k + m) (by omega) (by omega) (lc_fr (by omega) (by omega) R')⟩))))))
    · exact nm_e (nm_e (br_f z (hW _ (nm_e (nm_e (br_f z ⟨rfl, lc_i (B := k + 5) (K := 16 * k + m) (by omega) (by omega) (lc_fr (by omega) (by omega) R')⟩))))))
  · obtain ⟨s1, hY2⟩ := lc_actIdle (n := n) (c := c) (N := N) (od := od) (tm := tm) (ba := ba) (er := er) (ek := ek) (ep := ep) (ev := ev) (el := el) (co := co) (ak := ak) (ap := ap) (av := av) (ac := ac) (gr := gr) (tt := tt) (ex := ex) (x3 := nI (N + 1)) hl hm hac hL h3 (by omega) (by omega) m 0 se (by omega) g
    refine hX _ (br_t rfl ?_)
    have hW : ∀ post : Int32 → SY → Prop, wY_commit_158 post x1 od (nI N) (nI n) (nI c) tm ba er ek ep ev el s1 co ak ap av ac gr tt ex → wpY_commit post V := fun post h => HY _ (nm_r (nI_1 N) (nm_r (lc_ix40 l) ⟨m + 1, hY2 _ _ h⟩))
    by_cases z : x1 = 0
    · exact nm_e (nm_e (br_t z (hW _ (nm_e (nm_e (br_t z ⟨rfl, lc_i (B := k + 5) (K := 16 * k) (by omega) (by omega) (lc_fr (by omega) (by omega) h3)⟩))))))
    · exact nm_e (nm_e (br_f z (hW _ (nm_e (nm_e (br_f z ⟨rfl, lc_i (B := k + 5) (K := 16 * k) (by omega) (by omega) (lc_fr (by omega) (by omega) h3)⟩))))))
end
theorem i_vc_commit {k : Nat} {u : SX} {v : SY} (I : i_Rel k u v) (hk : k + 5 ≤ 2560) : wpX_commit (fun r u' => wpY_commit (fun r' v' => r' = r ∧ i_Rel (k + 5) u' v') v) u := by
  obtain ⟨n, c, N, od, tm, pr, va, cr, mo, ve, kl, op, ov, er, ek, ep, ev, ck, cy, cm, cn, ak, ap, av, ac, gr, tt, ex, ba, el, se, co, rfl, rfl, h1, h2, h3, h4, h5⟩ := I
  by_cases a : n ≤ 56
  · have a' : nI n ≤ 56 := nI_le (b := 56) a (by decide)
    obtain ⟨r, s1, hr, hX, hY⟩ := lc_conds (n := n) (c := c) (N := N) (od := od) (tm := tm) (pr := pr) (va := va) (cr := cr) (mo := mo) (ve := ve) (kl := kl) (op := op) (ov := ov) (er := er) (ek := ek) (ep := ep) (ev := ev) (ck := ck) (cy := cy) (cm := cm) (cn := cn) (ak := ak) (ap := ap) (av := av) (ac := ac) (gr := gr) (tt := tt) (ex := ex) (ba := ba) (el := el) h3 (by omega) h4 c 0 se (by omega)
    refine br_t a' ⟨c + 1, hX _ ?_⟩
    rcases hr with rfl | rfl
    · exact br_t rfl (lc_fin (l := 1) (se := s1) hk a (by decide) h1 h2 h3 h5 (fun post h => br_t a' ⟨c + 1, hY _ (br_t (Int32.le_refl _) (br_t rfl h))⟩))
    · exact br_f lc_10 (lc_fin (l := 0) (se := s1) hk a (by decide) h1 h2 h3 h5 (fun post h => br_t a' ⟨c + 1, hY _ (br_t (Int32.le_refl _) (br_f lc_10 h))⟩))
  · have a' : ¬ nI n ≤ 56 := nI_ge (b := n) (a := 56) (by omega) (by omega)
    exact br_f a' (br_f a' ⟨rfl, i_up (lc_mk h1 h2 h3 h4 h5)⟩)
