theorem pk_us {f : Nat → Int32} {k : Nat} {x : Int32} : upd f k x k = x := if_pos rfl
theorem pk_un {f : Nat → Int32} {k j : Nat} {x : Int32} (h : j ≠ k) : upd f k x j = f j := if_neg h
theorem pk_sub {a b : Nat} (h : b ≤ a) : nI a - nI b = nI (a - b) := by
  obtain ⟨c, rfl⟩ : ∃ c, a = c + b := ⟨a - b, by omega⟩
  rw [← nI_add, Int32.add_sub_cancel, Nat.add_sub_cancel]
theorem pk_m1 (n : Nat) : nI (n + 1) + (-1) = nI n := by
  rw [← nI_1, Int32.add_assoc, show (1 : Int32) + (-1) = 0 from rfl, Int32.add_zero]
theorem pk_mul (a b : Nat) : nI a * nI b = nI (a * b) := (Int32.ofNat_mul a b).symm
theorem pk_ix (x : Int32) {n : Nat} (hn : n < 2 ^ 31) : x < 0 ∨ nI n ≤ x ∨ ∃ j : Nat, j < n ∧ x = nI j := by
  by_cases h : x < 0
  · exact Or.inl h
  · obtain ⟨j, hj, rfl⟩ := nI_of h
    by_cases h2 : j < n
    · exact Or.inr (Or.inr ⟨j, h2, rfl⟩)
    · exact Or.inr (Or.inl (nI_le (by omega) hj))
theorem pk_le {x y : Int32} {A B : Prop} (a b : Nat) (f : a ≤ b → A) (g : b < a → B) (hx : x = nI a := by rfl) (hy : y = nI b := by rfl) (ha : a < 2 ^ 31 := by omega) (hb : b < 2 ^ 31 := by omega) : (x ≤ y → A) ∧ (¬ x ≤ y → B) := by
  subst hx hy
  rw [nI_leI ha hb]
  exact ⟨f, fun z => g (by omega)⟩
theorem pk_lt {x y : Int32} {A B : Prop} (a b : Nat) (f : a < b → A) (g : b ≤ a → B) (hx : x = nI a := by rfl) (hy : y = nI b := by rfl) (ha : a < 2 ^ 31 := by omega) (hb : b < 2 ^ 31 := by omega) : (x < y → A) ∧ (¬ x < y → B) := by
  subst hx hy
  rw [nI_ltI ha hb]
  exact ⟨f, fun z => g (by omega)⟩
theorem pk_eq {x y : Int32} {A B : Prop} (a b : Nat) (f : a = b → A) (g : a ≠ b → B) (hx : x = nI a := by rfl) (hy : y = nI b := by rfl) (ha : a < 2 ^ 31 := by omega) (hb : b < 2 ^ 31 := by omega) : (x = y → A) ∧ (¬ x = y → B) := by
  subst hx hy
  rw [nI_eq ha hb]
  exact ⟨f, g⟩
theorem pk_in {x : Int32} (n N : Nat) (h : n < N) (hx : x = nI n := by rfl) (hN : N < 2 ^ 31 := by omega) : vp_in x N := by
  subst hx
  exact vp_in_nI h hN
theorem pk_cl {x : Int32} (n : Nat) (hx : x = nI n := by rfl) (h : n < 2 ^ 31 := by omega) : x.toNatClampNeg = n := by
  subst hx
  exact nI_clamp h

/-! my own rows -/
theorem lc_n0 : vp_nar .boolean 0 = 0 := rfl
theorem lc_n1 : vp_nar .boolean 1 = 1 := rfl
theorem lc_nb {x : Int32} (h : x = 0 ∨ x = 1) : vp_nar .boolean x = x := by
  rcases h with rfl | rfl <;> rfl
theorem lc_fb {x : Int32} (h : x = 0 ∨ x = 1) : narrow .boolean (.int x) = .int x := by
  rcases h with rfl | rfl <;> rfl
theorem lc_10 : ¬ (1 : Int32) = 0 := by decide
theorem lc_m1 : (-1 : Int32) < 0 := by decide
theorem lc_ut (f : Nat → Int32) (k : Nat) (x : Int32) (j : Nat) : upd f k x j = if j = k then x else f j := rfl

/-- one event carried into what is seen of a key: value, version, mod, create, lease -/
def lc_ap (r p v l : Int32) (s : Int32 × Int32 × Int32 × Int32 × Int32) : Int32 × Int32 × Int32 × Int32 × Int32 :=
  if p = 0 then (0, 0, 0, 0, -1) else (v, s.2.1 + 1, r, if s.2.1 = 0 then r else s.2.2.2.1, l)
/-- what is seen of a key at a revision, over the first n events -/
def lc_lk (er ek ep ev el : Nat → Int32) (key p : Int32) (s : Int32 × Int32 × Int32 × Int32 × Int32) : Nat → Int32 × Int32 × Int32 × Int32 × Int32
  | 0 => s
  | n + 1 => if ek n = key ∧ er n ≤ p then lc_ap (er n) (ep n) (ev n) (el n) (lc_lk er ek ep ev el key p s n) else lc_lk er ek ep ev el key p s n
def lc_bs (ba : Nat → Int32) (j : Nat) : Int32 × Int32 × Int32 × Int32 × Int32 := (ba (j * 5), ba (j * 5 + 1), ba (j * 5 + 2), ba (j * 5 + 3), ba (j * 5 + 4))
def lc_sv (se : Nat → Int32) : Int32 × Int32 × Int32 × Int32 × Int32 := (se 0, se 1, se 2, se 3, se 4)
theorem lc_ap0 {r p v l : Int32} {s : Int32 × Int32 × Int32 × Int32 × Int32} (h : p = 0) : lc_ap r p v l s = (0, 0, 0, 0, -1) := if_pos h
theorem lc_ap1 {r p v l : Int32} {s : Int32 × Int32 × Int32 × Int32 × Int32} (h : ¬ p = 0) : lc_ap r p v l s = (v, s.2.1 + 1, r, if s.2.1 = 0 then r else s.2.2.2.1, l) := if_neg h
theorem lc_lk_t {er ek ep ev el : Nat → Int32} {key p : Int32} {s : Int32 × Int32 × Int32 × Int32 × Int32} {n : Nat} (h1 : ek n = key) (h2 : er n ≤ p) : lc_lk er ek ep ev el key p s (n + 1) = lc_ap (er n) (ep n) (ev n) (el n) (lc_lk er ek ep ev el key p s n) := if_pos ⟨h1, h2⟩
theorem lc_lk_f {er ek ep ev el : Nat → Int32} {key p : Int32} {s : Int32 × Int32 × Int32 × Int32 × Int32} {n : Nat} (h : ¬ (ek n = key ∧ er n ≤ p)) : lc_lk er ek ep ev el key p s (n + 1) = lc_lk er ek ep ev el key p s n := if_neg h
theorem lc_lk_c {er ek ep ev el er' ek' ep' ev' el' : Nat → Int32} {key p : Int32} {s : Int32 × Int32 × Int32 × Int32 × Int32} : ∀ n : Nat, (∀ i, i < n → er' i = er i ∧ ek' i = ek i ∧ ep' i = ep i ∧ ev' i = ev i ∧ el' i = el i) → lc_lk er' ek' ep' ev' el' key p s n = lc_lk er ek ep ev el key p s n := by
  intro n
  induction n with
  | zero => intro _; rfl
  | succ n ih =>
    intro h
    obtain ⟨h1, h2, h3, h4, h5⟩ := h n (by omega)
    simp only [lc_lk, h1, h2, h3, h4, h5, ih (fun i hi => h i (by omega))]
/-- an event is set down behind the first n: what is seen of those is the same -/
theorem lc_lk_u {er ek ep ev el : Nat → Int32} {key p a b d e g : Int32} {s : Int32 × Int32 × Int32 × Int32 × Int32} {n : Nat} : lc_lk (upd er n a) (upd ek n b) (upd ep n d) (upd ev n e) (upd el n g) key p s n = lc_lk er ek ep ev el key p s n :=
  lc_lk_c n fun i hi => ⟨pk_un (by omega), pk_un (by omega), pk_un (by omega), pk_un (by omega), pk_un (by omega)⟩
/-- the new event is of this key, and seen -/
theorem lc_lk_ut {er ek ep ev el : Nat → Int32} {key p a d e g : Int32} {s : Int32 × Int32 × Int32 × Int32 × Int32} {n : Nat} (h : a ≤ p) : lc_lk (upd er n a) (upd ek n key) (upd ep n d) (upd ev n e) (upd el n g) key p s (n + 1) = lc_ap a d e g (lc_lk er ek ep ev el key p s n) := by
  rw [lc_lk_t pk_us (by rw [pk_us]; exact h), lc_lk_u, pk_us, pk_us, pk_us, pk_us]
/-- the new event is not of this key, or not seen -/
theorem lc_lk_uf {er ek ep ev el : Nat → Int32} {key p a b d e g : Int32} {s : Int32 × Int32 × Int32 × Int32 × Int32} {n : Nat} (h : ¬ (b = key ∧ a ≤ p)) : lc_lk (upd er n a) (upd ek n b) (upd ep n d) (upd ev n e) (upd el n g) key p s (n + 1) = lc_lk er ek ep ev el key p s n := by
  rw [lc_lk_f (by rw [pk_us, pk_us]; exact h), lc_lk_u]
/-- events moved down by d -/
theorem lc_lk_s {er ek ep ev el er' ek' ep' ev' el' : Nat → Int32} {key p : Int32} {s : Int32 × Int32 × Int32 × Int32 × Int32} {d : Nat} : ∀ m : Nat, (∀ i, i < m → er' i = er (i + d) ∧ ek' i = ek (i + d) ∧ ep' i = ep (i + d) ∧ ev' i = ev (i + d) ∧ el' i = el (i + d)) → lc_lk er' ek' ep' ev' el' key p (lc_lk er ek ep ev el key p s d) m = lc_lk er ek ep ev el key p s (m + d) := by
  intro m
  induction m with
  | zero => intro _; rw [Nat.zero_add]; rfl
  | succ m ih =>
    intro h
    obtain ⟨h1, h2, h3, h4, h5⟩ := h m (by omega)
    rw [show m + 1 + d = (m + d) + 1 from by omega]
    simp only [lc_lk, h1, h2, h3, h4, h5, ih (fun i hi => h i (by omega))]
/-- two revisions between which no event of the key lies see the same -/
theorem lc_lk_r {er ek ep ev el : Nat → Int32} {key p q : Int32} {s : Int32 × Int32 × Int32 × Int32 × Int32} : ∀ n : Nat, (∀ i, i < n → ek i = key → (er i ≤ p ↔ er i ≤ q)) → lc_lk er ek ep ev el key p s n = lc_lk er ek ep ev el key q s n := by
  intro n
  induction n with
  | zero => intro _; rfl
  | succ n ih =>
    intro h
    have h0 := ih (fun i hi => h i (by omega))
    by_cases hk : ek n = key
    · have h1 := h n (by omega) hk
      by_cases hp : er n ≤ p
      · rw [lc_lk_t hk hp, lc_lk_t hk (h1.mp hp), h0]
      · rw [lc_lk_f (fun z => hp z.2), lc_lk_f (fun z => hp (h1.mpr z.2)), h0]
    · rw [lc_lk_f (fun z => hk z.1), lc_lk_f (fun z => hk z.1), h0]
/-- events that are not seen change nothing -/
theorem lc_lk_n {er ek ep ev el : Nat → Int32} {key p : Int32} {s : Int32 × Int32 × Int32 × Int32 × Int32} {d : Nat} : ∀ m : Nat, (∀ i, d ≤ i → i < d + m → ¬ er i ≤ p) → lc_lk er ek ep ev el key p s (d + m) = lc_lk er ek ep ev el key p s d := by
  intro m
  induction m with
  | zero => intro _; rfl
  | succ m ih =>
    intro h
    rw [show d + (m + 1) = (d + m) + 1 from by omega, lc_lk_f (fun z => h (d + m) (by omega) (by omega) z.2)]
    exact ih (fun i h1 h2 => h i h1 (by omega))
/-- the version stays a count -/
theorem lc_lk_v {er ek ep ev el : Nat → Int32} {key p : Int32} {s : Int32 × Int32 × Int32 × Int32 × Int32} {w : Nat} (hs : s.2.1 = nI w) : ∀ n : Nat, ∃ w', w' ≤ w + n ∧ (lc_lk er ek ep ev el key p s n).2.1 = nI w' := by
  intro n
  induction n with
  | zero => exact ⟨w, by omega, hs⟩
  | succ n ih =>
    obtain ⟨w', h1, h2⟩ := ih
    by_cases h : ek n = key ∧ er n ≤ p
    · rw [lc_lk_t h.1 h.2]
      by_cases hp : ep n = 0
      · rw [lc_ap0 hp]; exact ⟨0, by omega, rfl⟩
      · rw [lc_ap1 hp]
        exact ⟨w' + 1, by omega, by show (lc_lk er ek ep ev el key p s n).2.1 + 1 = _; rw [h2, nI_1]⟩
    · rw [lc_lk_f h]; exact ⟨w', by omega, h2⟩
/-- the events that a revision sees stand in front -/
theorem lc_cut {er : Nat → Int32} (p : Int32) : ∀ n : Nat, (∀ i j, i ≤ j → j < n → er i ≤ er j) → ∃ d, d ≤ n ∧ (∀ i, i < d → er i ≤ p) ∧ (∀ i, d ≤ i → i < n → ¬ er i ≤ p) := by
  intro n
  induction n with
  | zero => intro _; exact ⟨0, Nat.le_refl _, fun i hi => absurd hi (by omega), fun i _ hi => absurd hi (by omega)⟩
  | succ n ih =>
    intro h
    by_cases hp : er n ≤ p
    · exact ⟨n + 1, Nat.le_refl _, fun i hi => Int32.le_trans (h i n (by omega) (by omega)) hp, fun i h1 h2 => absurd h1 (by omega)⟩
    · obtain ⟨d, h1, h2, h3⟩ := ih (fun i j hi hj => h i j hi (by omega))
      refine ⟨d, by omega, h2, fun i h4 h5 => ?_⟩
      by_cases e : i = n
      · rw [e]; exact hp
      · exact h3 i h4 (by omega)
/-- how many keys are present -/
def lc_pc (pr : Nat → Int32) : Nat → Nat
  | 0 => 0
  | m + 1 => lc_pc pr m + (if pr m = 0 then 0 else 1)
theorem lc_pc_le (pr : Nat → Int32) : ∀ m, lc_pc pr m ≤ m := by
  intro m
  induction m with
  | zero => exact Nat.le_refl _
  | succ m ih => simp only [lc_pc]; split <;> omega
theorem lc_pc_o (pr : Nat → Int32) (j : Nat) (x : Int32) : ∀ m, m ≤ j → lc_pc (upd pr j x) m = lc_pc pr m := by
  intro m
  induction m with
  | zero => intro _; rfl
  | succ m ih => intro h; simp only [lc_pc, ih (by omega), pk_un (f := pr) (k := j) (x := x) (j := m) (by omega)]
theorem lc_pc_d (pr : Nat → Int32) (j : Nat) (hj : ¬ pr j = 0) : ∀ m, j < m → lc_pc (upd pr j 0) m + 1 = lc_pc pr m := by
  intro m
  induction m with
  | zero => intro h; omega
  | succ m ih =>
    intro h
    by_cases e : m = j
    · subst e
      simp only [lc_pc, lc_pc_o pr m 0 m (Nat.le_refl _), pk_us, if_pos, if_neg hj]
    · have := ih (by omega)
      simp only [lc_pc, pk_un (f := pr) (k := j) (x := 0) (j := m) e]
      omega
