/-! Trees of nodes: a node's birth, then its parts one behind another ('add' puts one more part behind). -/
def hd : Term → Int
  | .index n => n
  | .add t _ => hd t
  | _ => 0
/-- how many parts it has by now -/
def na : Term → Int
  | .add t _ => na t + 1
  | _ => 0
/-- the births, from the left -/
def fl : Term → List Int
  | .index n => [(n : Int)]
  | .add t x => fl t ++ fl x
  | _ => []
/-- levels -/
def dpt : Term → Nat
  | .add t x => max (dpt t) (dpt x + 1)
  | _ => 1
def full (so : Int → Int) (t : Term) : Prop := na t = pO (so (hd t))
/-- the rows hold this tree -/
def AT (so pa up pl : Int → Int) (B : Int) : Term → Prop
  | .index n => (n : Int) < B ∧ 0 ≤ so n ∧ so n < 16
  | .add t x => AT so pa up pl B t ∧ AT so pa up pl B x ∧ full so x ∧ na t < pO (so (hd t)) ∧ pa (3 * hd t + na t) = hd x ∧ up (hd x) = hd t ∧ pl (hd x) = na t
  | _ => False
theorem hd_mem {so pa up pl : Int → Int} {B : Int} : ∀ (t : Term), AT so pa up pl B t → hd t ∈ fl t := by
  intro t
  induction t with
  | index n => intro _; exact List.mem_singleton.mpr rfl
  | add t x ih _ => intro h; exact List.mem_append_left _ (ih h.1)
  | _ => intro h; exact h.elim
theorem fl_hd {so pa up pl : Int → Int} {B : Int} : ∀ (t : Term), AT so pa up pl B t → ∃ r, fl t = hd t :: r := by
  intro t
  induction t with
  | index n => intro _; exact ⟨[], rfl⟩
  | add t x ih _ => intro h; obtain ⟨r, e⟩ := ih h.1; exact ⟨r ++ fl x, by show fl t ++ fl x = hd t :: (r ++ fl x); rw [e]; rfl⟩
  | _ => intro h; exact h.elim
theorem na_ge : ∀ (t : Term), 0 ≤ na t := by
  intro t
  induction t with
  | add t x ih _ => show 0 ≤ na t + 1; omega
  | _ => exact Int.le_refl 0
theorem dpt_pos : ∀ (t : Term), 1 ≤ dpt t := by
  intro t
  induction t with
  | add t x ih _ => show 1 ≤ max (dpt t) (dpt x + 1); omega
  | _ => exact Nat.le_refl 1
theorem dpt_len {so pa up pl : Int → Int} {B : Int} : ∀ (t : Term), AT so pa up pl B t → dpt t ≤ (fl t).length := by
  intro t
  induction t with
  | index n => intro _; exact Nat.le_refl 1
  | add t x ih ihx =>
    intro h
    have h1 := ih h.1
    have h2 := ihx h.2.1
    have h3 := dpt_pos t
    show max (dpt t) (dpt x + 1) ≤ (fl t ++ fl x).length
    rw [List.length_append]
    omega
  | _ => intro h; exact h.elim
/-- rows that agree where the tree looks -/
theorem AT_cg {so pa up pl so' pa' up' pl' : Int → Int} {B B' : Int} (hB : B ≤ B') : ∀ (t : Term), AT so pa up pl B t → (fl t).Nodup → (∀ x, x ∈ fl t → so' x = so x ∧ ∀ i, 0 ≤ i → i < pO (so x) → (x = hd t → i < na t) → pa' (3 * x + i) = pa (3 * x + i)) → (∀ x, x ∈ fl t → x ≠ hd t → up' x = up x ∧ pl' x = pl x) → AT so' pa' up' pl' B' t := by
  intro t
  induction t with
  | index n =>
    intro h _ hs _
    obtain ⟨h1, h2⟩ := h
    obtain ⟨e, -⟩ := hs n (List.mem_singleton.mpr rfl)
    exact ⟨by omega, by rw [e]; exact h2⟩
  | add t x ih ihx =>
    intro h hnd hs hu
    obtain ⟨h1, h2, h3, h4, h5, h6, h7⟩ := h
    obtain ⟨d1, d2, d3⟩ := List.nodup_append.mp hnd
    have mt : ∀ y, y ∈ fl t → y ∈ fl (Term.add t x) := fun y hy => List.mem_append_left _ hy
    have mx : ∀ y, y ∈ fl x → y ∈ fl (Term.add t x) := fun y hy => List.mem_append_right _ hy
    have ht := hd_mem t h1
    have hx := hd_mem x h2
    have nx : ∀ y, y ∈ fl x → y ≠ hd t := fun y hy e => d3 _ ht y hy e.symm
    obtain ⟨e1, e2⟩ := hs _ (mt _ ht)
    obtain ⟨e3, -⟩ := hs _ (mx _ hx)
    obtain ⟨e4, e5⟩ := hu _ (mx _ hx) (nx _ hx)
    have hna : na (Term.add t x) = na t + 1 := rfl
    refine ⟨ih h1 d1 (fun y hy => ⟨(hs y (mt y hy)).1, fun i i0 ip hi => (hs y (mt y hy)).2 i i0 ip (fun e => by have := hi e; omega)⟩) (fun y hy hn => hu y (mt y hy) hn), ihx h2 d2 (fun y hy => ⟨(hs y (mx y hy)).1, fun i i0 ip _ => (hs y (mx y hy)).2 i i0 ip (fun e => absurd e (nx y hy))⟩) (fun y hy _ => hu y (mx y hy) (nx y hy)), ?_, ?_, ?_, ?_, ?_⟩
    · unfold full
      rw [e3]
      exact h3
    · rw [e1]; exact h4
    · rw [e2 _ (na_ge t) h4 (fun _ => by omega)]; exact h5
    · rw [e4]; exact h6
    · rw [e5]; exact h7
  | _ => intro h; exact h.elim
/-- what holds of every node -/
theorem AT_mem {so pa up pl : Int → Int} {B : Int} : ∀ (t : Term), AT so pa up pl B t → ∀ x, x ∈ fl t → (0 ≤ x ∧ x < B) ∧ (0 ≤ so x ∧ so x < 16) ∧ (∀ i, 0 ≤ i → i < pO (so x) → (x = hd t → i < na t) → pa (3 * x + i) ∈ fl t ∧ up (pa (3 * x + i)) = x ∧ pl (pa (3 * x + i)) = i) ∧ (x ≠ hd t → up x ∈ fl t ∧ (0 ≤ pl x ∧ pl x < pO (so (up x))) ∧ pa (3 * up x + pl x) = x) := by
  intro t
  induction t with
  | index n =>
    intro h x hx
    have hx := List.mem_singleton.mp hx
    subst hx
    exact ⟨⟨by omega, h.1⟩, h.2, fun i i0 _ hi => absurd (hi rfl) (by show ¬ i < 0; omega), fun e => absurd rfl e⟩
  | add t y ih ihy =>
    intro h x hx
    obtain ⟨h1, h2, h3, h4, h5, h6, h7⟩ := h
    have mt : ∀ z, z ∈ fl t → z ∈ fl (Term.add t y) := fun z hz => List.mem_append_left _ hz
    have my : ∀ z, z ∈ fl y → z ∈ fl (Term.add t y) := fun z hz => List.mem_append_right _ hz
    rcases List.mem_append.mp hx with hx | hx
    · obtain ⟨a1, a2, a3, a4⟩ := ih h1 x hx
      refine ⟨a1, a2, fun i i0 ip hi => ?_, fun e => ?_⟩
      · by_cases e : x = hd t
        · have hi2 : i < na t + 1 := hi e
          by_cases e2 : i = na t
          · subst e
            rw [e2, h5]
            exact ⟨my _ (hd_mem y h2), h6, h7⟩
          · obtain ⟨b1, b2⟩ := a3 i i0 ip (fun _ => by omega)
            exact ⟨mt _ b1, b2⟩
        · obtain ⟨b1, b2⟩ := a3 i i0 ip (fun q => absurd q e)
          exact ⟨mt _ b1, b2⟩
      · obtain ⟨b1, b2⟩ := a4 e
        exact ⟨mt _ b1, b2⟩
    · obtain ⟨a1, a2, a3, a4⟩ := ihy h2 x hx
      refine ⟨a1, a2, fun i i0 ip hi => ?_, fun e => ?_⟩
      · obtain ⟨b1, b2⟩ := a3 i i0 ip (fun q => by rw [h3, ← q]; exact ip)
        exact ⟨my _ b1, b2⟩
      · by_cases q : x = hd y
        · rw [q, h6, h7]
          exact ⟨mt _ (hd_mem t h1), ⟨na_ge t, h4⟩, h5⟩
        · obtain ⟨b1, b2⟩ := a4 q
          exact ⟨my _ b1, b2⟩
  | _ => intro h; exact h.elim
/-- a piece in the place of the node x -/
def rp (x : Int) (u : Term) : Term → Term
  | .add t y => .add (rp x u t) (if hd y = x then u else rp x u y)
  | t => t
theorem rp_hd {x : Int} {u : Term} : ∀ (t : Term), hd (rp x u t) = hd t ∧ na (rp x u t) = na t := by
  intro t
  induction t with
  | add t y ih _ => exact ⟨ih.1, by show na (rp x u t) + 1 = na t + 1; rw [ih.2]⟩
  | _ => exact ⟨rfl, rfl⟩
theorem rp_no {so pa up pl : Int → Int} {B x : Int} {u : Term} : ∀ (t : Term), AT so pa up pl B t → x ∉ fl t → rp x u t = t := by
  intro t
  induction t with
  | add t y ih ihy =>
    intro h hx
    have n1 : x ∉ fl t := fun q => hx (List.mem_append_left _ q)
    have n2 : x ∉ fl y := fun q => hx (List.mem_append_right _ q)
    show Term.add (rp x u t) (if hd y = x then u else rp x u y) = Term.add t y
    rw [ih h.1 n1, if_neg (fun e => n2 (by rw [← e]; exact hd_mem y h.2.1)), ihy h.2.1 n2]
  | _ => intro _ _; rfl
/-- the piece at a node -/
noncomputable def sb (x : Int) : Term → Term
  | .add t y => if hd y = x then y else if x ∈ fl y then sb x y else sb x t
  | t => t
theorem sb_ok {so pa up pl : Int → Int} {B x : Int} : ∀ (t : Term), AT so pa up pl B t → (fl t).Nodup → x ∈ fl t → x ≠ hd t → AT so pa up pl B (sb x t) ∧ full so (sb x t) ∧ hd (sb x t) = x ∧ (∀ y, y ∈ fl (sb x t) → y ∈ fl t) ∧ hd t ∉ fl (sb x t) ∧ dpt (sb x t) < dpt t := by
  intro t
  induction t with
  | index n => intro _ _ hx hn; exact absurd (List.mem_singleton.mp hx) hn
  | add t y ih ihy =>
    intro h hnd hx hn
    obtain ⟨h1, h2, h3, h4, h5, h6, h7⟩ := h
    obtain ⟨d1, d2, d3⟩ := List.nodup_append.mp hnd
    have hdp : dpt (Term.add t y) = max (dpt t) (dpt y + 1) := rfl
    have ht := hd_mem t h1
    by_cases e : hd y = x
    · rw [show sb x (Term.add t y) = y from if_pos e]
      exact ⟨h2, h3, e, fun z hz => List.mem_append_right _ hz, fun q => d3 _ ht _ q rfl, by omega⟩
    · by_cases q : x ∈ fl y
      · rw [show sb x (Term.add t y) = sb x y from by show (if hd y = x then y else if x ∈ fl y then sb x y else sb x t) = _; rw [if_neg e, if_pos q]]
        obtain ⟨b1, b2, b3, b4, b5, b6⟩ := ihy h2 d2 q (Ne.symm e)
        exact ⟨b1, b2, b3, fun z hz => List.mem_append_right _ (b4 z hz), fun w => d3 _ ht _ (b4 _ w) rfl, by omega⟩
      · rw [show sb x (Term.add t y) = sb x t from by show (if hd y = x then y else if x ∈ fl y then sb x y else sb x t) = _; rw [if_neg e, if_neg q]]
        obtain ⟨b1, b2, b3, b4, b5, b6⟩ := ih h1 d1 ((List.mem_append.mp hx).resolve_right q) hn
        exact ⟨b1, b2, b3, fun z hz => List.mem_append_left _ (b4 z hz), b5, by omega⟩
  | _ => intro h; exact h.elim
theorem rp_fl {so pa up pl : Int → Int} {B x : Int} : ∀ (t : Term), AT so pa up pl B t → (fl t).Nodup → x ∈ fl t → x ≠ hd t → ∃ a z : List Int, a ≠ [] ∧ fl t = a ++ (fl (sb x t) ++ z) ∧ ∀ u, fl (rp x u t) = a ++ (fl u ++ z) := by
  intro t
  induction t with
  | index n => intro _ _ hx hn; exact absurd (List.mem_singleton.mp hx) hn
  | add t y ih ihy =>
    intro h hnd hx hn
    obtain ⟨h1, h2, h3, h4, h5, h6, h7⟩ := h
    obtain ⟨d1, d2, d3⟩ := List.nodup_append.mp hnd
    have frp : ∀ u, fl (rp x u (Term.add t y)) = fl (rp x u t) ++ fl (if hd y = x then u else rp x u y) := fun _ => rfl
    have ht := hd_mem t h1
    by_cases e : hd y = x
    · have nt : x ∉ fl t := fun q => d3 x q x (by rw [← e]; exact hd_mem y h2) rfl
      rw [show sb x (Term.add t y) = y from if_pos e]
      refine ⟨fl t, [], (fun q => by rw [q] at ht; exact absurd ht List.not_mem_nil), (by show fl t ++ fl y = _; simp), fun u => ?_⟩
      rw [frp, if_pos e, rp_no t h1 nt]; simp
    · by_cases q : x ∈ fl y
      · have nt : x ∉ fl t := fun w => d3 x w x q rfl
        rw [show sb x (Term.add t y) = sb x y from by show (if hd y = x then y else if x ∈ fl y then sb x y else sb x t) = _; rw [if_neg e, if_pos q]]
        obtain ⟨a, z, b1, b2, b3⟩ := ihy h2 d2 q (Ne.symm e)
        refine ⟨fl t ++ a, z, by simp [b1], by show fl t ++ fl y = _; rw [b2]; simp, fun u => ?_⟩
        rw [frp, if_neg e, b3, rp_no t h1 nt]; simp
      · rw [show sb x (Term.add t y) = sb x t from by show (if hd y = x then y else if x ∈ fl y then sb x y else sb x t) = _; rw [if_neg e, if_neg q]]
        obtain ⟨a, z, b1, b2, b3⟩ := ih h1 d1 ((List.mem_append.mp hx).resolve_right q) hn
        refine ⟨a, z ++ fl y, b1, by show fl t ++ fl y = _; rw [b2]; simp, fun u => ?_⟩
        rw [frp, if_neg e, b3, rp_no y h2 q]; simp
  | _ => intro h; exact h.elim
/-- the tree behind a change of one link -/
theorem AT_rp {so pa up pl so' pa' up' pl' : Int → Int} {B B' x : Int} {u : Term} (hB : B ≤ B') (hu : AT so' pa' up' pl' B' u) (hf : full so' u) : ∀ (t : Term), AT so pa up pl B t → (fl t).Nodup → x ∈ fl t → x ≠ hd t →
    (∀ y, y ∈ fl t → y ∉ fl (sb x t) → so' y = so y ∧ ∀ i, 0 ≤ i → i < pO (so y) → (y = hd t → i < na t) → 3 * y + i ≠ 3 * up x + pl x → pa' (3 * y + i) = pa (3 * y + i)) → (∀ y, y ∈ fl t → y ∉ fl (sb x t) → y ≠ hd t → up' y = up y ∧ pl' y = pl y) → pa' (3 * up x + pl x) = hd u → up' (hd u) = up x → pl' (hd u) = pl x → AT so' pa' up' pl' B' (rp x u t) := by
  intro t
  induction t with
  | index n => intro _ _ hx hn; exact absurd (List.mem_singleton.mp hx) hn
  | add t y ih ihy =>
    intro h hnd hx hn hs hq hp hup hpl
    obtain ⟨h1, h2, h3, h4, h5, h6, h7⟩ := h
    obtain ⟨d1, d2, d3⟩ := List.nodup_append.mp hnd
    have ht := hd_mem t h1
    have hy := hd_mem y h2
    have mt : ∀ z, z ∈ fl t → z ∈ fl (Term.add t y) := fun z hz => List.mem_append_left _ hz
    have my : ∀ z, z ∈ fl y → z ∈ fl (Term.add t y) := fun z hz => List.mem_append_right _ hz
    have hna : na (Term.add t y) = na t + 1 := rfl
    have hhd : hd (Term.add t y) = hd t := rfl
    have pu := pO_in
    by_cases e : hd y = x
    · have es : sb x (Term.add t y) = y := if_pos e
      rw [es] at hs hq
      have ot : ∀ z, z ∈ fl t → z ∉ fl y := fun z hz q => d3 z hz z q rfl
      subst e
      rw [h6, h7] at hs hp
      rw [h6] at hup
      rw [h7] at hpl
      show AT so' pa' up' pl' B' (Term.add (rp (hd y) u t) (if hd y = hd y then u else rp (hd y) u y))
      rw [if_pos rfl, rp_no t h1 (fun q => ot _ q hy)]
      obtain ⟨e1, -⟩ := hs _ (mt _ ht) (ot _ ht)
      refine ⟨AT_cg hB t h1 d1 (fun z hz => ⟨(hs z (mt z hz) (ot z hz)).1, fun i i0 ip hi => (hs z (mt z hz) (ot z hz)).2 i i0 ip (fun q => by have := hi q; omega) ?_⟩) (fun z hz hzn => hq z (mt z hz) (ot z hz) hzn), hu, hf, by rw [e1]; exact h4, hp, hup, hpl⟩
      intro q
      have := pu (so z)
      have := pu (so (hd t))
      have := na_ge t
      have hzt : z = hd t := by omega
      have := hi hzt
      omega
    · by_cases q : x ∈ fl y
      · have es : sb x (Term.add t y) = sb x y := by show (if hd y = x then y else if x ∈ fl y then sb x y else sb x t) = _; rw [if_neg e, if_pos q]
        rw [es] at hs hq
        obtain ⟨b1, b2, b3, b4, b5, b6⟩ := sb_ok y h2 d2 q (Ne.symm e)
        have ot : ∀ z, z ∈ fl t → z ∉ fl (sb x y) := fun z hz w => d3 z hz z (b4 z w) rfl
        have nt : x ∉ fl t := fun w => d3 x w x q rfl
        obtain ⟨u1, u2, u3⟩ := (AT_mem y h2 x q).2.2.2 (Ne.symm e)
        have hne : ∀ z, z ∈ fl t → ∀ i, 0 ≤ i → i < pO (so z) → 3 * z + i ≠ 3 * up x + pl x := fun z hz i i0 ip w => by
          have := pu (so z)
          have := pu (so (up x))
          have : z = up x := by omega
          subst this
          exact d3 _ hz _ u1 rfl
        show AT so' pa' up' pl' B' (Term.add (rp x u t) (if hd y = x then u else rp x u y))
        rw [if_neg e, rp_no t h1 nt]
        obtain ⟨e1, e2⟩ := hs _ (mt _ ht) (ot _ ht)
        obtain ⟨e3, -⟩ := hs _ (my _ hy) b5
        have hyt : hd y ≠ hd t := fun w => d3 _ ht _ hy w.symm
        obtain ⟨e4, e5⟩ := hq _ (my _ hy) b5 hyt
        obtain ⟨r1, r2⟩ := rp_hd (x := x) (u := u) y
        refine ⟨AT_cg hB t h1 d1 (fun z hz => ⟨(hs z (mt z hz) (ot z hz)).1, fun i i0 ip hi => (hs z (mt z hz) (ot z hz)).2 i i0 ip (fun w => by have := hi w; omega) (hne z hz i i0 ip)⟩) (fun z hz hzn => hq z (mt z hz) (ot z hz) hzn), ihy h2 d2 q (Ne.symm e) (fun z hz hzn => ⟨(hs z (my z hz) hzn).1, fun i i0 ip hi w => (hs z (my z hz) hzn).2 i i0 ip (fun v => absurd (v.trans hhd) (fun v => d3 _ ht _ hz v.symm)) w⟩) (fun z hz hzn _ => hq z (my z hz) hzn (fun v => d3 _ ht _ hz (v.trans hhd).symm)) hp hup hpl, ?_, ?_, ?_, ?_, ?_⟩
        · unfold full
          rw [r1, r2, e3]
          exact h3
        · rw [e1]; exact h4
        · rw [r1, e2 _ (na_ge t) h4 (fun _ => by omega) (hne _ ht _ (na_ge t) h4)]
          exact h5
        · rw [r1, e4]; exact h6
        · rw [r1, e5]; exact h7
      · have es : sb x (Term.add t y) = sb x t := by show (if hd y = x then y else if x ∈ fl y then sb x y else sb x t) = _; rw [if_neg e, if_neg q]
        rw [es] at hs hq
        have hxt : x ∈ fl t := (List.mem_append.mp hx).resolve_right q
        obtain ⟨b1, b2, b3, b4, b5, b6⟩ := sb_ok t h1 d1 hxt hn
        have oy : ∀ z, z ∈ fl y → z ∉ fl (sb x t) := fun z hz w => d3 z (b4 z w) z hz rfl
        obtain ⟨u1, u2, u3⟩ := (AT_mem t h1 x hxt).2.2.2 hn
        have hne : ∀ z, z ∈ fl y → ∀ i, 0 ≤ i → i < pO (so z) → 3 * z + i ≠ 3 * up x + pl x := fun z hz i i0 ip w => by
          have := pu (so z)
          have := pu (so (up x))
          have : z = up x := by omega
          subst this
          exact d3 _ u1 _ hz rfl
        show AT so' pa' up' pl' B' (Term.add (rp x u t) (if hd y = x then u else rp x u y))
        rw [if_neg e, rp_no y h2 q]
        obtain ⟨e1, e2⟩ := hs _ (mt _ ht) b5
        obtain ⟨e3, -⟩ := hs _ (my _ hy) (oy _ hy)
        have hyt : hd y ≠ hd t := fun w => d3 _ ht _ hy w.symm
        obtain ⟨e4, e5⟩ := hq _ (my _ hy) (oy _ hy) hyt
        obtain ⟨r1, r2⟩ := rp_hd (x := x) (u := u) t
        refine ⟨ih h1 d1 hxt hn (fun z hz hzn => ⟨(hs z (mt z hz) hzn).1, fun i i0 ip hi w => (hs z (mt z hz) hzn).2 i i0 ip (fun v => by have := hi v; omega) w⟩) (fun z hz hzn hzh => hq z (mt z hz) hzn hzh) hp hup hpl, AT_cg hB y h2 d2 (fun z hz => ⟨(hs z (my z hz) (oy z hz)).1, fun i i0 ip hi => (hs z (my z hz) (oy z hz)).2 i i0 ip (fun v => absurd (v.trans hhd) (fun v => d3 _ ht _ hz v.symm)) (hne z hz i i0 ip)⟩) (fun z hz _ => hq z (my z hz) (oy z hz) (fun v => d3 _ ht _ hz (v.trans hhd).symm)), ?_, ?_, ?_, ?_, ?_⟩
        · unfold full
          rw [e3]
          exact h3
        · rw [r1, r2, e1]; exact h4
        · rw [r1, r2, e2 _ (na_ge t) h4 (fun _ => by omega) (fun w => ?_)]
          · exact h5
          · have := pu (so (hd t))
            have := pu (so (up x))
            have := na_ge t
            have e6 : hd t = up x := by omega
            have e7 : na t = pl x := by omega
            rw [← e6, ← e7, h5] at u3
            exact q (by rw [← u3]; exact hy)
        · rw [r1, e4]; exact h6
        · rw [r2, e5]; exact h7
  | _ => intro h; exact h.elim
abbrev ATs (s : SM) (t : Term) : Prop := AT (s.2 9) (s.2 14) (s.2 12) (s.2 13) (s.1 8) t
/-- a row filled from a place on -/
def RW (s t : SM) (l : List Int) : Prop := eqx [18] [17] s t ∧ t.1 18 = s.1 18 + l.length ∧ (∀ (j : Nat) (x : Int), l[j]? = some x → t.2 17 (s.1 18 + j) = x) ∧ ∀ j, j < s.1 18 → t.2 17 j = s.2 17 j
theorem RW.rf {s : SM} : RW s s [] := ⟨eqx.rf, by simp, fun j x h => by simp at h, fun _ _ => rfl⟩
theorem RW.tr {s t u : SM} {l m : List Int} (h1 : RW s t l) (h2 : RW t u m) : RW s u (l ++ m) := by
  obtain ⟨a1, a2, a3, a4⟩ := h1
  obtain ⟨b1, b2, b3, b4⟩ := h2
  refine ⟨a1.tr b1, by rw [b2, a2, List.length_append]; omega, fun j x h => ?_, fun j hj => by rw [b4 j (by omega), a4 j hj]⟩
  by_cases hj : j < l.length
  · rw [List.getElem?_append_left hj] at h
    rw [b4 _ (by omega)]
    exact a3 j x h
  · rw [List.getElem?_append_right (by omega)] at h
    have h3 := b3 _ x h
    have e : t.1 18 + ((j - l.length : Nat) : Int) = s.1 18 + (j : Int) := by omega
    rw [e] at h3
    exact h3
section
variable {iv : List (Int × Int)} {L : Nat} {h0 : MH}
/-- lay(), part by part -/
theorem lay_part {so pa up pl : Int → Int} {B : Int} (hB : B ≤ 3004) : ∀ (t : Term), AT so pa up pl B t → ∀ (D : Nat) (s : SM) (F : SM → Prop), (s.2 9 = so ∧ s.2 14 = pa) → dpt t ≤ D → 0 ≤ s.1 18 → s.1 18 + (fl t).length ≤ 80 →
    (∀ w, RW s w (fl t) → wm iv L h0 (D + 1) 78 22 [lr 307, li (hd t), li (na t)] [] w (qv F)) → cm iv L h0 (D + 1) 78 [vr 307, vi (hd t)] s (qv F) := by
  intro t
  induction t with
  | index n =>
    intro h D s F hs hD h18 hl hw
    have h1 : (fl (Term.index n)).length = 1 := rfl
    refine B78 ⟨by omega, by omega, hw _ ⟨eqx_us (eqx_ua eqx.rf (by decide)) (by decide), rfl, fun j x hj => ?_, fun j hj => ?_⟩⟩
    · have hj : [(n : Int)][j]? = some x := hj
      cases j with
      | zero =>
        simp at hj
        subst hj
        show (if (17 = 17 ∧ s.1 18 + ((0 : Nat) : Int) = s.1 18) then (n : Int) else _) = n
        rw [if_pos ⟨rfl, by omega⟩]
      | succ j => simp at hj
    · show (if (17 = 17 ∧ j = s.1 18) then (n : Int) else s.2 17 j) = s.2 17 j
      rw [if_neg (by omega)]
  | add t x ih ihx =>
    intro h D s F hs hD h18 hl hw
    obtain ⟨h1, h2, h3, h4, h5, h6, h7⟩ := h
    have hlen : (fl (Term.add t x)).length = (fl t).length + (fl x).length := by show (fl t ++ fl x).length = _; simp
    have hdp : dpt (Term.add t x) = max (dpt t) (dpt x + 1) := rfl
    obtain ⟨D, rfl⟩ : ∃ k, D = k + 1 := ⟨D - 1, by omega⟩
    have m1 := AT_mem t h1 _ (hd_mem t h1)
    have m2 := AT_mem x h2 _ (hd_mem x h2)
    have n1 := na_ge t
    have p1 := pO_in (so (hd t))
    show cm iv L h0 (D + 1 + 1) 78 [vr 307, vi (hd t)] s (qv F)
    refine ih h1 (D + 1) s F hs (by omega) h18 (by omega) (fun w hw1 => ?_)
    have q9 : w.2 9 = so := (hw1.1.2 9 (by decide)).trans hs.1
    have q14 : w.2 14 = pa := (hw1.1.2 14 (by decide)).trans hs.2
    refine B78_22 ⟨by omega, by rw [q9]; exact m1.2.1, fun e => ?_, fun _ => ⟨by omega, by omega, by omega, ?_⟩⟩
    · exfalso
      rw [q9] at e
      omega
    · rw [q14, h5]
      refine ihx h2 D w _ ⟨q9, q14⟩ (by omega) (by rw [hw1.2.1]; omega) (by rw [hw1.2.1]; omega) (fun v hv => ?_)
      have r9 : v.2 9 = so := (hv.1.2 9 (by decide)).trans q9
      refine B78_22 ⟨by omega, by rw [r9]; exact m2.2.1, fun _ => ⟨by omega, hw v (hw1.tr hv)⟩, fun e => ?_⟩
      exfalso
      rw [r9, ← h3] at e
      omega
  | _ => intro h; exact h.elim
theorem lay_ok {s : SM} {t : Term} {D : Nat} (h : ATs s t) (hf : full (s.2 9) t) (hB : s.1 8 ≤ 3004) (hD : dpt t ≤ D) (h18 : 0 ≤ s.1 18) (hl : s.1 18 + (fl t).length ≤ 80) : cm iv L h0 (D + 1) 78 [vr 307, vi (hd t)] s (qv fun w => RW s w (fl t)) := by
  refine lay_part hB t h D s _ ⟨rfl, rfl⟩ hD h18 hl (fun w hw => ?_)
  have q9 : w.2 9 = s.2 9 := hw.1.2 9 (by decide)
  have m := AT_mem t h _ (hd_mem t h)
  refine B78_22 ⟨by omega, by rw [q9]; exact m.2.1, fun _ => hw, fun e => ?_⟩
  exfalso
  rw [q9, ← hf] at e
  omega
end
