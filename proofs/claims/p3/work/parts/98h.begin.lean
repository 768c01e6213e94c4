/-! work(), resume(): what is ahead of working, and behind it. -/
theorem jsn_1 {J : JT} {b z x : Int} (h : J.2.2 x = 1) : (jsn J b z).2.2 x = 1 := by
  unfold jsn
  by_cases e : J.2.2 b = 0
  · rw [if_pos e]
    show (if x = b then z else J.2.2 x) = 1
    rw [if_neg (fun q => by rw [q] at h; omega)]
    exact h
  · rw [if_neg e]; exact h
theorem jen_1 {M : JT × Term} {sb b x : Int} {A : Option Term} (h : M.1.2.2 x = 1) : (jen sb b A M).1.2.2 x = 1 := by
  show (jcl sb b A M.2 (jmd b M.2 M.1)).2.2 x = 1
  cases A with
  | none => exact h
  | some a =>
    by_cases e : (jmd b M.2 M.1).2.2 b = 0 ∧ sb ≠ 10 ∧ sb ≠ 11 ∧ kmt a M.2 = false
    · rw [jcl_y e]
      show (if x = b then 6 else (jmd b M.2 M.1).2.2 x) = 1
      rw [if_neg (fun q => by subst q; have e1 := e.1; have h2 : (jmd x M.2 M.1).2.2 x = 1 := h; rw [h2] at e1; cases e1)]
      exact h
    · rw [jcl_z e]; exact h
/-- a name that nothing binds is in a frame for it -/
theorem jd_nm {so nu td pa up pl : Int → Int} {kk : Int → Term} {bd : Int → Int → Int} {B : Int} : ∀ (n : Nat) (t : Term), dpt t ≤ n → AT so pa up pl B t → (fl t).Nodup → ∀ (x : Int), x ∈ fl t → so x = 3 → bd x (nu x) = -9 → ∀ (A : Option Term) (J : JT), (jd so nu td pa kk bd t A J).1.2.2 x = 1 := by
  intro n
  induction n with
  | zero => intro t h; have := dpt_pos t; omega
  | succ n ih =>
    intro t hn hA hnd x hx h3 hb A J
    cases t with
    | index b =>
      obtain rfl := List.mem_singleton.mp hx
      rw [jd_0, if_neg (by omega), if_neg (by omega), if_neg (by omega)]
      refine jen_1 ?_
      show (jnm so td pa kk (bd b (nu b)) b (jin b A J)).1.2.2 b = 1
      unfold jnm
      rw [if_pos hb]
      show (if (b : Int) = b then (1 : Int) else _) = 1
      rw [if_pos rfl]
    | add t1 y =>
      have hd1 : dpt (Term.add t1 y) = max (dpt t1) (dpt y + 1) := rfl
      obtain ⟨d1, d2, d3⟩ := List.nodup_append.mp hnd
      have hy := hA.2.1
      have fy : x ∈ fl y → ∀ (A : Option Term) (J : JT), (jd so nu td pa kk bd y A J).1.2.2 x = 1 := fun q => ih y (by omega) hy d2 x q h3 hb
      have ny : x ∈ fl t1 → x ∉ fl y := fun q q2 => d3 x q x q2 rfl
      have oy := jd_out (so := so) (nu := nu) (td := td) (kk := kk) (bd := bd) (dpt y) y (Nat.le_refl _) hy
      have hh : ∀ b : Nat, hd t1 = b → x ≠ (b : Int) := fun b e q => by
        have := hA.2.2.2.1
        rw [e, ← q, h3] at this
        have h0 := na_ge t1
        have : na t1 < 0 := this
        omega
      cases t1 with
      | index b =>
        have hxb := hh b rfl
        have hxy : x ∈ fl y := (List.mem_append.mp hx).resolve_left (fun q => hxb (List.mem_singleton.mp q))
        rw [jd_1]
        refine jen_1 ?_
        by_cases e8 : so b = 8
        · rw [if_pos e8]
          unfold jdf
          split
          · show (if x = (b : Int) then _ else _) = (1 : Int)
            rw [if_neg hxb]
            exact fy hxy _ _
          · exact fy hxy _ _
        · rw [if_neg e8]
          by_cases e15 : so b = 15
          · rw [if_pos e15]; exact fy hxy _ _
          · rw [if_neg e15]
            unfold jhf
            split
            · exact fy hxy _ _
            · exact fy hxy _ _
            · exact jsn_1 (fy hxy _ _)
      | add t2 z =>
        have hd2 : dpt (Term.add t2 z) = max (dpt t2) (dpt z + 1) := rfl
        obtain ⟨f1, f2, f3⟩ := List.nodup_append.mp d1
        have hz := hA.1.2.1
        have fz : x ∈ fl z → ∀ (A : Option Term) (J : JT), (jd so nu td pa kk bd z A J).1.2.2 x = 1 := fun q => ih z (by omega) hz f2 x q h3 hb
        have nz : x ∈ fl t2 → x ∉ fl z := fun q q2 => f3 x q x q2 rfl
        have oz := jd_out (so := so) (nu := nu) (td := td) (kk := kk) (bd := bd) (dpt z) z (Nat.le_refl _) hz
        -- first z, then y
        have zy : x ∈ fl z ∨ x ∈ fl y → ∀ (A A' : Option Term) (J : JT), (jd so nu td pa kk bd y A (jd so nu td pa kk bd z A' J).1).1.2.2 x = 1 := fun q A A' J => by
          rcases q with q | q
          · rw [(oy A _ x (ny (List.mem_append_right _ q))).2.2]
            exact fz q _ _
          · exact fy q _ _
        cases t2 with
        | index b =>
          have hxb := hh b rfl
          have hxzy : x ∈ fl z ∨ x ∈ fl y := by
            rcases List.mem_append.mp hx with q | q
            · exact Or.inl ((List.mem_append.mp q).resolve_left (fun q => hxb (List.mem_singleton.mp q)))
            · exact Or.inr q
          rw [jd_2]
          refine jen_1 ?_
          by_cases e9 : so b = 9
          · rw [if_pos e9]
            unfold jus
            split
            · exact zy hxzy _ _ _
            · exact zy hxzy _ _ _
            · rcases hxzy with q | q
              · show (jd so nu td pa kk bd y _ (jsn (jd so nu td pa kk bd z none (jin b A J)).1 (hd z) 2)).1.2.2 x = 1
                rw [(oy _ _ x (ny (List.mem_append_right _ q))).2.2]
                exact jsn_1 (fz q _ _)
              · exact fy q _ _
          · rw [if_neg e9]
            by_cases e10 : so b = 10
            · rw [if_pos e10]; exact zy hxzy _ _ _
            · rw [if_neg e10]
              by_cases e12 : so b = 12
              · rw [if_pos e12]
                unfold jpr
                split
                · exact zy hxzy _ _ _
                · exact zy hxzy _ _ _
              · rw [if_neg e12]; exact zy hxzy _ _ _
        | add t3 v =>
          have hd3 : dpt (Term.add t3 v) = max (dpt t3) (dpt v + 1) := rfl
          obtain ⟨g1, g2, g3⟩ := List.nodup_append.mp f1
          have hv := hA.1.1.2.1
          have fv : x ∈ fl v → ∀ (A : Option Term) (J : JT), (jd so nu td pa kk bd v A J).1.2.2 x = 1 := fun q => ih v (by omega) hv g2 x q h3 hb
          cases t3 with
          | index b =>
            have hxb := hh b rfl
            have vzy : ∀ (A A' A'' : Option Term) (J : JT), (jd so nu td pa kk bd y A (jd so nu td pa kk bd z A' (jd so nu td pa kk bd v A'' J).1).1).1.2.2 x = 1 := fun A A' A'' J => by
              rcases List.mem_append.mp hx with q | q
              · rcases List.mem_append.mp q with q2 | q2
                · have q3 : x ∈ fl v := (List.mem_append.mp q2).resolve_left (fun q => hxb (List.mem_singleton.mp q))
                  rw [(oy A _ x (ny q)).2.2, (oz A' _ x (nz q2)).2.2]
                  exact fv q3 _ _
                · exact zy (Or.inl q2) _ _ _
              · exact fy q _ _
            rw [jd_3]
            refine jen_1 ?_
            unfold jpk
            split
            · exact vzy _ _ _ _
            · split
              · exact vzy _ _ _ _
              · show (if x = (b : Int) then _ else _) = (1 : Int)
                rw [if_neg hxb]
                exact vzy _ _ _ _
          | add t4 u =>
            -- five parts and more: no sort has them
            exfalso
            have h1 := hA.1.1.1.2.2.2.1
            have h2 := hA.2.2.2.1
            have p3 := pO_in (so (hd (Term.add (Term.add (Term.add t4 u) v) z)))
            have n0 := na_ge t4
            have : na (Term.add (Term.add (Term.add t4 u) v) z) = na t4 + 1 + 1 + 1 := rfl
            omega
          | _ => exact hA.1.1.1.elim
        | _ => exact hA.1.1.elim
      | _ => exact hA.1.elim
    | _ => exact hA.elim
/-- the state in which working begins -/
def BGW (s : SM) (t : Term) (n hf : Int) (w : SM) : Prop := eqx [3, 18, 52, 54, 55, 56, 57, 58, 59, 60, 63] [4, 5, 6, 7, 17, 19, 20, 21, 64, 65] s w ∧ SX [52, 54, 55, 56, 57, 58, 59, 60, 63] [64, 65] s w ∧ (w.1 55 = hf ∧ w.1 52 = 1300 * hf ∧ w.1 54 = 640 * hf ∧ w.1 56 = 0 ∧ w.1 57 = n ∧ w.1 58 = 0 ∧ w.1 59 = 0 ∧ w.1 60 = -9) ∧ (∀ x, x ∈ fl t → w.2 21 x = (jdg s t).2.2 x) ∧ w.1 63 = (fl t).length ∧ ∀ (k : Nat) (x : Int), (fl t)[k]? = some x → w.2 64 k = x ∧ w.2 65 k = (jdg s t).2.2 x
section
variable {iv : List (Int × Int)} {L : Nat} {h0 : MH} {s : SM} {t : Term} {d : Nat}
theorem beginWork_ok {n hf : Int} {F : SM → Prop} (h : SHT s t) (hN : NB s) (hK : KIs s) (hD : 240 ≤ d) (hh : hf = 0 ∨ hf = 1) (hF : ∀ w, BGW s t n hf w → F w) : cm iv L h0 d 134 [vr 307, vi n, vi hf] s (qv F) := by
  obtain ⟨d, rfl⟩ : ∃ k, d = k + 1 := ⟨d - 1, by omega⟩
  have e1 : eqx [52, 54, 55, 56, 57, 58, 59, 60] [] s (us (us (us (us (us (us (us (us s 55 hf) 52 (1300 * hf)) 54 (640 * hf)) 56 0) 57 n) 58 0) 59 0) 60 (-9)) := eqx_us (eqx_us (eqx_us (eqx_us (eqx_us (eqx_us (eqx_us (eqx_us eqx.rf (by decide)) (by decide)) (by decide)) (by decide)) (by decide)) (by decide)) (by decide)) (by decide)
  generalize hs1 : us (us (us (us (us (us (us (us s 55 hf) 52 (1300 * hf)) 54 (640 * hf)) 56 0) 57 n) 58 0) 59 0) 60 (-9) = s1 at e1
  have v1 : s1.1 55 = hf ∧ s1.1 52 = 1300 * hf ∧ s1.1 54 = 640 * hf ∧ s1.1 56 = 0 ∧ s1.1 57 = n ∧ s1.1 58 = 0 ∧ s1.1 59 = 0 ∧ s1.1 60 = -9 := by rw [← hs1]; exact ⟨rfl, rfl, rfl, rfl, rfl, rfl, rfl, rfl⟩
  have x1 : SX [52, 54, 55, 56, 57, 58, 59, 60] [] s s1 := SX.eq e1 (by decide) (by decide)
  have ej : jdg s1 t = jdg s t := by
    unfold jdg
    rw [jds_e (e1.2 9 (by decide)) (e1.2 10 (by decide)) (e1.2 11 (by decide)) (e1.2 12 (by decide)) (e1.2 13 (by decide)) (e1.2 14 (by decide)) (e1.1 2 (by decide)) (fun k _ _ => by
      show kt (s1.2 4) (s1.2 5) (s1.2 6) k = _
      rw [e1.2 4 (by decide), e1.2 5 (by decide), e1.2 6 (by decide)])]
  refine B134 ⟨by omega, by omega, ?_⟩
  rw [hs1]
  refine jl_ok (h.x x1 (by decide) (by decide)) (hN.x x1 h.2.2.2.2.1.2 (by decide) (by decide)) (KI_x hK x1 (by decide) (by decide)) (by omega) (by omega) (fun w hw => ?_)
  obtain ⟨w1, w2, w3, w4, -⟩ := hw
  rw [ej] at w4
  have key : ∀ (m p : List Int) (x : SM), fl t = p ++ m → eqx [63] [64, 65] w x → x.1 63 = (fl t).length → (∀ (k : Nat) (y : Int), p[k]? = some y → x.2 64 k = y ∧ x.2 65 k = (jdg s t).2.2 y) → wm iv L h0 (d + 1) 134 73 [lr 307, ln, ln, li p.length] [] x (qv F) := by
    intro m
    induction m with
    | nil =>
      intro p x e x1' x2 x3
      have ep : p = fl t := by rw [e]; simp
      have e18 : x.1 18 = w.1 18 := x1'.1 18 (by decide)
      have hl := LR_nil w3 e
      refine B134_73 ⟨fun _ => hF x ⟨?_, ?_, ⟨?_, ?_, ?_, ?_, ?_, ?_, ?_, ?_⟩, fun y hy => ?_, x2, fun k y hk => x3 k y (by rw [ep]; exact hk)⟩, fun q => by omega⟩
      · exact (e1.up (fun y q => by simp at q ⊢; omega) (fun y q => by cases q)).tr ((w1.up (fun y q => by simp at q ⊢; omega) (fun y q => by simp at q ⊢; omega)).tr (x1'.up (fun y q => by simp at q ⊢; omega) (fun y q => by simp at q ⊢; omega)))
      · exact (x1.up (fun y q => by simp at q ⊢; omega) (fun y q => by cases q)).tr ((w2.up (fun y q => by cases q) (fun y q => by cases q)).tr (SX.eq x1' (by decide) (by decide)))
      · rw [x1'.1 55 (by decide), w1.1 55 (by decide)]; exact v1.1
      · rw [x1'.1 52 (by decide), w1.1 52 (by decide)]; exact v1.2.1
      · rw [x1'.1 54 (by decide), w1.1 54 (by decide)]; exact v1.2.2.1
      · rw [x1'.1 56 (by decide), w1.1 56 (by decide)]; exact v1.2.2.2.1
      · rw [x1'.1 57 (by decide), w1.1 57 (by decide)]; exact v1.2.2.2.2.1
      · rw [x1'.1 58 (by decide), w1.1 58 (by decide)]; exact v1.2.2.2.2.2.1
      · rw [x1'.1 59 (by decide), w1.1 59 (by decide)]; exact v1.2.2.2.2.2.2.1
      · rw [x1'.1 60 (by decide), w1.1 60 (by decide)]; exact v1.2.2.2.2.2.2.2
      · rw [x1'.2 21 (by decide)]; exact (w4 y hy).1
    | cons y m ih =>
      intro p x e x1' x2 x3
      obtain ⟨c1, c2⟩ := LR_cons w3 e
      obtain ⟨c3, hy⟩ := h.fl80 e
      have hyl := h.lt hy
      have e' := e
      rw [app1] at e'
      have el : ((p ++ [y]).length : Int) = p.length + 1 := by simp
      have e18 : x.1 18 = w.1 18 := x1'.1 18 (by decide)
      have e17 : x.2 17 = w.2 17 := x1'.2 17 (by decide)
      refine B134_73 ⟨fun q => by omega, fun _ => ?_⟩
      rw [e17, c1, x1'.2 21 (by decide), (w4 y hy).1]
      refine ⟨by omega, by omega, by omega, ?_⟩
      have := ih (p ++ [y]) (ua (ua x 64 p.length y) 65 p.length ((jdg s t).2.2 y)) e' (eqx_ua (eqx_ua x1' (by decide)) (by decide)) x2 (fun k y' hk => ?_)
      · rw [el] at this
        exact this
      · simp only [ua_2]
        by_cases hkp : k < p.length
        · rw [List.getElem?_append_left hkp] at hk
          rw [if_neg (by omega), if_neg (by omega), if_neg (by omega), if_neg (by omega)]
          exact x3 k y' hk
        · rw [List.getElem?_append_right (by omega)] at hk
          have hk0 : k = p.length := by
            have := (List.getElem?_eq_some_iff.mp hk).1
            simp at this
            omega
          subst hk0
          simp at hk
          subst hk
          simp
  exact key (fl t) [] _ rfl (eqx_us eqx.rf (by decide)) (by show w.1 18 = _; exact w3.1) (fun k y hk => by simp at hk)
/-- behind working -/
def enwU (s : SM) (v o : Int) : SM := (fun y => if y = 62 then v else if y = 35 then 0 else if y = 61 then o else s.1 y, fun f y => if f = 42 ∧ 0 ≤ y ∧ y < s.1 8 then 0 else s.2 f y)
def enwO (s : SM) (v : Int) : Int := if 0 < s.1 59 then s.1 59 else if s.2 51 v = 0 then 0 else 1
theorem endWork_ok {v : Int} {F : Int → SM → Prop} (h8 : 0 ≤ s.1 8 ∧ s.1 8 ≤ 3000) (hv : s.1 59 ≤ 0 → 0 ≤ v ∧ v < 2600) (hF : F (enwO s v) (enwU s v (enwO s v))) : cm iv L h0 d 135 [vr 307, vi v] s (qi F) := by
  have key : ∀ (m : Nat) (k : Int), 0 ≤ k → k + m = s.1 8 → wm iv L h0 d 135 2 [lr 307, li v, li k] [] (s.1, fun f y => if f = 42 ∧ 0 ≤ y ∧ y < k then 0 else s.2 f y) (qi F) := by
    intro m
    induction m with
    | zero =>
      intro k k0 hk
      have ek : k = s.1 8 := by omega
      subst ek
      have fin : ∀ o, o = enwO s v → F o (us (us (us ((s.1, fun f y => if f = 42 ∧ 0 ≤ y ∧ y < s.1 8 then 0 else s.2 f y) : SM) 62 v) 35 0) 61 o) := fun o ho => by
        rw [ho]
        refine (eqS (s := enwU s v (enwO s v)) ?_ (fun f y => rfl) : us (us (us ((s.1, fun f y => if f = 42 ∧ 0 ≤ y ∧ y < s.1 8 then 0 else s.2 f y) : SM) 62 v) 35 0) 61 (enwO s v) = enwU s v (enwO s v)) ▸ hF
        funext y
        show (if y = 61 then enwO s v else if y = 35 then 0 else if y = 62 then v else s.1 y) = if y = 62 then v else if y = 35 then 0 else if y = 61 then enwO s v else s.1 y
        by_cases e1 : y = 61
        · subst e1; rfl
        · rw [if_neg e1]
          by_cases e2 : y = 35
          · subst e2; rfl
          · rw [if_neg e2, if_neg e2, if_neg e1]
      have e51 : (if 51 = 42 ∧ 0 ≤ v ∧ v < s.1 8 then (0 : Int) else s.2 51 v) = s.2 51 v := if_neg (by omega)
      refine B135_2 ⟨fun _ => ⟨fun q => ⟨hv q, fun q2 => fin 0 ?_, fun q2 => fin 1 ?_⟩, fun q => fin _ ?_⟩, fun q => by have q : s.1 8 < s.1 8 := q; omega⟩
      · have q2 : (if 51 = 42 ∧ 0 ≤ v ∧ v < s.1 8 then (0 : Int) else s.2 51 v) = 0 := q2
        rw [e51] at q2
        have q : s.1 59 ≤ 0 := q
        unfold enwO
        rw [if_neg (by omega), if_pos q2]
      · have q2 : (if 51 = 42 ∧ 0 ≤ v ∧ v < s.1 8 then (0 : Int) else s.2 51 v) ≠ 0 := q2
        rw [e51] at q2
        have q : s.1 59 ≤ 0 := q
        unfold enwO
        rw [if_neg (by omega), if_neg q2]
      · have q : 0 < s.1 59 := q
        unfold enwO
        rw [if_pos q]
    | succ m ih =>
      intro k k0 hk
      have := ih (k + 1) (by omega) (by omega)
      refine B135_2 ⟨fun q => by have q : s.1 8 ≤ k := q; omega, fun _ => ⟨by omega, by omega, ?_⟩⟩
      refine (eqS rfl (fun y j => ?_) : ua ((s.1, fun f y => if f = 42 ∧ 0 ≤ y ∧ y < k then 0 else s.2 f y) : SM) 42 k 0 = (s.1, fun f y => if f = 42 ∧ 0 ≤ y ∧ y < k + 1 then 0 else s.2 f y)) ▸ this
      rw [ua_2]
      show (if y = 42 ∧ j = k then 0 else if y = 42 ∧ 0 ≤ j ∧ j < k then 0 else s.2 y j) = if y = 42 ∧ 0 ≤ j ∧ j < k + 1 then 0 else s.2 y j
      by_cases e1 : y = 42 ∧ 0 ≤ j ∧ j < k + 1
      · rw [if_pos e1]
        by_cases e2 : y = 42 ∧ j = k
        · rw [if_pos e2]
        · rw [if_neg e2, if_pos (by omega)]
      · rw [if_neg e1, if_neg (by omega), if_neg (by omega)]
  have := key (s.1 8).toNat 0 (by decide) (by omega)
  refine B135 ((eqS rfl (fun y j => ?_) : ((s.1, fun f y => if f = 42 ∧ 0 ≤ y ∧ y < 0 then 0 else s.2 f y) : SM) = s) ▸ this)
  exact if_neg (by omega)
end
