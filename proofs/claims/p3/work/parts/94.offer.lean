/-! offers(), offer(). -/
noncomputable def ofN (s : SM) (t : Term) : Nat → Int → List (Int × Int)
  | 0, _ => []
  | m + 1, x => (if bds s (s.1 16) x ≠ -9 ∧ ofB s t 3 x = true then [(3, x)] else []) ++ ofN s t m (x + 1)
noncomputable def ofO (s : SM) (t : Term) (so : Int) : List (Int × Int) := if ofB s t so 0 = true then [(so, -9)] else []
noncomputable def ofS (s : SM) (t : Term) : Nat → Int → List (Int × Int)
  | 0, _ => []
  | m + 1, so => ofO s t so ++ ofS s t m (so + 1)
/-- all offers -/
noncomputable def ofL (s : SM) (t : Term) : List (Int × Int) := ofN s t 26 0 ++ (ofO s t 1 ++ (ofO s t 2 ++ ofS s t 12 4))
theorem ofN_len (s : SM) (t : Term) : ∀ (m : Nat) (x : Int), (ofN s t m x).length ≤ m := by
  intro m
  induction m with
  | zero => intro x; exact Nat.le_refl 0
  | succ m ih =>
    intro x
    have := ih (x + 1)
    unfold ofN
    split <;> simp <;> omega
theorem ofO_len (s : SM) (t : Term) (so : Int) : (ofO s t so).length ≤ 1 := by
  unfold ofO
  split <;> simp
theorem ofS_len (s : SM) (t : Term) : ∀ (m : Nat) (x : Int), (ofS s t m x).length ≤ m := by
  intro m
  induction m with
  | zero => intro x; exact Nat.le_refl 0
  | succ m ih =>
    intro x
    have := ih (x + 1)
    have := ofO_len s t x
    show (ofO s t x ++ ofS s t m (x + 1)).length ≤ m + 1
    rw [List.length_append]
    omega
/-- the offers found so far -/
def OL (w : SM) (O : List (Int × Int)) : Prop := w.1 45 = O.length ∧ ∀ (j : Nat) (a : Int × Int), O[j]? = some a → w.2 43 j = a.1 ∧ w.2 44 j = a.2
theorem OL_add {w : SM} {O : List (Int × Int)} {a b : Int} (h : OL w O) : OL (us (ua (ua w 43 (w.1 45) a) 44 (w.1 45) b) 45 (w.1 45 + 1)) (O ++ [(a, b)]) := by
  obtain ⟨h1, h2⟩ := h
  refine ⟨?_, fun j c hj => ?_⟩
  · show w.1 45 + 1 = _
    rw [h1]; simp
  · simp only [us_2, ua_2]
    by_cases hjl : j < O.length
    · rw [List.getElem?_append_left hjl] at hj
      rw [if_neg (by omega), if_neg (by omega), if_neg (by omega), if_neg (by omega)]
      exact h2 j c hj
    · rw [List.getElem?_append_right (by omega)] at hj
      have hj0 : j = O.length := by
        have := (List.getElem?_eq_some_iff.mp hj).1
        simp at this
        omega
      subst hj0
      simp at hj
      subst hj
      rw [h1]
      simp
section
variable {iv : List (Int × Int)} {L : Nat} {h0 : MH} {s : SM} {t : Term} {d : Nat}
/-- one offer, wherever the others stand -/
theorem offer_ok {so v nm : Int} {F : SM → Prop} {O : List (Int × Int)} {x : SM} (h : AFT s t) (hK : KIs s) (ho : s.2 9 (s.1 16) = 0) (hso : 0 ≤ so ∧ so < 16) (hD : 301 ≤ d) (hx : SX [] [] s x) (hO : OL x O) (hl : O.length < 64) (hF : ∀ w, SX [] [] s w → OL w (O ++ if ofB s t so v = true then [(so, if nm = 0 then -9 else v)] else []) → F w) : cm iv L h0 d 117 [vr 307, vi so, vi v, vi nm] x (qv F) := by
  obtain ⟨d, rfl⟩ : ∃ k, d = k + 1 := ⟨d - 1, by omega⟩
  have e16 : x.1 16 = s.1 16 := hx.1 16 (by decide) (by decide)
  have hcl := h.1.lt h.2.2
  have hox : x.2 9 (x.1 16) = 0 := by rw [e16, hx.2 9 (by decide) (by decide) _ (by unfold scI; omega)]; exact ho
  refine B117 (isOffered_ok (h.x hx (by decide) (by decide)) (KI_x hK hx (by decide) (by decide)) hox hso (by omega) (fun w w1 w2 => ?_))
  rw [ofB_x h hK ho hx hso]
  have ws : SX [] [] s w := hx.tr w1
  have wO : OL w O := ⟨(w2.1 45 (by decide)).trans hO.1, fun j a hj => by rw [w2.2 43 (by decide), w2.2 44 (by decide)]; exact hO.2 j a hj⟩
  have w45 := wO.1
  cases hb : ofB s t so v with
  | false =>
    refine ⟨fun _ => hF w ws ?_, fun q => absurd rfl q⟩
    rw [hb, if_neg (by decide), List.append_nil]
    exact wO
  | true =>
    rw [hb, if_pos rfl] at hF
    have sx : ∀ b, SX [] [] s (us (ua (ua w 43 (w.1 45) so) 44 (w.1 45) b) 45 (w.1 45 + 1)) := fun b => ws.tr (SX.eq (eqx_us (eqx_ua (eqx_ua eqx.rf (ys := [45]) (fs := [43, 44]) (by decide)) (by decide)) (by decide)) (by decide) (by decide))
    refine ⟨fun q => absurd q (by decide), fun _ => ⟨by omega, fun e => ⟨by omega, hF _ (sx _) ?_⟩, fun e => ⟨by omega, hF _ (sx _) ?_⟩⟩⟩
    · rw [if_pos e]; exact OL_add wO
    · rw [if_neg e]; exact OL_add wO
theorem findOffers_ok {F : SM → Prop} (h : AFT s t) (hK : KIs s) (ho : s.2 9 (s.1 16) = 0) (hD : 310 ≤ d) (hF : ∀ w, SX [] [] s w → OL w (ofL s t) → F w) : cm iv L h0 d 118 [vr 307] s (qv F) := by
  obtain ⟨d, rfl⟩ : ∃ k, d = k + 1 := ⟨d - 1, by omega⟩
  have hcl := h.1.lt h.2.2
  have hDP := DP_up 61 70 _ (by decide) (DP_tree h.1 _ h.2.2)
  have bnds : ∀ x, SX [] [] s x → ∀ l, bnd (x.2 9) (x.2 10) (x.2 12) (x.2 13) 70 (x.1 16) l = bds s (s.1 16) l := fun x hx l => by
    have hxT := h.x hx (by decide) (by decide)
    rw [hx.1 16 (by decide) (by decide)]
    exact bnd_cg h.1.w hxT.1.w (fun z hz => hx.2 9 (by decide) (by decide) z (by have := h.1.lt hz; unfold scI; omega)) (fun z hz _ => hx.2 10 (by decide) (by decide) z (by have := h.1.lt hz; unfold scI; omega)) 70 _ l h.2.2
  have DPx : ∀ x, SX [] [] s x → DP (x.2 12) 70 (x.1 16) := fun x hx => by
    have hxT := h.x hx (by decide) (by decide)
    exact DP_up 61 70 _ (by decide) (DP_tree hxT.1 _ hxT.2.2)
  -- the last loop
  have l3 : ∀ (m : Nat) (so : Int) (x : SM) (O : List (Int × Int)), 4 ≤ so → so + m = 16 → SX [] [] s x → OL x O → O.length + m ≤ 60 → O ++ ofS s t m so = ofL s t → wm iv L h0 (d + 1) 118 56 [lr 307, li so] [] x (qv F) := by
    intro m
    induction m with
    | zero =>
      intro so x O s4 hm hx hO hl he
      rw [show ofS s t 0 so = [] from rfl, List.append_nil] at he
      exact B118_56 ⟨fun _ => hF x hx (by rw [← he]; exact hO), fun q => by omega⟩
    | succ m ih =>
      intro so x O s4 hm hx hO hl he
      refine B118_56 ⟨fun q => by omega, fun _ => offer_ok h hK ho (by omega) (by omega) hx hO (by omega) (fun w w1 w2 => ⟨by omega, ih (so + 1) w _ (by omega) (by omega) w1 w2 ?_ ?_⟩)⟩
      · have : (if ofB s t so 0 = true then [(so, if (0 : Int) = 0 then -9 else 0)] else []).length ≤ 1 := by split <;> simp
        rw [List.length_append]
        omega
      · rw [← he, List.append_assoc]
        rfl
  have l1 : ∀ (m : Nat) (l : Int) (x : SM) (O : List (Int × Int)), 0 ≤ l → l + m = 26 → SX [] [] s x → OL x O → O.length + m ≤ 26 → O ++ ofN s t m l = ofN s t 26 0 → wm iv L h0 (d + 1) 118 7 [lr 307, li l] [] x (qv F) := by
    intro m
    induction m with
    | zero =>
      intro l x O s4 hm hx hO hl he
      rw [show ofN s t 0 l = [] from rfl, List.append_nil] at he
      refine B118_7 ⟨fun _ => offer_ok h hK ho (by decide) (by omega) hx hO (by omega) (fun w w1 w2 => offer_ok h hK ho (by decide) (by omega) w1 w2 ?_ (fun v v1 v2 => l3 12 4 v _ (by decide) (by decide) v1 v2 ?_ ?_)), fun q => by omega⟩
      · have : (if ofB s t 1 0 = true then [((1 : Int), if (0 : Int) = 0 then -9 else 0)] else []).length ≤ 1 := by split <;> simp
        rw [List.length_append]
        omega
      · have a1 : (if ofB s t 1 0 = true then [((1 : Int), if (0 : Int) = 0 then -9 else 0)] else []).length ≤ 1 := by split <;> simp
        have a2 : (if ofB s t 2 0 = true then [((2 : Int), if (0 : Int) = 0 then -9 else 0)] else []).length ≤ 1 := by split <;> simp
        rw [List.length_append, List.length_append]
        omega
      · rw [he, List.append_assoc, List.append_assoc]
        rfl
    | succ m ih =>
      intro l x O s4 hm hx hO hl he
      have e16 : x.1 16 = s.1 16 := hx.1 16 (by decide) (by decide)
      refine B118_7 ⟨fun q => by omega, fun _ => binderOf_ok (n := 70) (by omega) (DPx x hx) ?_⟩
      rw [bnds x hx]
      refine ⟨fun q => ⟨by omega, ih (l + 1) x O (by omega) (by omega) hx hO (by omega) ?_⟩, fun q => offer_ok h hK ho (by decide) (by omega) hx hO (by omega) (fun w w1 w2 => ⟨by omega, ih (l + 1) w _ (by omega) (by omega) w1 w2 ?_ ?_⟩)⟩
      · rw [← he]
        show O ++ ofN s t m (l + 1) = O ++ ((if bds s (s.1 16) l ≠ -9 ∧ ofB s t 3 l = true then [((3 : Int), l)] else []) ++ ofN s t m (l + 1))
        rw [if_neg (fun c => c.1 q), List.nil_append]
      · have : (if ofB s t 3 l = true then [((3 : Int), if (1 : Int) = 0 then -9 else l)] else []).length ≤ 1 := by split <;> simp
        rw [List.length_append]
        omega
      · rw [← he, List.append_assoc]
        show O ++ ((if ofB s t 3 l = true then [((3 : Int), if (1 : Int) = 0 then -9 else l)] else []) ++ ofN s t m (l + 1)) = O ++ ((if bds s (s.1 16) l ≠ -9 ∧ ofB s t 3 l = true then [((3 : Int), l)] else []) ++ ofN s t m (l + 1))
        cases hb : ofB s t 3 l with
        | false => rw [if_neg (by decide), if_neg (fun c => by cases c.2)]
        | true => rw [if_neg (show ¬ (1 : Int) = 0 by decide), if_pos (show bds s (s.1 16) l ≠ -9 ∧ true = true from ⟨q, rfl⟩), if_pos rfl]
  refine B118 (l1 26 0 (us s 45 0) [] (by decide) (by decide) (SX.eq (eqx_us eqx.rf (ys := [45]) (fs := []) (by decide)) (by decide) (by decide)) ⟨rfl, fun j a hj => by simp at hj⟩ (by decide) rfl)
noncomputable def offA (s : SM) (t : Term) : Int := if s.2 9 (s.1 16) = 0 then (ofL s t).length else -4
theorem offers_ok {F : Int → SM → Prop} (h : AFT s t) (hK : KIs s) (hD : 320 ≤ d) (hF : ∀ w, SX [] [] s w → F (offA s t) w) : cm iv L h0 d 119 [vr 307] s (qi F) := by
  obtain ⟨d, rfl⟩ : ∃ k, d = k + 1 := ⟨d - 1, by omega⟩
  have hcl := h.1.lt h.2.2
  unfold offA at hF
  refine B119 ⟨by omega, fun ho => findOffers_ok h hK ho (by omega) (fun w w1 w2 => ?_), fun ho => ?_⟩
  · have := hF w w1
    rw [if_pos ho, ← w2.1] at this
    exact this
  · have := hF s SX.rf
    rw [if_neg ho] at this
    exact this
noncomputable def of2A (s : SM) (t : Term) (i k : Int) : Int := if 0 ≤ k ∧ k ≤ 1 then (if s.2 9 (s.1 16) = 0 then (if 0 ≤ i then (match (ofL s t)[i.toNat]? with
  | none => -9
  | some a => if k = 0 then a.1 else a.2) else -9) else -4) else -1
theorem offer2_ok {i k : Int} {F : Int → SM → Prop} (h : AFT s t) (hK : KIs s) (hD : 320 ≤ d) (hF : ∀ w, SX [] [] s w → F (of2A s t i k) w) : cm iv L h0 d 120 [vr 307, vi i, vi k] s (qi F) := by
  obtain ⟨d, rfl⟩ : ∃ k, d = k + 1 := ⟨d - 1, by omega⟩
  have hcl := h.1.lt h.2.2
  have hlen : (ofL s t).length ≤ 40 := by
    unfold ofL
    have a1 := ofN_len s t 26 0
    have a2 := ofO_len s t 1
    have a3 := ofO_len s t 2
    have a4 := ofS_len s t 12 4
    simp only [List.length_append]
    omega
  unfold of2A at hF
  refine B120 ⟨fun hk => ⟨by omega, fun ho => findOffers_ok h hK ho (by omega) (fun w w1 w2 => ?_), fun ho => ?_⟩, fun hk => ?_⟩
  · have h2 := hF w w1
    rw [if_pos hk, if_pos ho] at h2
    have h45 := w2.1
    refine ⟨by omega, fun hi => ?_, fun hi => ?_⟩
    · have hlt : i.toNat < (ofL s t).length := by omega
      have g := w2.2 i.toNat _ (List.getElem?_eq_getElem hlt)
      rw [show ((i.toNat : Nat) : Int) = i by omega] at g
      rw [if_pos hi.1, List.getElem?_eq_getElem hlt] at h2
      refine ⟨fun e => ⟨by omega, ?_⟩, fun e => ⟨by omega, ?_⟩⟩
      · rw [g.2]
        have h3 : F (if k = 0 then _ else _) w := h2
        rw [if_neg e] at h3
        exact h3
      · rw [g.1]
        have h3 : F (if k = 0 then _ else _) w := h2
        rw [if_pos e] at h3
        exact h3
    · by_cases h0 : 0 ≤ i
      · rw [if_pos h0, List.getElem?_eq_none (by omega)] at h2
        exact h2
      · rw [if_neg h0] at h2
        exact h2
  · have := hF s SX.rf
    rw [if_pos hk, if_neg ho] at this
    exact this
  · have := hF s SX.rf
    rw [if_neg (by omega)] at this
    exact this
end
