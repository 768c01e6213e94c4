/-! Writing a hole, what waits on one; write1. -/
/-- a value of nodes born, in the sheet or not -/
def VB (s : SM) : Term → Prop
  | .int _ => True
  | .arg n => n ≤ 1
  | .index x => x < 26
  | .sub (.index d) E => (d : Int) < s.1 8 ∧ isE 26 E ∧ VB s E
  | .add A B => (isV A = true ∧ VB s A) ∧ isV B = true ∧ VB s B
  | .div (.index b) E => (b : Int) < s.1 8 ∧ isE 26 E ∧ VB s E
  | .length A => isV A = true ∧ VB s A
  | .rem (.index n) (.elem A (.elem B E)) => ((n : Int) < s.1 8 ∧ isV A = true ∧ VB s A) ∧ ((isV B = true ∧ VB s B) ∨ B = .null) ∧ ((isE 26 E ∧ VB s E) ∨ E = .null)
  | .mul r x => VB s r ∧ (x = .null ∨ (isV x = true ∧ VB s x))
  | .null => True
  | _ => False
theorem VB_g {s : SM} {t : Term} {g : Int → Int} (hT : SHT s t) : ∀ (n : Nat) (V : Term), SizeOf.sizeOf V < n → VG s t g V → VB s V := by
  intro n
  induction n with
  | zero => intro V h; omega
  | succ n ih =>
    intro V hn h
    cases V with
    | int z => trivial
    | arg z => exact h
    | index x => exact h
    | null => trivial
    | sub d E =>
      cases d with
      | index d => exact ⟨(hT.lt h.1.1).2.1, h.2.2.1, ih E (by simp at hn; omega) h.2.2.2⟩
      | _ => exact h.elim
    | add A B => exact ⟨⟨h.1.1, ih A (by simp at hn; omega) h.1.2⟩, h.2.1, ih B (by simp at hn; omega) h.2.2⟩
    | div d E =>
      cases d with
      | index b => exact ⟨h.1.1, h.2.2.1, ih E (by simp at hn; omega) h.2.2.2⟩
      | _ => exact h.elim
    | length A => exact ⟨h.1, ih A (by simp at hn; omega) h.2⟩
    | rem b q =>
      cases b with
      | index b =>
        cases q with
        | elem A q =>
          cases q with
          | elem B E =>
            obtain ⟨⟨b1, a1, a2⟩, hc⟩ := h
            refine ⟨⟨(hT.lt b1).2.1, a1, ih A (by simp at hn; omega) a2⟩, ?_⟩
            rcases hc with ⟨_, c2, c3, c4⟩ | ⟨_, c2, c3, _, c5⟩ | ⟨_, c2, c3⟩
            · exact ⟨Or.inl ⟨c2, ih B (by simp at hn; omega) c3⟩, Or.inr c4⟩
            · exact ⟨Or.inr c2, Or.inl ⟨c3, ih E (by simp at hn; omega) c5⟩⟩
            · exact ⟨Or.inr c2, Or.inr c3⟩
          | _ => exact h.elim
        | _ => exact h.elim
      | _ => exact h.elim
    | mul r x =>
      have h : VG s t g r ∧ (x = .null ∨ (isV x = true ∧ VG s t g x)) := h
      exact ⟨ih r (by simp at hn; omega) h.1, h.2.imp id (fun q => ⟨q.1, ih x (by simp at hn; omega) q.2⟩)⟩
    | _ => exact h.elim
section
variable {iv : List (Int × Int)} {L : Nat} {h0 : MH} {s w : SM} {t : Term} {lo hi elo ehi : Int} {o : List Int × List Term} {d : Nat}
theorem wv_div {n : Nat} {E : Term} (hb : 0 ≤ lo ∧ hi ≤ 2600) (hx : n < 3000) : WV iv L h0 s lo hi elo ehi (.div (.index n) E) := fun v o w d F hv h d4 _ hF => by
  have k := hv
  obtain ⟨_, ⟨k0, k1, k2, -⟩, -⟩ := k
  have c1 := h.c (f := 46) (v := v) (by decide)
  obtain ⟨h1, h2, h3, h4⟩ := h
  have hl := h2.1
  refine B145 ⟨fun q => ⟨by omega, fun q => by omega, fun q => by omega, fun q => by omega, fun q => by omega, fun _ => ⟨by omega, by omega, ?_⟩, fun q => by omega, fun q => by omega, fun q => by omega⟩, fun q => wv_full (V := .div (.index n) E) rfl ⟨h1, h2, h3, h4⟩ q hF⟩
  have q400 : o.1.length < 400 := by omega
  have eg : outT (s.2 9) (.div (.index n) E) o = pN n (pB 63 (o.1, o.2 ++ [.div (.index n) E])) := if_neg (by omega)
  rw [eg] at hF
  have x1 : eqx [67, 69] [66, 68, 70] s (us (ua w 68 (w.1 69) v) 69 (w.1 69 + 1)) := eqx_us (eqx_ua h1 (by decide)) (by decide)
  have hlB := (outB_len o.1 63).2.1 q400
  have eB : BY (us (ua w 68 (w.1 69) v) 69 (w.1 69 + 1)) o.1 := ⟨h2.1, fun k x hk => by
    show (if 66 = 68 ∧ (k : Int) = w.1 69 then v else w.2 66 k) = x
    rw [if_neg (by omega)]
    exact h2.2 k x hk⟩
  refine out_ok eB (fun u u1 u2 => ?_)
  have hu : OU s lo hi elo ehi (pB 63 (o.1, o.2 ++ [.div (.index n) E])) u := by
    refine ⟨x1.tr (u1.up (fun y q => by simp at q ⊢; omega) (fun y q => by simp at q ⊢; omega)), u2, ⟨?_, ?_⟩, fun k V hk => ?_⟩
    · rw [u1.1 69 (by decide)]
      show w.1 69 + 1 = ((o.2 ++ [Term.div (.index n) E]).length : Nat)
      simp; omega
    · show (o.2 ++ [Term.div (.index n) E]).length ≤ (outB o.1 63).length
      simp; omega
    · rw [u1.2 68 (by decide)]
      show VR s lo hi elo ehi V (if 68 = 68 ∧ (k : Int) = w.1 69 then v else w.2 68 k) ∧ isW V = true
      rcases app_at hk with hk | ⟨rfl, rfl⟩
      · have := (List.getElem?_eq_some_iff.mp hk).1
        rw [if_neg (by omega)]
        exact h4 k V hk
      · rw [if_pos ⟨rfl, h3.1.symm⟩]
        exact ⟨hv, rfl⟩
  rw [hu.c (f := 47) (v := v) (by decide), k2]
  have hl2 : o.1.length ≤ (pB 63 (o.1, o.2 ++ [Term.div (.index n) E])).1.length := (outB_len o.1 63).1
  exact oN (by omega) (by omega) hu (fun u' hu' e' => hF u' hu' (Nat.le_trans hl2 e'))
theorem outZ_ok {n : Nat} {F : SM → Prop} {q : Prop} (hx : n < 3000) (hd : 1 ≤ d) (h : OU s lo hi elo ehi o w) (hF : ∀ u, OU s lo hi elo ehi (outZ (s.2 9 n) n o) u → o.1.length ≤ (outZ (s.2 9 n) n o).1.length → F u) (v : Int) (hv : s.2 47 v = n) : (0 ≤ w.2 47 v ∧ w.2 47 v < 3004) ∧ ((w.2 9 (w.2 47 v) ≠ 11 → cm iv L h0 d 141 [vr 307, vi 41] w (qv fun s30 => F s30)) ∧ (w.2 9 (w.2 47 v) = 11 → cm iv L h0 d 141 [vr 307, vi 32] w (qv fun s31 => cm iv L h0 d 142 [vr 307, vi (s31.2 47 v)] s31 (qv fun s32 => cm iv L h0 d 141 [vr 307, vi 41] s32 (qv fun s33 => F s33))))) := by
  rw [h.c (f := 47) (v := v) (by decide), hv, h.c (f := 9) (v := n) (by decide)]
  unfold outZ at hF
  refine ⟨by omega, fun q => ?_, fun q => ?_⟩
  · rw [if_neg q] at hF
    exact oB h (fun u hu e => hF u hu e.1)
  · rw [if_pos q] at hF
    refine oB h (fun u1 h1 e1 => ?_)
    rw [h1.c (f := 47) (v := v) (by decide), hv]
    exact oN (by omega) hd h1 (fun u2 h2 e2 => oB h2 (fun u3 h3 e3 => hF u3 h3 (by omega)))
theorem wv_rem {n : Nat} {A B E : Term} (hb : 0 ≤ lo ∧ hi ≤ 2600) (hx : n < 3000) (hA : WV iv L h0 s lo hi elo ehi A) (hB : isV B = true → WV iv L h0 s lo hi elo ehi B) (hBn : B = .null ∨ isV B = true) : WV iv L h0 s lo hi elo ehi (.rem (.index n) (.elem A (.elem B E))) := fun v o w d F hv h d4 dl hF => by
  have k := hv
  obtain ⟨a, b, e, ⟨k0, k1, k2, k3, k4, -⟩, ka, kb, -⟩ := k
  have c1 := h.c (f := 46) (v := v) (by decide)
  refine B145 ⟨fun q => ⟨by omega, fun q => by omega, fun q => by omega, fun q => by omega, fun q => by omega, fun q => by omega, fun q => by omega, fun q => by omega, fun _ => ?_⟩, fun q => wv_full (V := .rem (.index n) (.elem A (.elem B E))) rfl h q hF⟩
  have g2 : o.1.length < 400 := (gd_lt (x := o) h (by assumption)).2
  have eg : outT (s.2 9) (.rem (.index n) (.elem A (.elem B E))) o = outZ (s.2 9 n) n (if isV B = true then outT (s.2 9) B (pB 32 (outT (s.2 9) A (pB 32 (pW (wrd (s.2 9 n)) (pB 40 o))))) else outT (s.2 9) A (pB 32 (pW (wrd (s.2 9 n)) (pB 40 o)))) := if_neg (by omega)
  rw [eg] at hF
  obtain ⟨d, rfl⟩ : ∃ k, d = k + 1 := ⟨d - 1, by omega⟩
  refine oB h (fun u1 h1 e1 => ?_)
  have e1' := e1.2 g2
  rw [h1.c (f := 47) (v := v) (by decide), k2, h1.c (f := 9) (v := n) (by decide)]
  refine ⟨by omega, wrd_ok (oW (wrd_in _) (by omega) h1 (fun u2 h2 e2 => oB h2 (fun u3 h3 e3 => ?_)))⟩
  rw [h3.c (f := 48) (v := v) (by decide), k3]
  refine hA a _ u3 d _ ka h3 (by omega) (by omega) (fun u4 h4 e4 => ?_)
  rw [h4.c (f := 49) (v := v) (by decide), k4]
  rcases kb with ⟨rfl, rfl⟩ | ⟨kn, kb⟩
  · rw [if_neg (by decide)] at hF
    refine ⟨fun _ => outZ_ok (q := True) hx (by omega) h4 (fun u hu eu => hF u hu (by omega)) v k2, fun q => absurd rfl q⟩
  · have hvB := hBn.resolve_left kn
    have kB := VR_kind hvB kb
    rw [if_pos hvB] at hF
    refine ⟨fun q => by omega, fun _ => oB h4 (fun u5 h5 e5 => ?_)⟩
    rw [h5.c (f := 49) (v := v) (by decide), k4]
    exact hB hvB b _ u5 d _ kb h5 (by omega) (by omega) (fun u6 h6 e6 => outZ_ok (q := True) hx (by omega) h6 (fun u hu eu => hF u hu (by omega)) v k2)
theorem wv_all (hb : 0 ≤ lo ∧ hi ≤ 2600) (h8 : s.1 8 ≤ 3000) : ∀ (n : Nat) (V : Term), SizeOf.sizeOf V < n → isV V = true → VB s V → WV iv L h0 s lo hi elo ehi V := by
  intro n
  induction n with
  | zero => intro V hn; omega
  | succ n ih =>
    intro V hn hv hV
    cases V with
    | int z => exact wv_int hb
    | arg z => exact wv_arg hb
    | index x => exact wv_index hb hV
    | sub x E =>
      cases x with
      | index x =>
        have := hV.1
        exact wv_sub hb (by omega)
      | _ => cases hv
    | add A B => exact wv_add hb (ih A (by simp at hn; omega) hV.1.1 hV.1.2) (ih B (by simp at hn; omega) hV.2.1 hV.2.2)
    | div x E =>
      cases x with
      | index x =>
        have := hV.1
        exact wv_div hb (by omega)
      | _ => cases hv
    | length A => exact wv_len hb (ih A (by simp at hn; omega) hV.1 hV.2)
    | rem x q =>
      cases x with
      | index x =>
        cases q with
        | elem A q =>
          cases q with
          | elem B E =>
            obtain ⟨⟨b1, a1, a2⟩, hc⟩ := hV
            refine wv_rem hb (by omega) (ih A (by simp at hn; omega) a1 a2) (fun hB => ?_) (hc.1.symm.imp id (fun q => q.1))
            rcases hc.1 with c | c
            · exact ih B (by simp at hn; omega) c.1 c.2
            · rw [c] at hB; cases hB
          | _ => cases hv
        | _ => cases hv
      | _ => cases hv
    | _ => cases hv
/-- write1: a value's bytes and holes -/
def wrt (s : SM) (V : Term) : List Int × List Term := outT (s.2 9) V ([], [])
theorem write1_ok {V : Term} {v : Int} {F : SM → Prop} (hb : 0 ≤ lo ∧ hi ≤ 2600) (h8 : s.1 8 ≤ 3000) (hV : isV V = true ∧ VB s V) (hv : VR s lo hi elo ehi V v) (hw : eqx [67, 69] [66, 68, 70] s w) (hd : 406 ≤ d) (hF : ∀ u, OU s lo hi elo ehi (wrt s V) u → F u) : cm iv L h0 d 146 [vr 307, vi v] w (qv F) := by
  obtain ⟨d, rfl⟩ : ∃ k, d = k + 2 := ⟨d - 2, by omega⟩
  refine B146 (wv_all hb h8 (SizeOf.sizeOf V + 1) V (Nat.lt_succ_self _) hV.1 hV.2 v ([], []) _ d _ hv ⟨eqx_us (eqx_us hw (by decide)) (by decide), ⟨⟨rfl, by decide⟩, fun k x hk => by simp at hk⟩, ⟨rfl, Nat.le_refl _⟩, fun k V hk => by simp at hk⟩ (by omega) (by show 404 ≤ d + 0; omega) (fun u hu _ => hF u hu))
end
