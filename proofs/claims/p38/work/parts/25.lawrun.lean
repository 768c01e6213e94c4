/-! The law's run is a run of the small machine: what is left to show is reckoned there. -/
theorem law_run {p : Program} {e : Env} {s : State} {m : MethodId} {below : List Frame} {meth : Method} {c : Code} (l : Launch) {b L : Nat} {xs : Nat → Int32} (C0 : lw_At p s m meth c b L xs) {ρ : Nat → Int32} (hρ : ∀ j, j < L → ρ j = xs j) {d k' n' : Nat} {h' : MH}
    (hB : ∀ (D : va_G) (dA : Nat → ClassId) (pre : Nat → Nat) (base : Nat), mBody l D cl0 dA pre base ρ tyL0 Ts0 NW0 (mG L (fun _ => 0)) YB0 d 255 0 [(0, .ref 0)] [] (64, []) 0 0 (some (.int 1)) h' k' n') (hd : d ≤ 2040) (hk : k' ≤ 600000) (hn : n' ≤ 7302250) :
    W p l e room_1 s m #[Value.ref b] below meth c s.heap [] 0 0 (lw_Z below #[Value.ref b] s) (entryFrame m ([Value.ref b] : List Value).toArray 4) := by
  obtain ⟨hx, hb, hr0, hml, hown, hts, hX, hbl, hlocks, hgv⟩ := id C0
  have hts0 : ∀ w ∈ Ts0, w.before #[Value.ref b] s = true := fun w hw => hts w (List.mem_filter.mp hw).1
  have hnw := NW0_of hts
  obtain ⟨D, hD⟩ := cls_of hts0
  obtain ⟨dA, hdA⟩ := tys_of hts0 hnw
  obtain ⟨t, ht, hz⟩ := parts_of hts hgv
  have hTX : ∃ tq : Nat → Nat, ∀ k : Nat, k < NS0 → vk_R (SN0.getD k ("", 0, "")).1 (SN0.getD k ("", 0, "")).2.1 (SN0.getD k ("", 0, "")).2.2 (tq k) s ∧ txF s.heap.size (tq k) (sstr.getD k []).length (fun j => (sstr.getD k []).getD j 0) s := Classical.axiomOfChoice (texts_of hts hgv)
  obtain ⟨tq, htq⟩ := hTX
  have hK : va_K D cl0 (mty dA tyL0) s := by
    refine ⟨hD, fun k q hq => ?_⟩
    unfold mty at hq
    rw [List.getElem?_map] at hq
    obtain ⟨j, hj, rfl⟩ := Option.map_eq_some_iff.mp hq
    have hj2 : k < tyL0.length ∧ j = k := by
      have h1 := (List.getElem?_eq_some_iff.mp hj)
      obtain ⟨h2, h3⟩ := h1
      rw [List.length_range] at h2
      rw [List.getElem_range] at h3
      exact ⟨h2, h3.symm⟩
    obtain ⟨h2, rfl⟩ := hj2
    have h4 : tyL0[j]? = some (tyL0.getD j .int) := by
      rw [List.getD, List.getElem?_eq_getElem h2]
      rfl
    exact hdA j _ h4
  let pre : Nat → Nat := fun k => if k = 0 then b else if k < 8 then t else tq (k - 8)
  have hFx : mFx D cl0 dA pre s.heap.size ρ tyL0 NW0 (mG L (fun _ => 0)) s := by
    refine ⟨hK, Nat.le_refl _, fun a n g hg h8 => ?_, hnw, hz, zq_of hts hgv, cs_of hts hgv, fun q hq => ?_, fun a n f hg h8 h9 => ?_⟩
    have hg1 : mext L (fun _ => 0) a = some (n, g) := hg
    unfold mext at hg1
    by_cases h0 : a = 0
    · rw [if_pos h0] at hg1
      cases hg1
      subst h0
      obtain ⟨scr, x1, x2, x3, x4, x5⟩ := hX
      exact ⟨scr, x1, x2, x3, by omega, by rw [x4], fun j hj => by simp only [if_pos]; rw [x5 j hj, hρ j hj], Nat.not_le.mpr hbl⟩
    · rw [if_neg h0] at hg1
      by_cases h1 : a = 1
      · rw [if_pos h1] at hg1
        cases hg1
        subst h1
        exact ht
      · rw [if_neg h1, if_pos h8] at hg1
        cases hg1
    · obtain ⟨k, hk, rfl⟩ := SS0_at q hq
      have h1 := (htq k hk).1
      show vk_R _ _ _ (if 8 + k = 0 then b else if 8 + k < 8 then t else tq (8 + k - 8)) s
      rw [if_neg (by omega), if_neg (by omega), Nat.add_sub_cancel_left]
      exact h1
    · have h8' : 8 ≤ a := h8
      have h9' : a < 8 + NS0 := h9
      have hk : a - 8 < NS0 := by omega
      obtain ⟨e1, e2, e3⟩ := sstr_at (a - 8) hk
      have hg : mext L (fun _ => 0) a = some (n, f) := hg
      unfold mext at hg
      rw [if_neg (by omega), if_neg (by omega), if_neg (by omega), e1] at hg
      cases hg
      have h1 := (htq (a - 8) hk).2
      refine ⟨?_, e2, e3⟩
      show txF s.heap.size (if a = 0 then b else if a < 8 then t else tq (a - 8)) _ _ s
      rw [if_neg (by omega), if_neg (by omega)]
      exact h1
  have hCx : mCx p s m #[Value.ref b] c D cl0 dA pre s.heap.size ρ tyL0 Ts0 (mG L (fun _ => 0)) (YB0 255).2 (YB0 255).1.cls ((mG L (fun _ => 0)).2.1 255) := ⟨hx, hb, hml, hown, hts0, hK, Nat.le_refl _, hFx.2.2.1⟩
  have hrun := hB D dA pre s.heap.size p e s m #[Value.ref b] below meth c hCx hFx hlocks hr0 (fun q => absurd (show ("law" : String) = "<init>" from q) (by decide))
  have hl := lv_entry ([.ref b]) (n := 4) (Nat.le_of_ble_eq_true rfl)
  rw [lg_entry_eq]
  have hW := hrun _ s.heap [] hl ⟨rfl, (fun k q h => by cases h), rfl⟩ va_S.rf rfl
  intro T hT X
  have hroom : s.hasRoom e.platform (rmOf d k' n') = true := room_le X.room (by show d + 8 ≤ 2048; omega) hk hn (by show 400 + 40 * d ≤ 84000; omega)
  obtain ⟨t2, a1, o, b1, b2, ⟨b3, -⟩, L1, ⟨f1, f2, f3⟩, hL1⟩ := hW T hT { X with room := hroom }
  refine ⟨t2, a1, o, b1, b2, b3, f1, f2, ?_⟩
  exact f3.weaken (fun y hy hlt => absurd hlt (Nat.not_lt.mpr (hL1 y hy))) hk hn
/-- one instruction of the law, on -/
theorem body_on {l : Launch} {D : va_G} {dA : Nat → ClassId} {pre : Nat → Nat} {base : Nat} {ρ : Nat → Int32} {L : Nat} {iv : List (Int × Int)} (hI : ivP ρ iv) {d M pc k n k' n' nx x y : Nat} {i : Instr} {ls : ML} {st : List Value} {h h' : MH} {v : Option Value} {z : Nat × ML × List Value × MH × Nat × Nat}
    (he : (mG L (fun _ => 0)).1 M pc = some (i, nx, x, y)) (hk : ikd i = 0) (hz : stepI iv (mG L (fun _ => 0)) M pc i nx x y ls st h = some (.inl z)) (hc : k + z.2.2.2.2.1 ≤ k') (hn : n + z.2.2.2.2.2 ≤ n')
    (hb : mBody l D cl0 dA pre base ρ tyL0 Ts0 NW0 (mG L (fun _ => 0)) YB0 d M z.1 z.2.1 z.2.2.1 z.2.2.2.1 (k + z.2.2.2.2.1) (n + z.2.2.2.2.2) v h' k' n') : mBody l D cl0 dA pre base ρ tyL0 Ts0 NW0 (mG L (fun _ => 0)) YB0 d M pc ls st h k n v h' k' n' := by
  intro p e s m args below meth c X hF hlocks hret hname
  exact stp_on X hI hF tyL0_ok hname (hE0 M pc i nx x y he (by rw [hk]; decide)) hk hc hn hz (hb p e s m args below meth c X hF hlocks hret hname)
theorem body_call {l : Launch} {D : va_G} {dA : Nat → ClassId} {pre : Nat → Nat} {base : Nat} {ρ : Nat → Int32} {L : Nat} {iv : List (Int × Int)} (hI : ivP ρ iv) {d M pc k n k' n' nx x y f cy pc' k1 n1 : Nat} {i : Instr} {ls : ML} {st as r : List Value} {h h1 h' : MH} {v v1 : Option Value}
    (he : (mG L (fun _ => 0)).1 M pc = some (i, nx, x, y)) (hk : ikd i = 3) (hz : stepI iv (mG L (fun _ => 0)) M pc i nx x y ls st h = some (.inr (.inl (cy, as, r, pc')))) (h8 : mwid r ≤ 8) (hw : mwid as ≤ (mG L (fun _ => 0)).2.1 cy) (h21 : (mG L (fun _ => 0)).2.1 cy ≤ 21)
    (hr : mrun iv (mG L (fun _ => 0)) f d cy 0 (ment 0 as) [] h 0 0 = some (v1, h1, k1, n1)) (hc : k + k1 ≤ k') (hn : n + n1 ≤ n')
    (hb : mBody l D cl0 dA pre base ρ tyL0 Ts0 NW0 (mG L (fun _ => 0)) YB0 (d + 1) M pc' ls (v1.toList ++ r) h1 (k + k1) (n + n1) v h' k' n') : mBody l D cl0 dA pre base ρ tyL0 Ts0 NW0 (mG L (fun _ => 0)) YB0 (d + 1) M pc ls st h k n v h' k' n' := by
  intro p e s m args below meth c X hF hlocks hret hname
  exact stp_call NW0_nst Ts0_good X hF (hE0 M pc i nx x y he (by rw [hk]; decide)) hk hz h8 hw h21 (mrun_ok hI tyL0_ok NW0_nst Ts0_good (fun M pc i nx x y he hk => hE0 M pc i nx x y he hk) f d cy 0 _ _ _ _ _ _ _ _ _ hr) hc hn (hb p e s m args below meth c X hF hlocks hret hname)
theorem body_run {l : Launch} {D : va_G} {dA : Nat → ClassId} {pre : Nat → Nat} {base : Nat} {ρ : Nat → Int32} {L : Nat} {iv : List (Int × Int)} (hI : ivP ρ iv) {f d M pc k n k' n' : Nat} {ls : ML} {st : List Value} {h h' : MH} {v : Option Value}
    (hr : mrun iv (mG L (fun _ => 0)) f d M pc ls st h k n = some (v, h', k', n')) : mBody l D cl0 dA pre base ρ tyL0 Ts0 NW0 (mG L (fun _ => 0)) YB0 d M pc ls st h k n v h' k' n' :=
  mrun_ok hI tyL0_ok NW0_nst Ts0_good (fun M pc i nx x y he hk => hE0 M pc i nx x y he hk) f d M pc _ _ _ _ _ _ _ _ _ hr
