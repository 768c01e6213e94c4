/-! The desk remembers its sheet. -/
def kys : List (Nat × Nat) := [(8, 6), (8, 7), (9, 4), (9, 5)]
section
variable {iv : List (Int × Int)} {L : Nat} {h0 : MH} {A : Int → Nat} {c e : SC} {s : SM} {t : Term} {d : Nat}
theorem SNc.up {a : Nat} {u : Snap} (h : SNc A c a u) (h1 : fI e a 4 = fI c a 4 ∧ fR e a 5 = fR c a 5) (h2 : aR e (a + 1) = aR c (a + 1) ∧ aR e (a + 2) = aR c (a + 2) ∧ aI e (a + 3) = aI c (a + 3) ∧ aI e (a + 4) = aI c (a + 4)) : SNc A e a u := by
  unfold SNc
  rw [h1.1, h1.2, h2.1, h2.2.1, h2.2.2.1, h2.2.2.2]
  exact h
theorem mod20 {n : Int} (h0 : 0 ≤ n) (h1 : n < 20) : (n + 1) - (n + 1).tdiv 20 * 20 = if n = 19 then 0 else n + 1 := by
  by_cases e : n = 19
  · subst e; decide
  · rw [if_neg e, Int.tdiv_eq_zero_of_lt (by omega) (by omega)]; omega
theorem push_get {K : List Snap} {u w : Snap} {i : Nat} (h : (push K u)[i]? = some w) (h20 : K.length ≤ 20) : ((push K u).length = if K.length = 20 then 20 else K.length + 1) ∧ ((i + 1 = (push K u).length ∧ w = u) ∨ (i + 1 < (push K u).length ∧ K[if K.length = 20 then i + 1 else i]? = some w)) := by
  unfold push at h ⊢
  have hlen : ((if K.length = 20 then K.tail else K) ++ [u]).length = if K.length = 20 then 20 else K.length + 1 := by
    rw [List.length_append]
    by_cases q : K.length = 20
    · rw [if_pos q, if_pos q, List.length_tail, q]; rfl
    · rw [if_neg q, if_neg q]; rfl
  refine ⟨hlen, ?_⟩
  rw [hlen]
  by_cases q : K.length = 20
  · rw [if_pos q] at h ⊢
    have hl : K.tail.length = 19 := by rw [List.length_tail, q]
    by_cases hi : i < 19
    · rw [List.getElem?_append_left (by omega), List.getElem?_tail] at h
      right
      exact ⟨by omega, by rw [if_pos q]; exact h⟩
    · rw [List.getElem?_append_right (by omega)] at h
      left
      have : i - K.tail.length = 0 := by
        cases hq : i - K.tail.length with
        | zero => rfl
        | succ z => rw [hq] at h; simp at h
      rw [this] at h
      simp at h
      exact ⟨by omega, h.symm⟩
  · rw [if_neg q] at h ⊢
    by_cases hi : i < K.length
    · rw [List.getElem?_append_left hi] at h
      right
      exact ⟨by omega, by rw [if_neg q]; exact h⟩
    · rw [List.getElem?_append_right (by omega)] at h
      left
      have : i - K.length = 0 := by
        cases hq : i - K.length with
        | zero => rfl
        | succ z => rw [hq] at h; simp at h
      rw [this] at h
      simp at h
      exact ⟨by omega, h.symm⟩
theorem remember_ok {K : List Snap} {F : SC → Prop} (hX : FIX c) (hN : ND A c s) (hH : HG A c s t) (hL : LST A c t) (h : SHT s t) (hc : fR c 70 2 = A (s.1 16)) (hK : KSc A c K) (hF : ∀ e, CX kys snR c e → RMk 0 0 c e → KSc A e (push K (t, s)) → F e) : ck iv L h0 (d + 1) 219 [vr 70] c (qv F) := by
  obtain ⟨⟨k1, k2, k3, k4⟩, k5⟩ := hK
  have hk : kl c 70 = 8 ∧ fR c 70 5 = 72 ∧ kl c 72 = 104 ∧ le c 72 = 20 := by simp only [hX.1]; exact ⟨trivial, trivial, trivial, trivial⟩
  have hm := mod20 k3 k4
  generalize hn : fI c 70 6 = n at *
  have hm0 : 0 ≤ (if n = 19 then (0 : Int) else n + 1) ∧ (if n = 19 then (0 : Int) else n + 1) < 20 := by split <;> omega
  have hi : (if n = 19 then (0 : Int) else n + 1).toNat < 20 := by omega
  have hix : (if n = 19 then (0 : Int) else n + 1) = (((if n = 19 then (0 : Int) else n + 1).toNat : Nat) : Int) := by omega
  have hin : (if n = 19 then (0 : Int) else n + 1).toNat = (n.toNat + 1) % 20 := by split <;> omega
  generalize hI : (if n = 19 then (0 : Int) else n + 1).toNat = i at *
  have htd : (n + 1).tdiv 20 = if n = 19 then 1 else 0 := by
    by_cases q : n = 19
    · subst q; decide
    · rw [if_neg q, Int.tdiv_eq_zero_of_lt (by omega) (by omega)]
  refine C219 ⟨hk.1, ?_⟩
  rw [hn, hm, hk.2.1, hk.2.2.1, hk.2.2.2]
  have e6 : fI (uI c 70 6 (if n = 19 then 0 else n + 1)) 70 6 = (i : Int) := by rw [fI_uI, if_pos ⟨rfl, rfl⟩, hix]
  obtain ⟨p1, p2, ⟨p3, p4, p5, p6⟩, ⟨p7, p8, p9, p10⟩, p11, p12, p13, p14⟩ := hX.2.1.1 i hi
  rw [e6, p1, p2]
  refine ⟨by omega, by rw [htd]; split <;> omega, by omega, rfl, by omega, rfl, ?_⟩
  generalize hc1 : uI c 70 6 (if n = 19 then 0 else n + 1) = c1
  have hx1 : CX kys snR c c1 := by rw [← hc1]; exact CX.rf.uI (fun _ => by rw [hk.1]; decide)
  have hX1 := hX.x hx1 (by decide) (by decide)
  have hN1 := hN.x hx1 (by decide) (by decide) (by decide) (by decide) (by decide)
  have hH1 := hH.x hN h.m hX hx1 (by decide) (by decide) (by decide) (by decide)
  have hL1 := hL.x hN h.m hX hx1 (by decide) (by decide) (by decide)
  have hcc1 : fR c1 70 2 = A (s.1 16) := by rw [← hc1]; exact hc
  refine noteAll_ok hi hX1 hN1 hH1 hL1 h hcc1 (fun e he hS => ?_)
  have hky : ky (75 + 5 * i) (kl c1 (75 + 5 * i)) = 9 := by
    rw [← hc1, kl_uI, p2]; unfold ky; rw [if_neg (by omega)]
  have hx2 : CX kys snR c (uR (uI c1 (75 + 5 * i) 4 (fl t).length) (75 + 5 * i) 5 (A (s.1 16))) := (hx1.uI (fun _ => by rw [hky]; decide)).uR (fun _ => by rw [kl_uI, hky]; decide)
  have hxe : CX kys snR c e := he.cx hx2 (fun a ha => by
    have ha : a = 76 + 5 * i ∨ a = 77 + 5 * i ∨ a = 78 + 5 * i ∨ a = 79 + 5 * i := by simp at ha; omega
    refine ⟨by omega, ?_⟩
    rcases ha with rfl | rfl | rfl | rfl
    · exact snR_mem hi (j := 0) (by decide)
    · have := snR_mem hi (j := 1) (by decide); rwa [show 76 + 5 * i + 1 = 77 + 5 * i by omega] at this
    · have := snR_mem hi (j := 2) (by decide); rwa [show 76 + 5 * i + 2 = 78 + 5 * i by omega] at this
    · have := snR_mem hi (j := 3) (by decide); rwa [show 76 + 5 * i + 3 = 79 + 5 * i by omega] at this)
  have f7 : fI e 70 7 = K.length := by
    rw [(he.1 _ _).1, fI_uR, fI_uI, if_neg (by omega), ← hc1, fI_uI, if_neg (by omega)]; exact k1
  have f6 : fI e 70 6 = (i : Int) := by
    rw [(he.1 _ _).1, fI_uR, fI_uI, if_neg (by omega), ← hc1, fI_uI, if_pos ⟨rfl, rfl⟩, hix]
  have hke : kl e 70 = 8 := by rw [(he.2.1 _).1, kl_uR, kl_uI, ← hc1, kl_uI]; exact hk.1
  have h60 : (push K (t, s)).length = if K.length = 20 then 20 else K.length + 1 := by
    unfold push
    rw [List.length_append]
    by_cases q : K.length = 20
    · rw [if_pos q, if_pos q, List.length_tail, q]; rfl
    · rw [if_neg q, if_neg q]; rfl
  rw [f7]
  refine ⟨hke, by omega, hF _ (hxe.uI (fun _ => by rw [hke]; decide)) ?_ ⟨⟨?_, ?_, ?_, ?_⟩, fun j w hj => ?_⟩⟩
  · exact ⟨by rw [nx_uI, he.2.2.1.1, nx_uR, nx_uI, ← hc1, nx_uI]; omega, by rw [sl_uI, he.2.2.1.2, sl_uR, sl_uI, ← hc1, sl_uI]; omega⟩
  · rw [fI_uI, if_pos ⟨rfl, rfl⟩, h60]
    by_cases q : K.length = 20
    · rw [if_pos q, if_pos (by omega)]; rfl
    · rw [if_neg q, if_neg (by omega)]; push_cast; rfl
  · rw [h60]; split <;> omega
  · rw [fI_uI, if_neg (by omega), f6]; omega
  · rw [fI_uI, if_neg (by omega), f6]; omega
  · obtain ⟨g1, g2⟩ := push_get hj k2
    have f6' : fI (uI e 70 7 (if 20 < (K.length : Int) + 1 then 20 else (K.length : Int) + 1)) 70 6 = (i : Int) := by rw [fI_uI, if_neg (show ¬ (6 = 7 ∧ 70 = 70) by omega)]; exact f6
    rw [f6']
    have hup : ∀ (b : Nat) (w : Snap), SNc A e b w → SNc A (uI e 70 7 (if 20 < (K.length : Int) + 1 then 20 else (K.length : Int) + 1)) b w := fun b w hb => by
      refine hb.up ⟨?_, rfl⟩ ⟨rfl, rfl, rfl, rfl⟩
      rw [fI_uI, if_neg (show ¬ (4 = 7 ∧ b = 70) by omega)]
    rcases g2 with ⟨g2, rfl⟩ | ⟨g2, g3⟩
    · have hp : pos (i : Int) (push K (t, s)).length j = i := by unfold pos; omega
      rw [hp]
      exact hup _ _ hS
    · have hlt : (if K.length = 20 then j + 1 else j) < K.length := (List.getElem?_eq_some_iff.mp g3).1
      have hp : pos (i : Int) (push K (t, s)).length j = pos n K.length (if K.length = 20 then j + 1 else j) := by
        rw [g1]
        unfold pos
        by_cases q : K.length = 20
        · rw [if_pos q, if_pos q]; omega
        · rw [if_neg q, if_neg q]; omega
      have hpn : pos n K.length (if K.length = 20 then j + 1 else j) ≠ i := by
        rw [hin]
        unfold pos
        by_cases q : K.length = 20
        · rw [if_pos q] at hlt ⊢
          rw [if_pos q] at g1
          omega
        · rw [if_neg q] at hlt ⊢; omega
      have hp20 : pos n K.length (if K.length = 20 then j + 1 else j) < 20 := by unfold pos; omega
      rw [hp]
      have hS2 := k5 _ w g3
      generalize pos n K.length (if K.length = 20 then j + 1 else j) = q at hS2 hpn hp20 ⊢
      refine hup _ _ (hS2.up ⟨?_, ?_⟩ ⟨?_, ?_, ?_, ?_⟩)
      · rw [(he.1 _ _).1, fI_uR, fI_uI, if_neg (by omega), ← hc1, fI_uI, if_neg (by omega)]
      · rw [(he.1 _ _).2, fR_uR, if_neg (by omega), fR_uI, ← hc1, fR_uI]
      · rw [he.2.2.2.2 _ (by simp; omega), aR_uR, aR_uI, ← hc1, aR_uI]
      · rw [he.2.2.2.2 _ (by simp; omega), aR_uR, aR_uI, ← hc1, aR_uI]
      · rw [he.2.2.2.1 _ (by simp; omega), aI_uR, aI_uI, ← hc1, aI_uI]
      · rw [he.2.2.2.1 _ (by simp; omega), aI_uR, aI_uI, ← hc1, aI_uI]
end
