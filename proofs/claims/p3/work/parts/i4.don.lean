/-! Going on by the desk: fillers, what is left (C190, C242). -/
/-- what filled a hole, as the desk links it -/
def FLK (A : Int → Nat) (c : SC) (σ : SM) (t : Term) : Prop := (∀ b, 0 ≤ b → b < σ.1 8 → 0 < σ.2 42 b → fR c (A b) 12 = A (σ.2 42 b - 1)) ∧ (∀ b, 0 ≤ b → b < σ.1 8 → σ.2 42 b = 0 ∨ (b < σ.2 42 b - 1 ∧ σ.2 42 b - 1 < σ.1 8)) ∧ ∀ b, b ∈ fl t → fR c (A b) 12 = 2
section
variable {iv : List (Int × Int)} {L : Nat} {h0 : MH} {A A' : Int → Nat} {P : Nat → Prop} {c c0 e f : SC} {σ s s' w : SM} {t : Term} {d p a g x y n : Nat} {b most st kv ks kv' ks' k0 k1 k q : Int} {ys : List (Nat × Nat)} {rs : List Nat} {R : RS} {X Y E V : Term} {l : List (Int × Nat)}
theorem DWX.any (h : DWX A c0 σ t p) (hx : CX wkY wkR c0 c) (hb : 0 ≤ b ∧ b < σ.1 8) : kl c (A b) = 5 ∧ fR c (A b) 12 = fR c0 (A b) 12 ∧ A b ≠ 2 := by
  obtain ⟨⟨⟨⟨hX, hN, hH, hL⟩, -, hI, hJ⟩, hT, -⟩, -, hj⟩ := h
  obtain ⟨⟨n1, n2, n3, n4, n5, n6, n7, n8⟩, n9, n10⟩ := hN.2 b hb.1 hb.2
  have k5 : ky (A b) (kl c0 (A b)) = 5 := by rw [ky5 n10]; exact n1
  have hl : A b < nxt c0 := by omega
  exact ⟨(hx.k hl).trans n1, hx.r hl (by rw [k5]; decide), by omega⟩
theorem fill_gt {fb : Int → Int} {B : Int} (h : ∀ b, 0 ≤ b → b < B → fb b = 0 ∨ (b < fb b - 1 ∧ fb b - 1 < B)) : ∀ (n : Nat) (b : Int), 0 ≤ b → b < B → b ≤ fllN fb n b ∧ fllN fb n b < B := by
  intro n
  induction n with
  | zero => intro b b0 b1; exact ⟨Int.le_refl _, b1⟩
  | succ n ih =>
    intro b b0 b1
    show b ≤ (if 0 < fb b then fllN fb n (fb b - 1) else b) ∧ (if 0 < fb b then fllN fb n (fb b - 1) else b) < B
    by_cases q : 0 < fb b
    · rw [if_pos q]
      have h2 := (h b b0 b1).resolve_left (by omega)
      have := ih (fb b - 1) (by omega) h2.2
      omega
    · rw [if_neg q]; omega
theorem nofill_c {F : Nat → SC → Prop} (hD : DWX A c0 σ t p) (hL : FLK A c0 σ t) (hx : CX wkY wkR c0 c) (hb : b ∈ fl t) (hF : F 2 c) : ck iv L h0 d 190 [vr (A b)] c (qa F) := by
  obtain ⟨a1, a2, a3⟩ := hD.any hx ⟨(hD.1.2.1.lt hb).1, (hD.1.2.1.lt hb).2.1⟩
  refine C190 ⟨a1, ?_⟩
  rw [a2, hL.2.2 b hb]
  exact C190_5 ⟨fun _ => hF, fun w => absurd rfl w⟩
theorem filler_c {F : Nat → SC → Prop} (hD : DWX A c0 σ t p) (hL : FLK A c0 σ t) (hx : CX wkY wkR c0 c) (hb : 0 ≤ b ∧ b < σ.1 8) (ht : fllF (σ.2 42) b ∈ fl t) (hF : F (if fllF (σ.2 42) b = b then 2 else A (fllF (σ.2 42) b)) c) : ck iv L h0 d 190 [vr (A b)] c (qa F) := by
  obtain ⟨l1, l2, l3⟩ := id hL
  have h8 := hD.1.2.1.2.2.2.2.1
  obtain ⟨a1, a2, a3⟩ := hD.any hx hb
  have e0 : fllF (σ.2 42) b = if 0 < σ.2 42 b then fllN (σ.2 42) 3003 (σ.2 42 b - 1) else b := rfl
  have key : ∀ (n : Nat) (q : Int), 0 ≤ q → q < σ.1 8 → σ.1 8 - q ≤ n → fllN (σ.2 42) n q ∈ fl t → F (A (fllN (σ.2 42) n q)) c → wk iv L h0 d 190 5 [ln, lr (A q)] [] c (qa F) := by
    intro n
    induction n with
    | zero => intro q q0 q1 hn; omega
    | succ n ih =>
      intro q q0 q1 hn hm h
      obtain ⟨u1, u2, u3⟩ := hD.any hx ⟨q0, q1⟩
      have h : F (A (if 0 < σ.2 42 q then fllN (σ.2 42) n (σ.2 42 q - 1) else q)) c := h
      have hm : (if 0 < σ.2 42 q then fllN (σ.2 42) n (σ.2 42 q - 1) else q) ∈ fl t := hm
      refine C190_5 ⟨fun w => absurd w u3, fun _ => ⟨u1, ?_⟩⟩
      by_cases z : 0 < σ.2 42 q
      · rw [if_pos z] at h hm
        rw [u2, l1 q q0 q1 z]
        have h2 := (l2 q q0 q1).resolve_left (by omega)
        exact ⟨fun w => absurd w (hD.any hx ⟨by omega, h2.2⟩).2.2, fun _ => ih _ (by omega) h2.2 (by omega) hm h⟩
      · rw [if_neg z] at h hm
        rw [u2, l3 q hm]
        exact ⟨fun _ => h, fun w => absurd rfl w⟩
  by_cases z : 0 < σ.2 42 b
  · rw [if_pos z] at e0
    have h2 := (l2 b hb.1 hb.2).resolve_left (by omega)
    have h3 := fill_gt l2 3003 (σ.2 42 b - 1) (by omega) h2.2
    rw [if_neg (by omega), e0] at hF
    rw [e0] at ht
    refine C190 ⟨a1, ?_⟩
    rw [a2, l1 b hb.1 hb.2 z]
    exact key 3003 _ (by omega) h2.2 (by omega) ht hF
  · rw [if_neg z] at e0
    rw [if_pos e0] at hF
    rw [e0] at ht
    exact nofill_c hD hL hx ht hF
theorem DWE.stop (h : DWE A p kv k0 k1 c st R a e) (hR : R.2.1 ≠ 0) : DWP A p kv k0 k1 c st R a e := by
  obtain ⟨⟨t1, t2, t3, t4, t5, t6⟩, -⟩ := h
  exact ⟨t1, t2, t3, t4, fun w => absurd w hR, t6⟩
/-- what was kept over a working -/
theorem STY.v {P Q : Nat → Prop} (h : STY P Q c e) (ha : P a) (hk : kl c a = 10) : Q a ∧ kl e a = 10 ∧ (fI e a 0 = fI c a 0 ∧ fR e a 2 = fR c a 2 ∧ fR e a 3 = fR c a 3 ∧ fR e a 4 = fR c a 4 ∧ fR e a 5 = fR c a 5) := by
  obtain ⟨h1, h2⟩ := h a ha
  obtain ⟨h3, h4⟩ := h2 (Or.inl hk)
  exact ⟨h1, h3.trans hk, (h4 0 (by decide)).1, (h4 2 (by decide)).2, (h4 3 (by decide)).2, (h4 4 (by decide)).2, (h4 5 (by decide)).2⟩
/-- what is left of a hole, a DEF -/
theorem don2_c {z : Int} {D : Nat} {F : Nat → SC → Prop} (hD : DWX A c0 σ t p) (hFN : FN σ t) (hL : FLK A c0 σ t) (hW : WCD iv L h0 A c0 σ t p most n) (hO : OCD iv L h0 A c0 σ t p most n) (hS : DWS c0 p most st kv ks c) (hk : 1 ≤ kv ∧ 1 ≤ ks) (hz : z = 60 - n) (hVV : V = .sub (.index D) E ∨ V = .div (.index D) E) (hV : VO σ t V) (hv : DV A c (LIV c p) V a []) (hF : ∀ a e, DWP A p 1 0 1 c st (oplE (σ.2 9) (σ.2 10) (σ.2 14) (σ.2 42) (EV σ most n).1 (EV σ most n).2 V st) a e → F a e) : ck iv L h0 (3 * n + 12) 242 [vr 176, vr a, vi z] c (qa F) := by
  have hcx := hS.1
  have hT := hD.1.2.1
  obtain ⟨w1, w2, w3⟩ := hD.wk hcx
  have hst := hS.2.2.2.1
  obtain ⟨hk1, hk2, l, hl1, hl2, hE, hVE, hDb, kk⟩ : (LIV c p a ∧ kl c a = 10) ∧ fR c a 2 = A D ∧ ∃ l, CHN c (LIV c p) (fR c a 5) l ∧ DV A c (LIV c p) E 2 l ∧ isE 26 E ∧ VO σ t E ∧ (0 ≤ (D : Int) ∧ (D : Int) < σ.1 8) ∧ ((V = .sub (.index D) E ∧ fI c a 0 = 2) ∨ (V = .div (.index D) E ∧ fI c a 0 = 4)) := by
    rcases hVV with rfl | rfl
    · obtain ⟨⟨h1, h2⟩, h3, h4, l, h5, h6⟩ := hv
      obtain ⟨⟨v1, v2⟩, v3, v4, v5⟩ := hV
      exact ⟨h1, h3, l, h5, h6, v4, v5, ⟨by omega, (hT.lt v1).2.1⟩, Or.inl ⟨rfl, h2⟩⟩
    · obtain ⟨⟨h1, h2⟩, h3, h4, l, h5, h6⟩ := hv
      obtain ⟨⟨v1, v2⟩, v3, v4, v5⟩ := hV
      exact ⟨h1, h3, l, h5, h6, v4, v5, ⟨by omega, v1⟩, Or.inr ⟨rfl, h2⟩⟩
  obtain ⟨y1, y2, y3⟩ := env_ok (EV_okO (most := most) hD hFN n) 26 E st hE hVE hst.2.1
  refine C242 ⟨hk1.2, w1, sights_c hD hFN hO hS ⟨by omega, by omega⟩ hz hE hVE ⟨hl1, hl2⟩ (fun r e h => ?_)⟩
  have hx2 := hcx.tr h.1.1.1
  have hX2 := hD.wk hx2
  have h4 := h.1.2.2.1.2.1
  obtain ⟨u1, u2, u3, u4, -⟩ := h.1.2.1.1.1.v hk1.1 hk1.2
  have op : oplE (σ.2 9) (σ.2 10) (σ.2 14) (σ.2 42) (EV σ most n).1 (EV σ most n).2 V st = bnR (envE (EV σ most n).2 E st) (fun st F => if V = .sub (.index D) E then rok st (.sub (.index D) F) else if fllF (σ.2 42) D = D then rok st (.div (.index D) F) else (EV σ most n).1 (fllF (σ.2 42) D) F st) := by
    rcases kk with ⟨rfl, -⟩ | ⟨rfl, -⟩
    · simp only [if_pos]; rfl
    · simp only [reduceCtorEq, if_false]; rfl
  rw [op] at hF
  generalize envE (EV σ most n).2 E st = R at *
  by_cases g0 : R.2.1 = 0
  · obtain ⟨z1, z2, z3, z4⟩ := y3 g0
    rw [bnR_0 g0] at hF
    obtain ⟨l', hc, hd⟩ := h.2 g0
    have S2 : DWS c0 p most R.1 (kv - 0) (ks - 0) e := hS.nx (hD.fx hcx) (R := (R.1, R.2.1, R.2.2.1, .null)) h.1 y1 ⟨g0, z1⟩
    have h4 : fI e 176 4 = -1 := by rw [h4]; exact if_pos g0
    have hh : ∀ {R' : RS} {a' : Nat} {e' : SC}, DWP A p 1 0 1 e R.1 R' a' e' → DWP A p 1 0 1 c st R' a' e' := fun h' => (h.1.tr g0 h').up (by decide) (by decide) (by decide)
    refine ⟨hX2.1, fun _ => ⟨u2, ?_⟩, fun w => absurd h4 w⟩
    rw [u4, hk2]
    rcases kk with ⟨rfl, kk⟩ | ⟨rfl, kk⟩
    · obtain ⟨⟨v1, v2⟩, v3, v4, v5⟩ := hV
      rw [if_pos rfl] at hF
      refine ⟨(hD.any hx2 hDb).1, nofill_c hD hL hx2 v1 ?_⟩
      rw [u4, hk2, u3, S2.2.2.1.1, kk]
      refine ⟨fun w => absurd rfl w, fun _ => ⟨hX2.1, u2, hX2.2.1, ?_⟩⟩
      exact dsub_c hD S2 (by omega) (b := D) (by omega) ⟨hc, hd⟩ (fun a' e' h' => hF a' e' (hh (h'.up (by decide) (by decide) (by decide))))
    · obtain ⟨⟨v1, v2, v2'⟩, v3, v4, v5⟩ := hV
      rw [if_neg (by simp)] at hF
      have hft : fllF (σ.2 42) (D : Int) ∈ fl t := by
        by_cases q : (D : Int) ∈ fl t
        · have et : tgt σ t D = D := if_pos q
          rw [hFN D q (v2' et)]
          exact q
        · have et : tgt σ t D = fllF (σ.2 42) D := if_neg q
          rw [← et]
          exact v2
      refine ⟨(hD.any hx2 hDb).1, filler_c hD hL hx2 hDb hft ?_⟩
      rw [u4, hk2, u3, S2.2.2.1.1, kk]
      by_cases ef : fllF (σ.2 42) (D : Int) = D
      · rw [if_pos ef] at hF
        rw [if_pos ef]
        refine ⟨fun w => absurd rfl w, fun _ => ⟨hX2.1, u2, hX2.2.1, ?_⟩⟩
        exact ddiv_c hD S2 (by omega) (b := D) (by omega) ⟨hc, hd⟩ (fun a' e' h' => hF a' e' (hh (h'.up (by decide) (by decide) (by decide))))
      · rw [if_neg ef] at hF
        rw [if_neg ef]
        have et := tgt_f hFN v2' ef
        rw [et] at v2 v3
        refine ⟨fun _ => ⟨hX2.1, ?_⟩, fun w => absurd w (hD.any hx2 ⟨by have := hT.lt v2; omega, (hT.lt v2).2.1⟩).2.2⟩
        exact dwsub_c hW v2 ⟨z2, z3, fun z z0 z1 hz q => v3 z z0 z1 hz (z4 z q)⟩ ⟨hc, hd⟩ S2 ⟨by omega, by omega⟩ (by omega) hz (fun a' e' h' => hF a' e' (hh (h'.up (by decide) (by decide) (by decide))))
  · rw [bnR_n g0] at hF
    have hs := h.stop g0
    have er : r = 2 := hs.2.2.2.2.2 g0
    subst er
    have h4 : fI e 176 4 = R.2.1 := by rw [h4]; exact if_neg g0
    exact ⟨hX2.1, fun w => by have := y2.resolve_left g0; omega, fun _ => hF 2 e (hs.up (by decide) (by decide) (by decide))⟩
end
