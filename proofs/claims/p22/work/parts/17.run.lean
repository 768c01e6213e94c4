/-! A run of the small machine is a run of the machine. -/
def nst (w : Cond) : Prop := (∃ (a : String) (i : Nat) (b n d hh : String), w = .fieldLinkNest a i b n d hh) ∨ (∃ (a : String) (i : Nat) (x : MethodName) (hh : String), w = .methodLinkNest a i x hh) ∨ ∃ C : String, w = .arrayOver (.object C)
theorem mFx_on {D : va_G} {cl : List vw_C} {dA : Nat → ClassId} {pre : Nat → Nat} {base : Nat} {ρ : Nat → Int32} {tyL : List FieldType} {NW : List Cond} {G : GI} {s U : State} {H : Heap} {locs : List Loc} (hNW : ∀ w ∈ NW, nst w) (hF : mFx D cl dA pre base ρ tyL NW G s) (hS : va_S (fun q => base ≤ q) s.heap H locs) (hH : U.heap = H) (hW : s.WarmedH U.vm) : mFx D cl dA pre base ρ tyL NW G U := by
  subst hH
  obtain ⟨f1, f2, f3, f4, f5, f6, f7, f8, f9⟩ := hF
  refine ⟨f1.moved hW.alike, Nat.le_trans f2 hS.1, fun a n f hg h8 => ?_, fun w hw => ?_, ?_, zqS_on f6 hW.alike hS.2.1, csF_on f7 hW.alike hS.2.1, fun q hq => (f8 q hq).warm hW, fun a n f hg h8 h9 => ?_⟩
  · exact ((f3 a n f hg h8).kept hS.2.1).moved hW.alike
  · rcases hNW w hw with ⟨a, i, b, n, d, hh, rfl⟩ | ⟨a, i, x, hh, rfl⟩ | ⟨C, rfl⟩
    · exact (f4 _ hw).warmF hW
    · exact (f4 _ hw).warmM hW
    · exact va_AO.moved hW.alike (f4 _ hw)
  · exact (f5.kept hS.2.1).moved hW.alike
  · obtain ⟨g1, g2⟩ := f9 a n f hg h8 h9
    exact ⟨txF_on g1 hW.alike hS.2.1, g2⟩
def mPc (D : va_G) (cl : List vw_C) (dA : Nat → ClassId) (pre : Nat → Nat) (base : Nat) (ρ : Nat → Int32) (tyL : List FieldType) (NW : List Cond) (G : GI) (as : List Value) (h : MH) : Array Value → State → Prop := fun a U =>
  a = (as.map (emv pre base ρ)).toArray ∧ mR D cl dA pre base ρ h U.heap ∧ mFx D cl dA pre base ρ tyL NW G U
theorem mPc_blind {D : va_G} {cl : List vw_C} {dA : Nat → ClassId} {pre : Nat → Nat} {base : Nat} {ρ : Nat → Int32} {tyL : List FieldType} {NW : List Cond} {G : GI} {as : List Value} {h : MH} (hNW : ∀ w ∈ NW, nst w) : FrameBlind (mPc D cl dA pre base ρ tyL NW G as h) := by
  intro a U g mk hq
  obtain ⟨q1, q2, q3⟩ := hq
  exact ⟨q1, q2, mFx_on (U := U.calling g mk a) (locs := []) hNW q3 va_S.rf rfl (State.WarmedH.refl U)⟩
def rmOf (d k n : Nat) : Room := { frames := d + 8, cells := k, slots := n, locals := 400 + 40 * d }
theorem ment_em (pre : Nat → Nat) (base : Nat) (ρ : Nat → Int32) : ∀ (vs : List Value) (i : Nat), lv_args i (vs.map (emv pre base ρ)) = emL pre base ρ (ment i vs) := by
  intro vs
  induction vs with
  | nil => intro i; rfl
  | cons v r ih =>
    intro i
    show (i, emv pre base ρ v) :: lv_args (if (emv pre base ρ v).category = 2 then i + 2 else i + 1) (r.map (emv pre base ρ)) = (i, emv pre base ρ v) :: emL pre base ρ (ment (i + v.category) r)
    rw [emv_cat, ← ih]
    rcases lv_cat v with h | h
    · rw [h, if_neg (by decide)]
    · rw [h, if_pos rfl]
theorem sl_len (pre : Nat → Nat) (base : Nat) (ρ : Nat → Int32) : ∀ vs : List Value, (lg_sl (vs.map (emv pre base ρ))).length = mwid vs := by
  intro vs
  induction vs with
  | nil => rfl
  | cons v r ih =>
    unfold lg_sl at ih ⊢
    rw [List.map_cons, List.flatMap_cons, List.length_append, ih]
    unfold mwid
    rw [List.map_cons, List.sum_cons, emv_cat]
    rcases lv_cat v with h | h
    · rw [h, if_neg (by decide)]; rfl
    · rw [h, if_pos rfl]; rfl
section RUN
variable {l : Launch} {D : va_G} {cl : List vw_C} {dA : Nat → ClassId} {pre : Nat → Nat} {base : Nat} {ρ : Nat → Int32} {tyL : List FieldType} {Ts NW : List Cond} {G : GI} {YB : YT}
/-- a method's contract, out of its body's walk in any machine -/
def mBody (l : Launch) (D : va_G) (cl : List vw_C) (dA : Nat → ClassId) (pre : Nat → Nat) (base : Nat) (ρ : Nat → Int32) (tyL : List FieldType) (Ts NW : List Cond) (G : GI) (YB : YT) (d M pc : Nat) (ls : ML) (st : List Value) (h : MH) (k n : Nat) (v : Option Value) (h' : MH) (k' n' : Nat) : Prop :=
  ∀ (p : Program) (e : Env) (s : State) (m : MethodId) (args : Array Value) (below : List Frame) (meth : Method) (c : Code), mCx p s m args c D cl dA pre base ρ tyL Ts G (YB M).2 (YB M).1.cls (G.2.1 M) → mFx D cl dA pre base ρ tyL NW G s → meth.locks = false → meth.sig.returnType = G.2.2.2.2.2.1 M → ((YB M).1.name = "<init>" → meth.name = "<init>") →
    mGo p l e (rmOf d k' n') s m args below meth c (MQ below (mQc D cl dA pre base ρ v h' k') args s k' n' (fun q => base ≤ q)) D cl dA pre base ρ (G.2.1 M) pc ls st h k n
theorem met_of {d y : Nat} {as : List Value} {h h' : MH} {v : Option Value} {k' n' n : Nat} (hC : CFok Ts G YB y n) (hw : mwid as ≤ G.2.1 y) (hB : mBody l D cl dA pre base ρ tyL Ts NW G YB d y 0 (ment 0 as) [] h 0 0 v h' k' n') :
    Met l (YB y).1 (Cond.code (YB y).1 (YB y).2 (G.2.1 y) (G.2.2.2.2.2.1 y) :: Ts) (rmOf d k' n') (mPc D cl dA pre base ρ tyL NW G as h) (mQc D cl dA pre base ρ v h' k') k' n' (fun q => base ≤ q) := by
  refine Met.ofW (cc := (YB y).2) (maxL := G.2.1 y) (ret := G.2.2.2.2.2.1 y) hC.2.2.1 rfl ?_
  intro p e s m args below meth c s₁ B hml hv
  obtain ⟨rfl, hR, hF⟩ := hv
  have hts := atoms_spec (ws := Cond.code (YB y).1 (YB y).2 (G.2.1 y) (G.2.2.2.2.2.1 y) :: Ts) B.pre
  have X : mCx p s m (as.map (emv pre base ρ)).toArray c D cl dA pre base ρ tyL Ts G (YB y).2 (YB y).1.cls (G.2.1 y) := ⟨B.exec, B.bytes, hml, findClass_of_methodNamed B.named, fun w hw => hts w (List.mem_cons_of_mem _ hw), hF.1, hF.2.1, hF.2.2.1⟩
  have hl := lv_entry (as.map (emv pre base ρ)) (n := G.2.1 y) (by rw [sl_len]; exact hw)
  rw [ment_em] at hl
  rw [lg_entry_eq]
  exact hB p e s m _ below meth c X hF B.notSynchronized B.returns (fun q => (name_of_methodNamed B.named B.method).1.trans q) _ s.heap [] hl hR va_S.rf rfl
variable {p : Program} {e : Env} {R : Room} {s : State} {m : MethodId} {args : Array Value} {below : List Frame} {meth : Method} {c : Code} {Q : State → Prop}
theorem cl_go {nL pc cells slots k1 n1 : Nat} {ls : ML} {h1 : MH} {v1 : Option Value} {lsA : Array Slot} {H : Heap} {locs : List Loc} {stA r : List Value} {a : Array Value}
    (hr : va_Run p l e R s m args below meth c H locs cells slots k1 n1 (F0 m pc lsA stA) (r.map (emv pre base ρ)) (mQc D cl dA pre base ρ v1 h1 k1 a) (fun q => base ≤ q))
    (hL : lv_has lsA nL (emL pre base ρ ls)) (hS : va_S (fun q => base ≤ q) s.heap H locs) (hZ : s.heap.size + cells = H.size)
    (kk : mGo p l e R s m args below meth c Q D cl dA pre base ρ nL (pc + 3) ls (v1.toList ++ r) h1 (cells + k1) (slots + n1)) : W p l e R s m args below meth c H locs cells slots Q (F0 m pc lsA stA) := by
  intro T hT X
  obtain ⟨v, st₀, t, T', L, h0, X', hL', e1, e2, ⟨hv, hR1, hz1, hk1⟩, stg⟩ := hr T hT X
  cases hv
  rw [h0] at hz1 hk1
  have hst : (v1.toList ++ r).map (emv pre base ρ) = (v1.map (emv pre base ρ)).toList ++ r.map (emv pre base ρ) := by cases v1 <;> simp
  have k2 := kk lsA T'.heap (locs ++ L) hL (by rw [e1]; exact hR1) ⟨Nat.le_trans hS.1 (by rw [e1]; omega), fun q q1 q2 => by rw [e1, hk1 q (Nat.lt_of_lt_of_le q1 hS.1) q2]; exact hS.2.1 q q1 q2, fun q hq => by
    rcases List.mem_append.mp hq with h3 | h3
    · exact hS.2.2 q h3
    · exact hL' q h3⟩ (by rw [e1, hz1]; omega)
  rw [hst] at k2
  obtain ⟨t2, a1, b1⟩ := k2 T' rfl X'
  exact ⟨t2, stg t2 a1, b1⟩
end RUN
