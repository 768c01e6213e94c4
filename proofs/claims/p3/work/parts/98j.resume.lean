/-! areReasonsSame(), resume(n). -/
def arP (s : SM) (t : Term) (l : List Int) (p : Int × Int) : Bool := l.all fun x => decide (x = p.1 → (jdg s t).2.2 x = p.2)
/-- are the reasons those of the last working, for what stands in both -/
def arS (s : SM) (t : Term) (W : List (Int × Int)) : Bool := W.all (arP s t (fl t))
section
variable {iv : List (Int × Int)} {L : Nat} {h0 : MH} {s : SM} {t : Term} {d : Nat}
theorem same_row {w : SM} {k : Nat} {a : Int × Int} {F : Int → SM → Prop} (h : SHT s t) (hw : JL s w t) (hk : k < 60) (ha : w.2 64 k = a.1 ∧ w.2 65 k = a.2) : ∀ (m p : List Int), fl t = p ++ m → (arP s t m a = false → F 0 w) → (arP s t m a = true → wm iv L h0 (d + 1) 137 10 [lr 307, li (k + 1)] [] w (qi F)) → wm iv L h0 (d + 1) 137 20 [lr 307, li k, li p.length] [] w (qi F) := by
  obtain ⟨w1, w2, w3, w4, -⟩ := hw
  intro m
  induction m with
  | nil =>
    intro p e H0 H1
    have hl := LR_nil w3 e
    exact B137_20 ⟨fun _ => ⟨by omega, H1 rfl⟩, fun q => by omega⟩
  | cons y m ih =>
    intro p e H0 H1
    obtain ⟨c1, c2⟩ := LR_cons w3 e
    obtain ⟨c3, hy⟩ := h.fl80 e
    have hyl := h.lt hy
    have e' := e
    rw [app1] at e'
    have el : ((p ++ [y]).length : Int) = p.length + 1 := by simp
    have hg := (w4 y hy).1
    have ec : arP s t (y :: m) a = (decide (y = a.1 → (jdg s t).2.2 y = a.2) && arP s t m a) := rfl
    rw [ec] at H0 H1
    have go : (y = a.1 → (jdg s t).2.2 y = a.2) → wm iv L h0 (d + 1) 137 20 [lr 307, li k, li (p.length + 1)] [] w (qi F) := fun q => by
      rw [decide_eq_true q] at H0 H1
      have := ih (p ++ [y]) e' H0 H1
      rw [el] at this
      exact this
    refine B137_20 ⟨fun q => by omega, fun _ => ?_⟩
    rw [c1, ha.1, ha.2, hg]
    refine ⟨by omega, by omega, fun q => ⟨by omega, go (fun q2 => absurd q2 q)⟩, fun q => ⟨by omega, fun q2 => ⟨by omega, go (fun _ => q2)⟩, fun q2 => H0 ?_⟩⟩
    rw [decide_eq_false (fun q3 => q2 (q3 q))]
    rfl
theorem same_ok {W : List (Int × Int)} {F : Int → SM → Prop} (h : SHT s t) (hN : NB s) (hK : KIs s) (hW : WLs s W) (hD : 240 ≤ d) (hF : ∀ w, JL s w t → F (if arS s t W = true then 1 else 0) w) : cm iv L h0 d 137 [vr 307] s (qi F) := by
  obtain ⟨d, rfl⟩ : ∃ k, d = k + 1 := ⟨d - 1, by omega⟩
  refine B137 (jl_ok h hN hK (by omega) (by omega) (fun w hw => ?_))
  have e63 : w.1 63 = s.1 63 := hw.1.1 63 (by decide)
  have e64 : w.2 64 = s.2 64 := hw.1.2 64 (by decide)
  have e65 : w.2 65 = s.2 65 := hw.1.2 65 (by decide)
  obtain ⟨a1, a2, a3⟩ := hW
  have hF := hF w hw
  unfold arS at hF
  have key : ∀ (m p : List (Int × Int)), W = p ++ m → F (if m.all (arP s t (fl t)) = true then 1 else 0) w → wm iv L h0 (d + 1) 137 10 [lr 307, li p.length] [] w (qi F) := by
    intro m
    induction m with
    | nil =>
      intro p e H
      have hl : W.length = p.length := by rw [e]; simp
      exact B137_10 ⟨fun _ => H, fun q => by omega⟩
    | cons a m ih =>
      intro p e H
      have hl : W.length = p.length + (m.length + 1) := by rw [e]; simp
      have hk : W[p.length]? = some a := by rw [e]; simp
      have el : ((p ++ [a]).length : Int) = p.length + 1 := by simp
      have e' : W = (p ++ [a]) ++ m := by rw [e]; simp
      have r := a3 p.length a hk
      rw [← e64, ← e65] at r
      have ec : (a :: m).all (arP s t (fl t)) = (arP s t (fl t) a && m.all (arP s t (fl t))) := rfl
      rw [ec] at H
      refine B137_10 ⟨fun q => by omega, fun _ => same_row h hw (by omega) r (fl t) [] rfl (fun q => ?_) (fun q => ?_)⟩
      · rw [q] at H
        exact H
      · rw [q] at H
        have := ih (p ++ [a]) e' H
        rw [el] at this
        exact this
  exact key W [] rfl hF
end
