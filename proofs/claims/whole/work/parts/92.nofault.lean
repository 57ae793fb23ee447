/-! ===== text: where nothing is refused, no fault is noted ===== -/
def NF (M : Mem) (E : Option (Int32 × Mem)) : Prop := ∀ r, E = some r → r.1 = 0 ∨ (r.2 178 2 = M 178 2 ∧ r.2 178 3 = M 178 3)
section NOFAULT
variable {M : Mem}
theorem nf_none : NF M none := fun _ h => by cases h
theorem nf_some {x : Int32} : NF M (some (x, M)) := fun r e => by cases e; exact Or.inr ⟨rfl, rfl⟩
theorem nf_ite {c : Prop} [Decidable c] {E1 E2 : Option (Int32 × Mem)} (h1 : NF M E1) (h2 : NF M E2) : NF M (if c then E1 else E2) := by
  split
  · exact h1
  · exact h2
theorem nf_b {σ : Type} {O : Option σ} {F : σ → Option (Int32 × Mem)} (h : ∀ x, NF M (F x)) : NF M (O.bind F) := by
  cases O with
  | none => exact nf_none
  | some x => exact h x
theorem nf_bnd {σ : Type} {e : σ} {F : σ → Option (Int32 × Mem)} (h : ∀ x, NF M (F x)) : NF M (bnd e F) := h e
theorem nf_jn {α : Type} {T : α} {B : α → Option (Int32 × Mem)} (P : α → Prop) (hT : P T) (hB : ∀ J, P J → NF M (B J)) : NF M (jn T B) := hB T hT
theorem nf_st {M' : Mem} {E : Option (Int32 × Mem)} (h1 : M' 178 2 = M 178 2) (h2 : M' 178 3 = M 178 3) (h : NF M' E) : NF M E := fun r e => by
  rcases h r e with a | ⟨a, b⟩
  · exact Or.inl a
  · exact Or.inr ⟨a.trans h1, b.trans h2⟩
/-- a call that refuses nothing -/
theorem nf_f {S : List (Nat × Option Nat)} {σ : Type} {rm : σ → Mem} {O : Option σ} {F : σ → Option (Int32 × Mem)} (h1 : Fr S rm M O) (hs : (178, none) ∉ S ∧ (178, some 2) ∉ S ∧ (178, some 3) ∉ S) (h : ∀ r, NF (rm r) (F r)) : NF M (O.bind F) := by
  cases O with
  | none => exact nf_none
  | some x => exact nf_st (h1 x rfl 178 2 hs.1 hs.2.1) (h1 x rfl 178 3 hs.1 hs.2.2) (h x)
/-- a call that may refuse -/
theorem nf_c {O : Option (Int32 × Mem)} {F : Int32 × Mem → Option (Int32 × Mem)} (h1 : NF M O) (h : ∀ r, ¬ r.1 = 0 → NF r.2 (F r)) : NF M (O.bind fun r => if r.1 = 0 then some (0, r.2) else F r) := by
  cases O with
  | none => exact nf_none
  | some x =>
    rw [Option.bind_some]
    by_cases c : x.1 = 0
    · rw [if_pos c]; exact fun r e => by cases e; exact Or.inl rfl
    · rw [if_neg c]
      rcases h1 x rfl with a | ⟨a, b⟩
      · exact absurd a c
      · exact nf_st a b (h x c)
theorem nf_ref {q : Int32} : NF M ((fX8_refuse q M).bind fun r => if r.1 = 0 ∨ r.1 = 1 then some (r.1, r.2) else none) := by
  intro r e
  unfold fX8_refuse at e
  rw [bnd_eq, bnd_eq, Option.bind_some, if_pos (Or.inl rfl)] at e
  cases e
  exact Or.inl rfl
end NOFAULT
theorem nX2_readUnit (p2 : Int32) (M : Mem) : NF M (fX2_readUnit p2 M) := by
  unfold fX2_readUnit
  refine nf_ite ?_ ?_
  · refine nf_jn (fun (J7 : Option (Int32 × Mem)) => NF M (J7)) ( ?_) (fun J7 hJ7 => ?_)
    · refine nf_f (wX1_put _ _) (by decide) (fun M8 => ?_)
      refine nf_f (wX8_advance _) (by decide) (fun M9 => ?_)
      exact nf_some
    · refine nf_ite ?_ ?_
      · exact hJ7
      · refine nf_ite ?_ ?_
        · exact nf_ref
        · exact hJ7
  · refine nf_jn (fun (J1 : (Int32) → Option (Int32 × Mem)) => ∀ (t2 : Int32), NF M (J1 t2)) (fun t2 => ?_) (fun J1 hJ1 => ?_)
    · refine nf_ite ?_ ?_
      · exact nf_ref
      · refine nf_f (wX1_put _ _) (by decide) (fun M3 => ?_)
        refine nf_f (wX8_advance _) (by decide) (fun M4 => ?_)
        exact nf_some
    · refine nf_ite ?_ ?_
      · refine nf_b (fun v6 => ?_)
        exact hJ1 _
      · exact hJ1 _
theorem nX2_readSum_L7    : ∀ (n : Nat) (y2 : Int32) (y3 : Int32) (y4 : Int32) (M : Mem), NF M (fX2_readSum_L7 n y2 y3 y4 M) := by
  intro n
  induction n with
  | zero => intro y2 y3 y4 M; exact nf_none
  | succ n ih =>
    intro y2 y3 y4 M
    rw [fX2_readSum_L7]
    refine nf_ite ?_ ?_
    · exact nf_some
    · refine nf_jn (fun (J1 : (Int32) → Option (Int32 × Mem)) => ∀ (t2 : Int32), NF M (J1 t2)) (fun t2 => ?_) (fun J1 hJ1 => ?_)
      · refine nf_c (nX2_readUnit _ _) (fun r3 _ => ?_)
        refine nf_jn (fun (J4 : (Mem) → Option (Int32 × Mem)) => ∀ (M5 : Mem), NF M5 (J4 M5)) (fun M5 => ?_) (fun J4 hJ4 => ?_)
        · refine nf_f (wX8_passSign _ _ _) (by decide) (fun r6 => ?_)
          refine nf_jn (fun (J7 : (Int32) → (Mem) → Option (Int32 × Mem)) => ∀ (a8 : Int32) (M9 : Mem), NF M9 (J7 a8 M9)) (fun a8 M9 => ?_) (fun J7 hJ7 => ?_)
          · exact ih _ _ _ _
          · refine nf_ite ?_ ?_
            · refine nf_jn (fun (J10 : (Mem) → Option (Int32 × Mem)) => ∀ (M11 : Mem), NF M11 (J10 M11)) (fun M11 => ?_) (fun J10 hJ10 => ?_)
              · refine nf_f (wX8_passSign _ _ _) (by decide) (fun r12 => ?_)
                refine nf_ite ?_ ?_
                · exact nf_some
                · exact hJ7 _ _
              · refine nf_ite ?_ ?_
                · exact hJ10 _
                · refine nf_f (wX1_put _ _) (by decide) (fun M13 => ?_)
                  exact hJ10 _
            · exact hJ7 _ _
        · refine nf_ite ?_ ?_
          · exact hJ4 _
          · refine nf_f (wX1_put _ _) (by decide) (fun M14 => ?_)
            exact hJ4 _
      · refine nf_ite ?_ ?_
        · exact hJ1 _
        · exact hJ1 _
theorem nX2_readSum  (M : Mem) : NF M (fX2_readSum M) := by
  unfold fX2_readSum
  exact nX2_readSum_L7  FU _ _ _ _
theorem nX8_takeSign (p1 : Int32) (M : Mem) : NF M (fX8_takeSign p1 M) := by
  unfold fX8_takeSign
  refine nf_ite ?_ ?_
  · exact nf_ref
  · refine nf_f (wX8_advance _) (by decide) (fun M1 => ?_)
    exact nf_some
theorem nh_X2_readTest (rX2_readEither : Int32 → Mem → Option (Int32 × Mem)) (hE : ∀ (p2 : Int32) (M : Mem), NF M (rX2_readEither p2 M)) (rX2_readTest : Int32 → Mem → Option (Int32 × Mem)) (hT : ∀ (p2 : Int32) (M : Mem), NF M (rX2_readTest p2 M)) (p2 : Int32) (M : Mem) : NF M (hX2_readTest rX2_readEither rX2_readTest p2 M) := by
  unfold hX2_readTest
  refine nf_b (fun v1 => ?_)
  refine nf_jn (fun (J2 : Option (Int32 × Mem)) => NF M (J2)) ( ?_) (fun J2 hJ2 => ?_)
  · refine nf_ite ?_ ?_
    · refine nf_f (wX8_advance _) (by decide) (fun M3 => ?_)
      refine nf_ite ?_ ?_
      · refine nf_c (hE _ _) (fun r6 _ => ?_)
        refine nf_c (nX8_takeSign _ _) (fun r7 _ => ?_)
        exact nf_some
      · refine nf_c (hT _ _) (fun r4 _ => ?_)
        refine nf_f (wX1_put _ _) (by decide) (fun M5 => ?_)
        exact nf_some
    · exact nf_ref
  · refine nf_ite ?_ ?_
    · refine nf_ite ?_ ?_
      · refine nf_c (nX2_readSum _) (fun r9 _ => ?_)
        refine nf_jn (fun (J10 : Option (Int32 × Mem)) => NF r9.2 (J10)) ( ?_) (fun J10 hJ10 => ?_)
        · refine nf_bnd (fun x11 => ?_)
          refine nf_f (wX8_advance _) (by decide) (fun M12 => ?_)
          refine nf_c (nX2_readSum _) (fun r13 _ => ?_)
          refine nf_f (wX1_put _ _) (by decide) (fun M14 => ?_)
          exact nf_some
        · refine nf_ite ?_ ?_
          · refine nf_ite ?_ ?_
            · refine nf_ite ?_ ?_
              · exact nf_ref
              · exact hJ10
            · exact hJ10
          · exact hJ10
      · exact hJ2
    · exact hJ2
theorem nX2_readEither_L8 (rX2_readEither : Int32 → Mem → Option (Int32 × Mem)) (rX2_readTest : Int32 → Mem → Option (Int32 × Mem)) (hT : ∀ (p2 : Int32) (M : Mem), NF M (rX2_readTest p2 M)) (z2 : Int32) : ∀ (n : Nat) (y3 : Int32) (y4 : Int32) (y5 : Int32) (M : Mem), NF M (fX2_readEither_L8 rX2_readEither rX2_readTest z2 n y3 y4 y5 M) := by
  intro n
  induction n with
  | zero => intro y3 y4 y5 M; exact nf_none
  | succ n ih =>
    intro y3 y4 y5 M
    rw [fX2_readEither_L8]
    refine nf_ite ?_ ?_
    · exact nf_some
    · refine nf_c (hT _ _) (fun r1 _ => ?_)
      refine nf_jn (fun (J2 : (Mem) → Option (Int32 × Mem)) => ∀ (M3 : Mem), NF M3 (J2 M3)) (fun M3 => ?_) (fun J2 hJ2 => ?_)
      · refine nf_f (wX8_passWord _ _) (by decide) (fun r4 => ?_)
        refine nf_jn (fun (J5 : (Int32) → (Mem) → Option (Int32 × Mem)) => ∀ (a6 : Int32) (M7 : Mem), NF M7 (J5 a6 M7)) (fun a6 M7 => ?_) (fun J5 hJ5 => ?_)
        · exact ih _ _ _ _
        · refine nf_ite ?_ ?_
          · refine nf_jn (fun (J8 : (Mem) → Option (Int32 × Mem)) => ∀ (M9 : Mem), NF M9 (J8 M9)) (fun M9 => ?_) (fun J8 hJ8 => ?_)
            · refine nf_f (wX8_passWord _ _) (by decide) (fun r10 => ?_)
              refine nf_ite ?_ ?_
              · exact nf_some
              · exact hJ5 _ _
            · refine nf_ite ?_ ?_
              · exact hJ8 _
              · refine nf_f (wX1_put _ _) (by decide) (fun M11 => ?_)
                exact hJ8 _
          · exact hJ5 _ _
      · refine nf_ite ?_ ?_
        · exact hJ2 _
        · refine nf_f (wX1_put _ _) (by decide) (fun M12 => ?_)
          exact hJ2 _
theorem nh_X2_readEither (rX2_readEither : Int32 → Mem → Option (Int32 × Mem)) (rX2_readTest : Int32 → Mem → Option (Int32 × Mem)) (hT : ∀ (p2 : Int32) (M : Mem), NF M (rX2_readTest p2 M)) (p2 : Int32) (M : Mem) : NF M (hX2_readEither rX2_readEither rX2_readTest p2 M) := by
  unfold hX2_readEither
  exact nX2_readEither_L8 _ _ hT p2 FU _ _ _ M
theorem nX2_grp : ∀ n : Nat, (∀ (p2 : Int32) (M : Mem), NF M (fX2_readEither n p2 M)) ∧ (∀ (p2 : Int32) (M : Mem), NF M (fX2_readTest n p2 M))
  | 0 => ⟨fun _ _ => nf_none, fun _ _ => nf_none⟩
  | n + 1 => ⟨fun p2 M => nh_X2_readEither _ _ (nX2_grp n).2 p2 M, fun p2 M => nh_X2_readTest _ (nX2_grp n).1 _ (nX2_grp n).2 p2 M⟩
theorem nX2_read_L9 : ∀ (n : Nat) (y2 : Int32) (M : Mem), NF M (fX2_read_L9 (fun M15 => some (1, M15)) n y2 M) := by
  intro n
  induction n with
  | zero => intro y2 M; exact nf_none
  | succ n ih =>
    intro y2 M
    rw [fX2_read_L9]
    refine nf_ite ?_ ?_
    · exact nf_some
    · refine nf_ite ?_ ?_
      · exact nf_some
      · refine nf_b (fun v2 => ?_)
        refine nf_ite ?_ ?_
        · exact nf_ref
        · refine nf_ite ?_ ?_
          · exact nf_ref
          · refine nf_f (wX8_advance _) (by decide) (fun M3 => ?_)
            refine nf_bnd (fun x4 => ?_)
            refine nf_c (nX2_readSum _) (fun r5 _ => ?_)
            refine nf_bnd (fun x6 => ?_)
            refine nf_f (wX8_passWord _ _) (by decide) (fun r7 => ?_)
            refine nf_jn (fun (J8 : (Mem) → Option (Int32 × Mem)) => ∀ (M9 : Mem), NF M9 (J8 M9)) (fun M9 => ?_) (fun J8 hJ8 => ?_)
            · refine nf_c (nX8_takeSign _ _) (fun r10 _ => ?_)
              refine nf_f (wX1_appendLine _ _ _ _) (by decide) (fun M11 => ?_)
              exact ih _ _
            · refine nf_ite ?_ ?_
              · exact hJ8 _
              · exact nf_c ((nX2_grp RU).1 _ _) (fun r12 _ => hJ8 _)
