/-! ===== what a function leaves as it was: every place that S does not name: (cell, none) the whole cell, (cell, some j) its field j ===== -/
def Fr (S : List (Nat × Option Nat)) {τ : Type} (rm : τ → Mem) (M : Mem) (E : Option τ) : Prop := ∀ r, E = some r → ∀ a i, (a, none) ∉ S → (a, some i) ∉ S → rm r a i = M a i
section FRAME
variable {S : List (Nat × Option Nat)} {τ : Type} {rm : τ → Mem} {M : Mem}
theorem fr_none : Fr S rm M none := fun _ h => by cases h
theorem fr_some {r : τ} (h : rm r = M) : Fr S rm M (some r) := fun r' e a i _ _ => by cases e; rw [h]
theorem fr_ite {c : Prop} [Decidable c] {E1 E2 : Option τ} (h1 : Fr S rm M E1) (h2 : Fr S rm M E2) : Fr S rm M (if c then E1 else E2) := by
  by_cases h : c
  · rw [if_pos h]; exact h1
  · rw [if_neg h]; exact h2
theorem fr_b {σ : Type} {O : Option σ} {F : σ → Option τ} (h : ∀ x, Fr S rm M (F x)) : Fr S rm M (O.bind F) := by
  cases O with
  | none => exact fr_none
  | some x => exact h x
theorem fr_bm {σ : Type} {O : Option σ} {F : σ → Option τ} (h : ∀ x, O = some x → Fr S rm M (F x)) : Fr S rm M (O.bind F) := by
  cases O with
  | none => exact fr_none
  | some x => exact h x rfl
theorem rdt_mem {k n : Nat} {i : Int32} {q : Nat} {L : List Nat} (e : rdt k n i = some q) (hL : ∀ j, j < n → k + rtL.getD j 0 ∈ L) : q ∈ L := by
  unfold rdt at e
  by_cases c : i < 0 ∨ n ≤ i.toNatClampNeg
  · rw [if_pos c] at e; cases e
  · rw [if_neg c] at e
    cases e
    exact hL _ (Nat.lt_of_not_le fun q => c (Or.inr q))
theorem fr_bnd {σ : Type} {e : σ} {F : σ → Option τ} (h : ∀ x, Fr S rm M (F x)) : Fr S rm M (bnd e F) := h e
theorem fr_step {M' : Mem} {E : Option τ} (hm : ∀ a i, (a, none) ∉ S → (a, some i) ∉ S → M' a i = M a i) (h : Fr S rm M' E) : Fr S rm M E := fun r e a i h1 h2 => (h r e a i h1 h2).trans (hm a i h1 h2)
theorem mu_apply (M : Mem) (k j : Nat) (v : Int32) (a i : Nat) : mu M k j v a i = if a = k then (if i = j then v else M k i) else M a i := by
  unfold mu mf
  by_cases h : a = k
  · rw [if_pos h, if_pos h]; rfl
  · rw [if_neg h, if_neg h]
theorem fr_mu {k j : Nat} {v : Int32} {F : Mem → Option τ} (hk : (k, some j) ∈ S) (h : ∀ M', Fr S rm M' (F M')) : Fr S rm M (bnd (mu M k j v) F) := fr_step (fun a i h1 h2 => by
  rw [mu_apply]
  by_cases ha : a = k
  · subst ha
    have hi : ¬ i = j := fun q => h2 (q ▸ hk)
    rw [if_pos rfl, if_neg hi]
  · rw [if_neg ha]) (h _)
theorem fr_wr {k n : Nat} {i v : Int32} {F : Mem → Option τ} (hk : (k, none) ∈ S) (h : ∀ M', Fr S rm M' (F M')) : Fr S rm M ((wr M k n i v).bind F) := by
  unfold wr
  by_cases c : i < 0 ∨ n ≤ i.toNatClampNeg
  · rw [if_pos c]; exact fr_none
  · rw [if_neg c]
    refine fr_step (fun a i h1 h2 => ?_) (h _)
    have ha : ¬ a = k := fun q => h1 (q ▸ hk)
    rw [mu_apply, if_neg ha]
theorem fr_cpy {k0 n0 k1 n1 : Nat} {sp dp nn : Int32} {F : Mem → Option τ} (hk : (k1, none) ∈ S) (h : ∀ M', Fr S rm M' (F M')) : Fr S rm M ((cpy M k0 n0 k1 n1 sp dp nn).bind F) := by
  unfold cpy
  by_cases c : sp < 0 ∨ dp < 0 ∨ nn < 0 ∨ n0 < sp.toNatClampNeg + nn.toNatClampNeg ∨ n1 < dp.toNatClampNeg + nn.toNatClampNeg
  · rw [if_pos c]; exact fr_none
  · rw [if_neg c]
    refine fr_step (fun a i h1 h2 => ?_) (h _)
    have ha : ¬ a = k1 := fun q => h1 (q ▸ hk)
    exact congrFun (if_neg ha) i
theorem fr_c {S' : List (Nat × Option Nat)} {σ : Type} {rm1 : σ → Mem} {O : Option σ} {F : σ → Option τ} (h1 : Fr S' rm1 M O) (hs : ∀ a ∈ S', a ∈ S) (h : ∀ r, Fr S rm (rm1 r) (F r)) : Fr S rm M (O.bind F) := by
  cases hO : O with
  | none => exact fr_none
  | some x => exact fun r e a i q1 q2 => (h x r e a i q1 q2).trans (h1 x hO a i (fun q => q1 (hs _ q)) (fun q => q2 (hs _ q)))
theorem fr_jn {α : Type} {T : α} {B : α → Option τ} (P : α → Prop) (hT : P T) (hB : ∀ J, P J → Fr S rm M (B J)) : Fr S rm M (jn T B) := hB T hT
theorem fr_swt : ∀ {x lo : Int32} {Es : List (Option τ)} {Ed : Option τ}, (∀ E ∈ Es, Fr S rm M E) → Fr S rm M Ed → Fr S rm M (swt x lo Es Ed)
  | _, _, [], _, _, hd => hd
  | x, lo, E :: Es, Ed, h, hd => by
    show Fr S rm M (if x = lo then E else swt x (lo + 1) Es Ed)
    exact fr_ite (h E List.mem_cons_self) (fr_swt (fun E' hE => h E' (List.mem_cons_of_mem _ hE)) hd)
theorem fr_all {E : Option τ} {Es : List (Option τ)} (h : Fr S rm M E) (hs : ∀ E ∈ Es, Fr S rm M E) : ∀ E' ∈ E :: Es, Fr S rm M E' := fun E' hE => (List.mem_cons.mp hE).elim (fun q => q ▸ h) (hs E')
theorem true_nil : ∀ E ∈ ([] : List (Option τ)), Fr S rm M E := fun _ h => by cases h
end FRAME

set_option maxHeartbeats 4000000 in
set_option maxRecDepth 100000 in
theorem wX6_forget  (M : Mem) : Fr [(105, some 0)] rmU M (fX6_forget M) := by
  unfold fX6_forget
  refine fr_mu (by decide) (fun M1 => ?_)
  exact fr_some rfl
set_option maxHeartbeats 4000000 in
set_option maxRecDepth 100000 in
theorem wX11_state (p1 : Int32) (M : Mem) : Fr [(2, some 0), (105, some 0)] rmW M (fX11_state p1 M) := by
  unfold fX11_state
  refine fr_bnd (fun x1 => ?_)
  refine fr_mu (by decide) (fun M2 => ?_)
  refine fr_c (wX6_forget _) (by decide) (fun M3 => ?_)
  exact fr_some rfl
set_option maxHeartbeats 4000000 in
set_option maxRecDepth 100000 in
theorem wX12_state (p1 : Int32) (M : Mem) : Fr [(198, some 0), (198, some 3), (199, none)] rmW M (fX12_state p1 M) := by
  unfold fX12_state
  refine fr_mu (by decide) (fun M1 => ?_)
  refine fr_b (fun v2 => ?_)
  refine fr_wr (by decide) (fun M3 => ?_)
  refine fr_mu (by decide) (fun M4 => ?_)
  exact fr_some rfl
set_option maxHeartbeats 4000000 in
set_option maxRecDepth 100000 in
theorem wX9_addPerson (p1 : Int32) (M : Mem) : Fr [(2, some 4), (3, none), (4, none), (5, none)] rmU M (fX9_addPerson p1 M) := by
  unfold fX9_addPerson
  refine fr_ite ?_ ?_
  · exact fr_some rfl
  · refine fr_wr (by decide) (fun M1 => ?_)
    refine fr_wr (by decide) (fun M2 => ?_)
    refine fr_wr (by decide) (fun M3 => ?_)
    refine fr_mu (by decide) (fun M4 => ?_)
    exact fr_some rfl
set_option maxHeartbeats 4000000 in
set_option maxRecDepth 100000 in
theorem wX11_person (p1 : Int32) (M : Mem) : Fr [(2, some 4), (3, none), (4, none), (5, none), (105, some 0)] rmW M (fX11_person p1 M) := by
  unfold fX11_person
  refine fr_ite ?_ ?_
  · exact fr_some rfl
  · refine fr_ite ?_ ?_
    · refine fr_c (wX9_addPerson _ _) (by decide) (fun M1 => ?_)
      refine fr_c (wX6_forget _) (by decide) (fun M2 => ?_)
      exact fr_some rfl
    · exact fr_some rfl
set_option maxHeartbeats 4000000 in
set_option maxRecDepth 100000 in
theorem wX12_person (p1 : Int32) (M : Mem) : Fr [(198, some 0), (198, some 3), (198, some 6), (199, none)] rmW M (fX12_person p1 M) := by
  unfold fX12_person
  refine fr_mu (by decide) (fun M1 => ?_)
  refine fr_ite ?_ ?_
  · exact fr_some rfl
  · refine fr_ite ?_ ?_
    · exact fr_some rfl
    · refine fr_wr (by decide) (fun M2 => ?_)
      refine fr_wr (by decide) (fun M3 => ?_)
      refine fr_wr (by decide) (fun M4 => ?_)
      refine fr_mu (by decide) (fun M5 => ?_)
      refine fr_mu (by decide) (fun M6 => ?_)
      exact fr_some rfl
set_option maxHeartbeats 4000000 in
set_option maxRecDepth 100000 in
theorem wX9_addBargain (p1 : Int32) (p2 : Int32) (p3 : Int32) (M : Mem) : Fr [(2, some 5), (6, none), (7, none), (8, none), (9, none), (10, none), (11, none)] rmU M (fX9_addBargain p1 p2 p3 M) := by
  unfold fX9_addBargain
  refine fr_ite ?_ ?_
  · exact fr_some rfl
  · refine fr_wr (by decide) (fun M1 => ?_)
    refine fr_wr (by decide) (fun M2 => ?_)
    refine fr_wr (by decide) (fun M3 => ?_)
    refine fr_wr (by decide) (fun M4 => ?_)
    refine fr_wr (by decide) (fun M5 => ?_)
    refine fr_wr (by decide) (fun M6 => ?_)
    refine fr_mu (by decide) (fun M7 => ?_)
    exact fr_some rfl
set_option maxHeartbeats 4000000 in
set_option maxRecDepth 100000 in
theorem wX11_bargain (p1 : Int32) (p2 : Int32) (p3 : Int32) (M : Mem) : Fr [(2, some 5), (6, none), (7, none), (8, none), (9, none), (10, none), (11, none), (105, some 0)] rmW M (fX11_bargain p1 p2 p3 M) := by
  unfold fX11_bargain
  refine fr_ite ?_ ?_
  · exact fr_some rfl
  · refine fr_ite ?_ ?_
    · exact fr_some rfl
    · refine fr_ite ?_ ?_
      · refine fr_c (wX9_addBargain _ _ _ _) (by decide) (fun M1 => ?_)
        refine fr_c (wX6_forget _) (by decide) (fun M2 => ?_)
        exact fr_some rfl
      · exact fr_some rfl
set_option maxHeartbeats 4000000 in
set_option maxRecDepth 100000 in
theorem wX12_bargain (p1 : Int32) (p2 : Int32) (p3 : Int32) (M : Mem) : Fr [(198, some 0), (198, some 3), (198, some 7), (199, none), (202, none), (203, none), (204, none)] rmW M (fX12_bargain p1 p2 p3 M) := by
  unfold fX12_bargain
  refine fr_mu (by decide) (fun M1 => ?_)
  refine fr_ite ?_ ?_
  · exact fr_some rfl
  · refine fr_ite ?_ ?_
    · exact fr_some rfl
    · refine fr_ite ?_ ?_
      · exact fr_some rfl
      · refine fr_ite ?_ ?_
        · exact fr_some rfl
        · refine fr_ite ?_ ?_
          · exact fr_some rfl
          · refine fr_wr (by decide) (fun M2 => ?_)
            refine fr_wr (by decide) (fun M3 => ?_)
            refine fr_wr (by decide) (fun M4 => ?_)
            refine fr_wr (by decide) (fun M5 => ?_)
            refine fr_wr (by decide) (fun M6 => ?_)
            refine fr_wr (by decide) (fun M7 => ?_)
            refine fr_mu (by decide) (fun M8 => ?_)
            refine fr_mu (by decide) (fun M9 => ?_)
            exact fr_some rfl
set_option maxHeartbeats 4000000 in
set_option maxRecDepth 100000 in
theorem wX11_set (p1 : Int32) (p2 : Int32) (p3 : Int32) (M : Mem) : Fr [(2, some 1), (2, some 2), (3, none), (9, none), (105, some 0)] rmW M (fX11_set p1 p2 p3 M) := by
  unfold fX11_set
  refine fr_ite ?_ ?_
  · exact fr_some rfl
  · refine fr_jn (fun (J1 : (Mem) → Option (Int32 × Mem)) => ∀ (M2 : Mem), Fr [(2, some 1), (2, some 2), (3, none), (9, none), (105, some 0)] rmW M2 (J1 M2)) (fun M2 => ?_) (fun J1 hJ1 => ?_)
    · refine fr_c (wX6_forget _) (by decide) (fun M3 => ?_)
      exact fr_some rfl
    · refine fr_jn (fun (J4 : Option (Int32 × Mem)) => Fr [(2, some 1), (2, some 2), (3, none), (9, none), (105, some 0)] rmW M (J4)) ( ?_) (fun J4 hJ4 => ?_)
      · refine fr_jn (fun (J5 : Option (Int32 × Mem)) => Fr [(2, some 1), (2, some 2), (3, none), (9, none), (105, some 0)] rmW M (J5)) ( ?_) (fun J5 hJ5 => ?_)
        · refine fr_ite ?_ ?_
          · refine fr_mu (by decide) (fun M7 => ?_)
            exact hJ1 _
          · refine fr_ite ?_ ?_
            · refine fr_mu (by decide) (fun M6 => ?_)
              exact hJ1 _
            · exact fr_some rfl
        · refine fr_ite ?_ ?_
          · refine fr_b (fun v8 => ?_)
            refine fr_ite ?_ ?_
            · exact hJ5
            · refine fr_ite ?_ ?_
              · exact hJ5
              · refine fr_wr (by decide) (fun M9 => ?_)
                exact hJ1 _
          · exact hJ5
      · refine fr_ite ?_ ?_
        · refine fr_ite ?_ ?_
          · exact hJ4
          · refine fr_wr (by decide) (fun M10 => ?_)
            exact hJ1 _
        · exact hJ4
set_option maxHeartbeats 4000000 in
set_option maxRecDepth 100000 in
theorem wX12_set (p1 : Int32) (p2 : Int32) (p3 : Int32) (M : Mem) : Fr [(198, some 0), (198, some 3), (199, none)] rmW M (fX12_set p1 p2 p3 M) := by
  unfold fX12_set
  refine fr_mu (by decide) (fun M1 => ?_)
  refine fr_jn (fun (J2 : (Int32) → Option (Int32 × Mem)) => ∀ (t3 : Int32), Fr [(198, some 0), (198, some 3), (199, none)] rmW M1 (J2 t3)) (fun t3 => ?_) (fun J2 hJ2 => ?_)
  · refine fr_ite ?_ ?_
    · exact fr_some rfl
    · refine fr_jn (fun (J4 : (Mem) → Option (Int32 × Mem)) => ∀ (M5 : Mem), Fr [(198, some 0), (198, some 3), (199, none)] rmW M5 (J4 M5)) (fun M5 => ?_) (fun J4 hJ4 => ?_)
      · refine fr_jn (fun (J6 : (Mem) → Option (Int32 × Mem)) => ∀ (M7 : Mem), Fr [(198, some 0), (198, some 3), (199, none)] rmW M7 (J6 M7)) (fun M7 => ?_) (fun J6 hJ6 => ?_)
        · refine fr_jn (fun (J8 : (Mem) → Option (Int32 × Mem)) => ∀ (M9 : Mem), Fr [(198, some 0), (198, some 3), (199, none)] rmW M9 (J8 M9)) (fun M9 => ?_) (fun J8 hJ8 => ?_)
          · refine fr_mu (by decide) (fun M10 => ?_)
            exact fr_some rfl
          · refine fr_ite ?_ ?_
            · exact hJ8 _
            · refine fr_wr (by decide) (fun M11 => ?_)
              exact hJ8 _
        · refine fr_ite ?_ ?_
          · refine fr_wr (by decide) (fun M12 => ?_)
            exact hJ6 _
          · exact hJ6 _
      · refine fr_ite ?_ ?_
        · refine fr_wr (by decide) (fun M13 => ?_)
          exact hJ4 _
        · exact hJ4 _
  · refine fr_ite ?_ ?_
    · refine fr_jn (fun (J17 : Option (Int32 × Mem)) => Fr [(198, some 0), (198, some 3), (199, none)] rmW M1 (J17)) ( ?_) (fun J17 hJ17 => ?_)
      · exact hJ2 _
      · refine fr_ite ?_ ?_
        · exact hJ17
        · refine fr_ite ?_ ?_
          · exact hJ17
          · exact hJ2 _
    · refine fr_ite ?_ ?_
      · refine fr_jn (fun (J15 : Option (Int32 × Mem)) => Fr [(198, some 0), (198, some 3), (199, none)] rmW M1 (J15)) ( ?_) (fun J15 hJ15 => ?_)
        · exact hJ2 _
        · refine fr_ite ?_ ?_
          · exact hJ15
          · refine fr_b (fun v16 => ?_)
            refine fr_ite ?_ ?_
            · refine fr_ite ?_ ?_
              · exact hJ15
              · exact hJ2 _
            · exact hJ15
      · refine fr_jn (fun (J14 : Option (Int32 × Mem)) => Fr [(198, some 0), (198, some 3), (199, none)] rmW M1 (J14)) ( ?_) (fun J14 hJ14 => ?_)
        · exact hJ2 _
        · refine fr_ite ?_ ?_
          · exact hJ14
          · refine fr_ite ?_ ?_
            · exact hJ14
            · exact hJ2 _
set_option maxHeartbeats 4000000 in
set_option maxRecDepth 100000 in
theorem wX9_copyFrom (k0 : Nat) (k1 : Nat) (M : Mem) : Fr [((k0 + 1), none), ((k0 + 2), none), ((k0 + 3), none), ((k0 + 4), none), ((k0 + 5), none), ((k0 + 6), none), ((k0 + 7), none), ((k0 + 8), none), ((k0 + 9), none), (k0, some 0), (k0, some 1), (k0, some 2), (k0, some 3), (k0, some 4), (k0, some 5)] rmU M (fX9_copyFrom k0 k1 M) := by
  unfold fX9_copyFrom
  refine fr_mu (by simp) (fun M1 => ?_)
  refine fr_mu (by simp) (fun M2 => ?_)
  refine fr_mu (by simp) (fun M3 => ?_)
  refine fr_mu (by simp) (fun M4 => ?_)
  refine fr_mu (by simp) (fun M5 => ?_)
  refine fr_mu (by simp) (fun M6 => ?_)
  refine fr_cpy (by simp) (fun M7 => ?_)
  refine fr_cpy (by simp) (fun M8 => ?_)
  refine fr_cpy (by simp) (fun M9 => ?_)
  refine fr_cpy (by simp) (fun M10 => ?_)
  refine fr_cpy (by simp) (fun M11 => ?_)
  refine fr_cpy (by simp) (fun M12 => ?_)
  refine fr_cpy (by simp) (fun M13 => ?_)
  refine fr_cpy (by simp) (fun M14 => ?_)
  refine fr_cpy (by simp) (fun M15 => ?_)
  exact fr_some rfl
set_option maxHeartbeats 4000000 in
set_option maxRecDepth 100000 in
theorem wX6_keep (p2 : Int32) (M : Mem) : Fr [(105, some 0), (105, some 1), (107, none), (108, some 0), (108, some 1), (108, some 2), (108, some 3), (108, some 4), (108, some 5), (109, none), (110, none), (111, none), (112, none), (113, none), (114, none), (115, none), (116, none), (117, none), (118, some 0), (118, some 1), (118, some 2), (118, some 3), (118, some 4), (118, some 5), (119, none), (120, none), (121, none), (122, none), (123, none), (124, none), (125, none), (126, none), (127, none), (128, some 0), (128, some 1), (128, some 2), (128, some 3), (128, some 4), (128, some 5), (129, none), (130, none), (131, none), (132, none), (133, none), (134, none), (135, none), (136, none), (137, none), (138, some 0), (138, some 1), (138, some 2), (138, some 3), (138, some 4), (138, some 5), (139, none), (140, none), (141, none), (142, none), (143, none), (144, none), (145, none), (146, none), (147, none), (148, some 0), (148, some 1), (148, some 2), (148, some 3), (148, some 4), (148, some 5), (149, none), (150, none), (151, none), (152, none), (153, none), (154, none), (155, none), (156, none), (157, none), (158, some 0), (158, some 1), (158, some 2), (158, some 3), (158, some 4), (158, some 5), (159, none), (160, none), (161, none), (162, none), (163, none), (164, none), (165, none), (166, none), (167, none)] rmU M (fX6_keep p2 M) := by
  unfold fX6_keep
  refine fr_bm (fun q1 eq1 => ?_)
  have mq1 : q1 ∈ [108, 118, 128, 138, 148, 158] := rdt_mem eq1 (by decide +kernel)
  refine fr_ite ?_ fr_none
  refine fr_c (wX9_copyFrom _ _ _) ((show ∀ q ∈ [108, 118, 128, 138, 148, 158], ∀ a ∈ ([(q + 1, none), (q + 2, none), (q + 3, none), (q + 4, none), (q + 5, none), (q + 6, none), (q + 7, none), (q + 8, none), (q + 9, none), (q, some 0), (q, some 1), (q, some 2), (q, some 3), (q, some 4), (q, some 5)] : List (Nat × Option Nat)), a ∈ ([(105, some 0), (105, some 1), (107, none), (108, some 0), (108, some 1), (108, some 2), (108, some 3), (108, some 4), (108, some 5), (109, none), (110, none), (111, none), (112, none), (113, none), (114, none), (115, none), (116, none), (117, none), (118, some 0), (118, some 1), (118, some 2), (118, some 3), (118, some 4), (118, some 5), (119, none), (120, none), (121, none), (122, none), (123, none), (124, none), (125, none), (126, none), (127, none), (128, some 0), (128, some 1), (128, some 2), (128, some 3), (128, some 4), (128, some 5), (129, none), (130, none), (131, none), (132, none), (133, none), (134, none), (135, none), (136, none), (137, none), (138, some 0), (138, some 1), (138, some 2), (138, some 3), (138, some 4), (138, some 5), (139, none), (140, none), (141, none), (142, none), (143, none), (144, none), (145, none), (146, none), (147, none), (148, some 0), (148, some 1), (148, some 2), (148, some 3), (148, some 4), (148, some 5), (149, none), (150, none), (151, none), (152, none), (153, none), (154, none), (155, none), (156, none), (157, none), (158, some 0), (158, some 1), (158, some 2), (158, some 3), (158, some 4), (158, some 5), (159, none), (160, none), (161, none), (162, none), (163, none), (164, none), (165, none), (166, none), (167, none)] : List (Nat × Option Nat)) from by decide) q1 mq1) (fun M2 => ?_)
  refine fr_wr (by decide) (fun M3 => ?_)
  refine fr_jn (fun (J4 : (Int32) → Option (Mem)) => ∀ (t5 : Int32), Fr [(105, some 0), (105, some 1), (107, none), (108, some 0), (108, some 1), (108, some 2), (108, some 3), (108, some 4), (108, some 5), (109, none), (110, none), (111, none), (112, none), (113, none), (114, none), (115, none), (116, none), (117, none), (118, some 0), (118, some 1), (118, some 2), (118, some 3), (118, some 4), (118, some 5), (119, none), (120, none), (121, none), (122, none), (123, none), (124, none), (125, none), (126, none), (127, none), (128, some 0), (128, some 1), (128, some 2), (128, some 3), (128, some 4), (128, some 5), (129, none), (130, none), (131, none), (132, none), (133, none), (134, none), (135, none), (136, none), (137, none), (138, some 0), (138, some 1), (138, some 2), (138, some 3), (138, some 4), (138, some 5), (139, none), (140, none), (141, none), (142, none), (143, none), (144, none), (145, none), (146, none), (147, none), (148, some 0), (148, some 1), (148, some 2), (148, some 3), (148, some 4), (148, some 5), (149, none), (150, none), (151, none), (152, none), (153, none), (154, none), (155, none), (156, none), (157, none), (158, some 0), (158, some 1), (158, some 2), (158, some 3), (158, some 4), (158, some 5), (159, none), (160, none), (161, none), (162, none), (163, none), (164, none), (165, none), (166, none), (167, none)] rmU M3 (J4 t5)) (fun t5 => ?_) (fun J4 hJ4 => ?_)
  · refine fr_mu (by decide) (fun M6 => ?_)
    refine fr_mu (by decide) (fun M7 => ?_)
    exact fr_some rfl
  · refine fr_ite ?_ ?_
    · exact hJ4 _
    · exact hJ4 _
set_option maxHeartbeats 4000000 in
set_option maxRecDepth 100000 in
theorem wX1_worked_L5  (K161 : Int32 → Mem → Option (Int32 × Mem)) (z2 : Int32) (hK161 : ∀ (e3 : Int32) (M : Mem), Fr [(24, none)] rmW M (K161 e3 M)) : ∀ (n : Nat) (y3 : Int32) (y4 : Int32) (M : Mem), Fr [(24, none)] rmW M (fX1_worked_L5 K161 z2 n y3 y4 M) := by
  intro n
  induction n with
  | zero => intro y3 y4 M; exact fr_none
  | succ n ih =>
    intro y3 y4 M
    rw [fX1_worked_L5]
    refine fr_ite ?_ ?_
    · exact hK161 _ _
    · refine fr_ite ?_ ?_
      · exact hK161 _ _
      · refine fr_ite ?_ ?_
        · exact hK161 _ _
        · refine fr_b (fun v1 => ?_)
          refine fr_jn (fun (J2 : (Int32) → (Mem) → Option (Int32 × Mem)) => ∀ (a3 : Int32) (M4 : Mem), Fr [(24, none)] rmW M4 (J2 a3 M4)) (fun a3 M4 => ?_) (fun J2 hJ2 => ?_)
          · exact ih _ _ _
          · refine fr_ite ?_ ?_
            · refine fr_ite ?_ ?_
              · refine fr_ite ?_ ?_
                · exact hJ2 _ _
                · refine fr_b (fun v9 => ?_)
                  refine fr_wr (by decide) (fun M10 => ?_)
                  exact hJ2 _ _
              · refine fr_ite ?_ ?_
                · exact hJ2 _ _
                · refine fr_b (fun v5 => ?_)
                  refine fr_b (fun v6 => ?_)
                  refine fr_b (fun v7 => ?_)
                  refine fr_wr (by decide) (fun M8 => ?_)
                  exact hJ2 _ _
            · refine fr_ite ?_ ?_
              · exact hJ2 _ _
              · refine fr_jn (fun (J11 : (Int32) → Option (Int32 × Mem)) => ∀ (t12 : Int32), Fr [(24, none)] rmW M (J11 t12)) (fun t12 => ?_) (fun J11 hJ11 => ?_)
                · refine fr_wr (by decide) (fun M13 => ?_)
                  exact hJ2 _ _
                · refine fr_ite ?_ ?_
                  · refine fr_b (fun v14 => ?_)
                    exact hJ11 _
                  · exact hJ11 _
set_option maxHeartbeats 4000000 in
set_option maxRecDepth 100000 in
theorem wX1_worked (p1 : Int32) (p2 : Int32) (M : Mem) : Fr [(24, none)] rmW M (fX1_worked p1 p2 M) := by
  unfold fX1_worked
  refine wX1_worked_L5 _ _ (fun e15 M16 => ?_) FU _ _ _
  · refine fr_ite ?_ ?_
    · exact fr_some rfl
    · refine fr_b (fun v17 => ?_)
      exact fr_some rfl
set_option maxHeartbeats 4000000 in
set_option maxRecDepth 100000 in
theorem wX1_lineFor_L2  (K54 : Int32 → Mem → Option (Int32 × Mem)) (z1 : Int32) (hK54 : ∀ (e2 : Int32) (M : Mem), Fr [(24, none)] rmW M (K54 e2 M)) : ∀ (n : Nat) (y2 : Int32) (M : Mem), Fr [(24, none)] rmW M (fX1_lineFor_L2 K54 z1 n y2 M) := by
  intro n
  induction n with
  | zero => intro y2 M; exact fr_none
  | succ n ih =>
    intro y2 M
    rw [fX1_lineFor_L2]
    refine fr_ite ?_ ?_
    · exact fr_some rfl
    · refine fr_b (fun v1 => ?_)
      refine fr_jn (fun (J2 : (Mem) → Option (Int32 × Mem)) => ∀ (M3 : Mem), Fr [(24, none)] rmW M3 (J2 M3)) (fun M3 => ?_) (fun J2 hJ2 => ?_)
      · exact ih _ _
      · refine fr_ite ?_ ?_
        · refine fr_b (fun v4 => ?_)
          refine fr_b (fun v5 => ?_)
          refine fr_ite ?_ ?_
          · exact hK54 _ _
          · refine fr_b (fun v6 => ?_)
            refine fr_b (fun v7 => ?_)
            refine fr_c (wX1_worked _ _ _) (by decide) (fun r8 => ?_)
            refine fr_ite ?_ ?_
            · exact hJ2 _
            · exact hK54 _ _
        · exact hJ2 _
set_option maxHeartbeats 4000000 in
set_option maxRecDepth 100000 in
theorem wX1_lineFor (p1 : Int32) (M : Mem) : Fr [(24, none)] rmW M (fX1_lineFor p1 M) := by
  unfold fX1_lineFor
  refine wX1_lineFor_L2 _ _ (fun e9 M10 => ?_) FU _ _
  · exact fr_some rfl
set_option maxHeartbeats 4000000 in
set_option maxRecDepth 100000 in
theorem wX1_valueOf (p1 : Int32) (M : Mem) : Fr [(24, none)] rmW M (fX1_valueOf p1 M) := by
  unfold fX1_valueOf
  refine fr_ite ?_ ?_
  · exact fr_some rfl
  · refine fr_ite ?_ ?_
    · exact fr_some rfl
    · refine fr_b (fun v1 => ?_)
      refine fr_b (fun v2 => ?_)
      refine fr_c (wX1_worked _ _ _) (by decide) (fun r3 => ?_)
      exact fr_some rfl
set_option maxHeartbeats 4000000 in
set_option maxRecDepth 100000 in
theorem wX0_asked (p1 : Int32) (k2 : Nat) (p3 : Int32) (p4 : Int32) (p5 : Int32) (M : Mem) : Fr [(23, none), (24, none)] rmW M (fX0_asked p1 k2 p3 p4 p5 M) := by
  unfold fX0_asked
  refine fr_ite ?_ ?_
  · exact fr_some rfl
  · refine fr_b (fun v1 => ?_)
    refine fr_bnd (fun x2 => ?_)
    refine fr_jn (fun (J3 : (Int32) → Option (Int32 × Mem)) => ∀ (t4 : Int32), Fr [(23, none), (24, none)] rmW M (J3 t4)) (fun t4 => ?_) (fun J3 hJ3 => ?_)
    · refine fr_wr (by simp) (fun M5 => ?_)
      refine fr_jn (fun (J6 : (Int32) → Option (Int32 × Mem)) => ∀ (t7 : Int32), Fr [(23, none), (24, none)] rmW M5 (J6 t7)) (fun t7 => ?_) (fun J6 hJ6 => ?_)
      · refine fr_wr (by simp) (fun M8 => ?_)
        refine fr_jn (fun (J9 : (Int32) → Option (Int32 × Mem)) => ∀ (t10 : Int32), Fr [(23, none), (24, none)] rmW M8 (J9 t10)) (fun t10 => ?_) (fun J9 hJ9 => ?_)
        · refine fr_wr (by simp) (fun M11 => ?_)
          refine fr_wr (by simp) (fun M12 => ?_)
          refine fr_b (fun v13 => ?_)
          refine fr_wr (by simp) (fun M14 => ?_)
          refine fr_b (fun v15 => ?_)
          refine fr_wr (by simp) (fun M16 => ?_)
          refine fr_wr (by simp) (fun M17 => ?_)
          refine fr_wr (by simp) (fun M18 => ?_)
          refine fr_b (fun v19 => ?_)
          refine fr_wr (by simp) (fun M20 => ?_)
          refine fr_wr (by simp) (fun M21 => ?_)
          refine fr_c (wX1_lineFor _ _) (by simp) (fun r22 => ?_)
          refine fr_jn (fun (J23 : (Int32) → (Mem) → Option (Int32 × Mem)) => ∀ (t24 : Int32) (M25 : Mem), Fr [(23, none), (24, none)] rmW M25 (J23 t24 M25)) (fun t24 M25 => ?_) (fun J23 hJ23 => ?_)
          · refine fr_jn (fun (J26 : (Int32) → Option (Int32 × Mem)) => ∀ (t27 : Int32), Fr [(23, none), (24, none)] rmW M25 (J26 t27)) (fun t27 => ?_) (fun J26 hJ26 => ?_)
            · exact fr_some rfl
            · refine fr_ite ?_ ?_
              · exact hJ26 _
              · exact hJ26 _
          · refine fr_ite ?_ ?_
            · refine fr_b (fun v29 => ?_)
              exact hJ23 _ _
            · refine fr_c (wX1_valueOf _ _) (by simp) (fun r28 => ?_)
              exact hJ23 _ _
        · refine fr_ite ?_ ?_
          · exact hJ9 _
          · refine fr_b (fun v30 => ?_)
            exact hJ9 _
      · refine fr_ite ?_ ?_
        · exact hJ6 _
        · refine fr_b (fun v31 => ?_)
          exact hJ6 _
    · refine fr_ite ?_ ?_
      · exact hJ3 _
      · refine fr_b (fun v32 => ?_)
        exact hJ3 _
set_option maxHeartbeats 4000000 in
set_option maxRecDepth 100000 in
theorem wX9_drawn (k0 : Nat) (p1 : Int32) (M : Mem) : Fr [(k0, some 0)] rmW M (fX9_drawn k0 p1 M) := by
  unfold fX9_drawn
  refine fr_mu (by simp) (fun M1 => ?_)
  refine fr_ite ?_ ?_
  · exact fr_some rfl
  · refine fr_ite fr_none ?_
    exact fr_some rfl
set_option maxHeartbeats 4000000 in
set_option maxRecDepth 100000 in
theorem wX3_append (k0 : Nat) (p1 : Int32) (p2 : Int32) (p3 : Int32) (p4 : Int32) (M : Mem) : Fr [((k0 + 1), none), ((k0 + 2), none), ((k0 + 3), none), ((k0 + 4), none), (k0, some 0)] rmU M (fX3_append k0 p1 p2 p3 p4 M) := by
  unfold fX3_append
  refine fr_ite ?_ ?_
  · exact fr_some rfl
  · refine fr_wr (by simp) (fun M1 => ?_)
    refine fr_wr (by simp) (fun M2 => ?_)
    refine fr_wr (by simp) (fun M3 => ?_)
    refine fr_wr (by simp) (fun M4 => ?_)
    refine fr_mu (by simp) (fun M5 => ?_)
    exact fr_some rfl
set_option maxHeartbeats 4000000 in
set_option maxRecDepth 100000 in
theorem wX0_note (k1 : Nat) (p2 : Int32) (p3 : Int32) (p4 : Int32) (p5 : Int32) (M : Mem) : Fr [(12, some 0), (13, none), (14, none), (15, none), (16, none)] rmU M (fX0_note k1 p2 p3 p4 p5 M) := by
  unfold fX0_note
  refine fr_ite ?_ ?_
  · refine fr_c (wX3_append _ _ _ _ _ _) (by simp) (fun M1 => ?_)
    exact fr_some rfl
  · exact fr_some rfl
set_option maxHeartbeats 4000000 in
set_option maxRecDepth 100000 in
theorem wX0_twist_L39 (k1 : Nat) (K151 : Mem → Option (Int32 × Mem)) (K112 : Int32 → Mem → Option (Int32 × Mem)) (z2 : Int32) (z3 : Int32) (z4 : Int32) (hK151 : ∀ (M : Mem), Fr [(12, some 0), (13, none), (14, none), (15, none), (16, none), (23, none), (24, none), ((k1 + 2), none), ((k1 + 3), none), ((k1 + 8), none), ((k1 + 9), none), (k1, some 0)] rmW M (K151 M)) (hK112 : ∀ (e6 : Int32) (M : Mem), Fr [(12, some 0), (13, none), (14, none), (15, none), (16, none), (23, none), (24, none), ((k1 + 2), none), ((k1 + 3), none), ((k1 + 8), none), ((k1 + 9), none), (k1, some 0)] rmW M (K112 e6 M)) : ∀ (n : Nat) (y6 : Int32) (M : Mem), Fr [(12, some 0), (13, none), (14, none), (15, none), (16, none), (23, none), (24, none), ((k1 + 2), none), ((k1 + 3), none), ((k1 + 8), none), ((k1 + 9), none), (k1, some 0)] rmW M (fX0_twist_L39 K151 K112 k1 z2 z3 z4 n y6 M) := by
  intro n
  induction n with
  | zero => intro y6 M; exact fr_none
  | succ n ih =>
    intro y6 M
    rw [fX0_twist_L39]
    refine fr_b (fun v4 => ?_)
    refine fr_ite ?_ ?_
    · exact hK151 _
    · refine fr_c (wX0_asked _ _ _ _ _ _) (by simp) (fun r5 => ?_)
      refine fr_jn (fun (J6 : (Int32) → (Mem) → Option (Int32 × Mem)) => ∀ (t7 : Int32) (M8 : Mem), Fr [(12, some 0), (13, none), (14, none), (15, none), (16, none), (23, none), (24, none), ((k1 + 2), none), ((k1 + 3), none), ((k1 + 8), none), ((k1 + 9), none), (k1, some 0)] rmW M8 (J6 t7 M8)) (fun t7 M8 => ?_) (fun J6 hJ6 => ?_)
      · refine fr_ite ?_ ?_
        · exact hK112 _ _
        · exact ih _ _
      · refine fr_ite ?_ ?_
        · refine fr_jn (fun (J9 : (Mem) → Option (Int32 × Mem)) => ∀ (M10 : Mem), Fr [(12, some 0), (13, none), (14, none), (15, none), (16, none), (23, none), (24, none), ((k1 + 2), none), ((k1 + 3), none), ((k1 + 8), none), ((k1 + 9), none), (k1, some 0)] rmW M10 (J9 M10)) (fun M10 => ?_) (fun J9 hJ9 => ?_)
          · exact hJ6 _ _
          · refine fr_ite ?_ ?_
            · exact hJ9 _
            · refine fr_c (wX9_drawn _ _ _) (by simp) (fun r11 => ?_)
              refine fr_ite ?_ ?_
              · exact hJ9 _
              · exact hJ6 _ _
        · refine fr_ite ?_ ?_
          · exact hJ6 _ _
          · exact hJ6 _ _
set_option maxHeartbeats 4000000 in
set_option maxRecDepth 100000 in
theorem wX0_twist (k1 : Nat) (p2 : Int32) (p3 : Int32) (p4 : Int32) (M : Mem) : Fr [(12, some 0), (13, none), (14, none), (15, none), (16, none), (23, none), (24, none), ((k1 + 2), none), ((k1 + 3), none), ((k1 + 8), none), ((k1 + 9), none), (k1, some 0)] rmW M (fX0_twist k1 p2 p3 p4 M) := by
  unfold fX0_twist
  refine fr_b (fun v1 => ?_)
  refine fr_b (fun v2 => ?_)
  refine fr_ite ?_ ?_
  · exact fr_some rfl
  · refine fr_b (fun v3 => ?_)
    refine fr_ite ?_ ?_
    · refine fr_ite ?_ ?_
      · exact fr_some rfl
      · refine wX0_twist_L39 _ _ _ _ _ _ (fun M12 => ?_) (fun e25 M26 => ?_) FU _ _
        · refine fr_b (fun v13 => ?_)
          refine fr_wr (by simp) (fun M14 => ?_)
          refine fr_c (wX0_note _ _ _ _ _ _) (by simp) (fun M15 => ?_)
          refine fr_b (fun v16 => ?_)
          refine fr_b (fun v17 => ?_)
          refine fr_ite ?_ ?_
          · refine fr_ite ?_ ?_
            · exact fr_some rfl
            · refine fr_wr (by simp) (fun M18 => ?_)
              refine fr_b (fun v19 => ?_)
              refine fr_wr (by simp) (fun M20 => ?_)
              refine fr_b (fun v21 => ?_)
              refine fr_wr (by simp) (fun M22 => ?_)
              refine fr_b (fun v23 => ?_)
              refine fr_c (wX0_note _ _ _ _ _ _) (by simp) (fun M24 => ?_)
              exact fr_some rfl
          · exact fr_some rfl
        · refine fr_b (fun v27 => ?_)
          refine fr_c (wX0_asked _ _ _ _ _ _) (by simp) (fun r28 => ?_)
          refine fr_wr (by simp) (fun M29 => ?_)
          refine fr_c (wX0_note _ _ _ _ _ _) (by simp) (fun M30 => ?_)
          exact fr_some rfl
    · exact fr_some rfl
set_option maxHeartbeats 4000000 in
set_option maxRecDepth 100000 in
theorem wX9_makeClear (k0 : Nat) (p1 : Int32) (M : Mem) : Fr [((k0 + 7), none), ((k0 + 9), none)] rmU M (fX9_makeClear k0 p1 M) := by
  unfold fX9_makeClear
  refine fr_b (fun v1 => ?_)
  refine fr_ite ?_ ?_
  · exact fr_some rfl
  · refine fr_wr (by simp) (fun M2 => ?_)
    refine fr_wr (by simp) (fun M3 => ?_)
    exact fr_some rfl
set_option maxHeartbeats 4000000 in
set_option maxRecDepth 100000 in
theorem wX0_blurAway (k1 : Nat) (p2 : Int32) (p3 : Int32) (M : Mem) : Fr [(12, some 0), (13, none), (14, none), (15, none), (16, none), ((k1 + 7), none), ((k1 + 8), none), ((k1 + 9), none)] rmU M (fX0_blurAway k1 p2 p3 M) := by
  unfold fX0_blurAway
  refine fr_b (fun v1 => ?_)
  refine fr_ite ?_ ?_
  · exact fr_some rfl
  · refine fr_b (fun v2 => ?_)
    refine fr_c (wX0_note _ _ _ _ _ _) (by simp) (fun M3 => ?_)
    refine fr_wr (by simp) (fun M4 => ?_)
    refine fr_wr (by simp) (fun M5 => ?_)
    refine fr_wr (by simp) (fun M6 => ?_)
    exact fr_some rfl
set_option maxHeartbeats 4000000 in
set_option maxRecDepth 100000 in
theorem wX11_act (p1 : Int32) (p2 : Int32) (M : Mem) : Fr [(2, some 0), (4, none), (5, none), (9, none), (10, none), (11, none), (12, some 0), (13, none), (14, none), (15, none), (16, none), (23, none), (24, none), (105, some 0), (105, some 1), (107, none), (108, some 0), (108, some 1), (108, some 2), (108, some 3), (108, some 4), (108, some 5), (109, none), (110, none), (111, none), (112, none), (113, none), (114, none), (115, none), (116, none), (117, none), (118, some 0), (118, some 1), (118, some 2), (118, some 3), (118, some 4), (118, some 5), (119, none), (120, none), (121, none), (122, none), (123, none), (124, none), (125, none), (126, none), (127, none), (128, some 0), (128, some 1), (128, some 2), (128, some 3), (128, some 4), (128, some 5), (129, none), (130, none), (131, none), (132, none), (133, none), (134, none), (135, none), (136, none), (137, none), (138, some 0), (138, some 1), (138, some 2), (138, some 3), (138, some 4), (138, some 5), (139, none), (140, none), (141, none), (142, none), (143, none), (144, none), (145, none), (146, none), (147, none), (148, some 0), (148, some 1), (148, some 2), (148, some 3), (148, some 4), (148, some 5), (149, none), (150, none), (151, none), (152, none), (153, none), (154, none), (155, none), (156, none), (157, none), (158, some 0), (158, some 1), (158, some 2), (158, some 3), (158, some 4), (158, some 5), (159, none), (160, none), (161, none), (162, none), (163, none), (164, none), (165, none), (166, none), (167, none)] rmW M (fX11_act p1 p2 M) := by
  unfold fX11_act
  refine fr_b (fun v1 => ?_)
  refine fr_ite ?_ ?_
  · exact fr_some rfl
  · refine fr_c (wX6_keep _ _) (by decide) (fun M2 => ?_)
    refine fr_ite ?_ ?_
    · refine fr_ite ?_ ?_
      · refine fr_c (wX9_makeClear _ _ _) (by decide) (fun M6 => ?_)
        exact fr_some rfl
      · refine fr_ite ?_ ?_
        · refine fr_c (wX0_blurAway _ _ _ _) (by decide) (fun M5 => ?_)
          exact fr_some rfl
        · refine fr_b (fun v3 => ?_)
          refine fr_wr (by decide) (fun M4 => ?_)
          exact fr_some rfl
    · refine fr_c (wX0_twist _ _ _ _ _) (by decide) (fun r7 => ?_)
      exact fr_some rfl
set_option maxHeartbeats 4000000 in
set_option maxRecDepth 100000 in
theorem wX12_keepsAhead_L55  (K87 : Mem → Option (Mem)) (hK87 : ∀ (M : Mem), Fr [(198, some 3), (200, none)] rmU M (K87 M)) : ∀ (n : Nat) (y1 : Int32) (M : Mem), Fr [(198, some 3), (200, none)] rmU M (fX12_keepsAhead_L55 K87 n y1 M) := by
  intro n
  induction n with
  | zero => intro y1 M; exact fr_none
  | succ n ih =>
    intro y1 M
    rw [fX12_keepsAhead_L55]
    refine fr_ite ?_ ?_
    · exact hK87 _
    · refine fr_b (fun v3 => ?_)
      refine fr_wr (by decide) (fun M4 => ?_)
      exact ih _ _
set_option maxHeartbeats 4000000 in
set_option maxRecDepth 100000 in
theorem wX12_keepsAhead_L21  (K53 : Mem → Option (Mem)) (hK53 : ∀ (M : Mem), Fr [(198, some 3), (200, none)] rmU M (K53 M)) : ∀ (n : Nat) (y1 : Int32) (M : Mem), Fr [(198, some 3), (200, none)] rmU M (fX12_keepsAhead_L21 K53 n y1 M) := by
  intro n
  induction n with
  | zero => intro y1 M; exact fr_none
  | succ n ih =>
    intro y1 M
    rw [fX12_keepsAhead_L21]
    refine fr_ite ?_ ?_
    · exact hK53 _
    · refine fr_b (fun v8 => ?_)
      refine fr_wr (by decide) (fun M9 => ?_)
      exact ih _ _
set_option maxHeartbeats 4000000 in
set_option maxRecDepth 100000 in
theorem wX12_keepsAhead  (M : Mem) : Fr [(198, some 3), (200, none)] rmU M (fX12_keepsAhead M) := by
  unfold fX12_keepsAhead
  refine fr_jn (fun (J1 : (Mem) → Option (Mem)) => ∀ (M2 : Mem), Fr [(198, some 3), (200, none)] rmU M2 (J1 M2)) (fun M2 => ?_) (fun J1 hJ1 => ?_)
  · refine wX12_keepsAhead_L55 _ (fun M5 => ?_) FU _ _
    · refine fr_mu (by decide) (fun M6 => ?_)
      exact fr_some rfl
  · refine fr_ite ?_ ?_
    · refine fr_mu (by decide) (fun M7 => ?_)
      refine wX12_keepsAhead_L21 _ (fun M10 => ?_) FU _ _
      · exact hJ1 _
    · exact hJ1 _
set_option maxHeartbeats 4000000 in
set_option maxRecDepth 100000 in
theorem wX12_asks (p1 : Int32) (p2 : Int32) (p3 : Int32) (M : Mem) : Fr [(219, none)] rmU M (fX12_asks p1 p2 p3 M) := by
  unfold fX12_asks
  refine fr_jn (fun (J1 : (Int32) → Option (Mem)) => ∀ (t2 : Int32), Fr [(219, none)] rmU M (J1 t2)) (fun t2 => ?_) (fun J1 hJ1 => ?_)
  · refine fr_wr (by decide) (fun M3 => ?_)
    refine fr_wr (by decide) (fun M4 => ?_)
    refine fr_b (fun v5 => ?_)
    refine fr_wr (by decide) (fun M6 => ?_)
    refine fr_b (fun v7 => ?_)
    refine fr_wr (by decide) (fun M8 => ?_)
    refine fr_b (fun v9 => ?_)
    refine fr_wr (by decide) (fun M10 => ?_)
    refine fr_b (fun v11 => ?_)
    refine fr_wr (by decide) (fun M12 => ?_)
    refine fr_b (fun v13 => ?_)
    refine fr_b (fun v14 => ?_)
    refine fr_wr (by decide) (fun M15 => ?_)
    refine fr_jn (fun (J16 : (Int32) → Option (Mem)) => ∀ (t17 : Int32), Fr [(219, none)] rmU M15 (J16 t17)) (fun t17 => ?_) (fun J16 hJ16 => ?_)
    · refine fr_wr (by decide) (fun M18 => ?_)
      refine fr_jn (fun (J19 : (Int32) → Option (Mem)) => ∀ (t20 : Int32), Fr [(219, none)] rmU M18 (J19 t20)) (fun t20 => ?_) (fun J19 hJ19 => ?_)
      · refine fr_wr (by decide) (fun M21 => ?_)
        refine fr_b (fun v22 => ?_)
        refine fr_wr (by decide) (fun M23 => ?_)
        exact fr_some rfl
      · refine fr_ite ?_ ?_
        · exact hJ19 _
        · refine fr_b (fun v24 => ?_)
          exact hJ19 _
    · refine fr_ite ?_ ?_
      · exact hJ16 _
      · refine fr_b (fun v25 => ?_)
        exact hJ16 _
  · refine fr_ite ?_ ?_
    · exact hJ1 _
    · refine fr_b (fun v26 => ?_)
      exact hJ1 _
set_option maxHeartbeats 4000000 in
set_option maxRecDepth 100000 in
theorem wX12_runs_L12   (z1 : Int32) (z3 : Int32)  : ∀ (n : Nat) (y4 : Int32) (y5 : Int32) (M : Mem), Fr [(220, none)] rmW M (fX12_runs_L12 z1 z3 n y4 y5 M) := by
  intro n
  induction n with
  | zero => intro y4 y5 M; exact fr_none
  | succ n ih =>
    intro y4 y5 M
    rw [fX12_runs_L12]
    refine fr_ite ?_ ?_
    · refine fr_b (fun v2 => ?_)
      exact fr_some rfl
    · refine fr_b (fun v3 => ?_)
      refine fr_jn (fun (J4 : (Int32) → (Mem) → Option (Int32 × Mem)) => ∀ (a5 : Int32) (M6 : Mem), Fr [(220, none)] rmW M6 (J4 a5 M6)) (fun a5 M6 => ?_) (fun J4 hJ4 => ?_)
      · exact ih _ _ _
      · refine fr_jn (fun (J7 : Option (Int32 × Mem)) => Fr [(220, none)] rmW M (J7)) ( ?_) (fun J7 hJ7 => ?_)
        · refine fr_b (fun v8 => ?_)
          refine fr_jn (fun (J9 : (Int32) → Option (Int32 × Mem)) => ∀ (t10 : Int32), Fr [(220, none)] rmW M (J9 t10)) (fun t10 => ?_) (fun J9 hJ9 => ?_)
          · refine fr_wr (by decide) (fun M11 => ?_)
            refine fr_bnd (fun x12 => ?_)
            exact hJ4 _ _
          · refine fr_ite ?_ ?_
            · refine fr_b (fun v15 => ?_)
              exact hJ9 _
            · refine fr_b (fun v13 => ?_)
              refine fr_b (fun v14 => ?_)
              exact hJ9 _
        · refine fr_ite ?_ ?_
          · exact hJ7
          · refine fr_b (fun v16 => ?_)
            refine fr_ite ?_ ?_
            · exact hJ7
            · refine fr_b (fun v17 => ?_)
              refine fr_ite ?_ ?_
              · refine fr_b (fun v24 => ?_)
                refine fr_wr (by decide) (fun M25 => ?_)
                exact hJ4 _ _
              · refine fr_bnd (fun x18 => ?_)
                refine fr_b (fun v19 => ?_)
                refine fr_b (fun v20 => ?_)
                refine fr_b (fun v21 => ?_)
                refine fr_b (fun v22 => ?_)
                refine fr_wr (by decide) (fun M23 => ?_)
                exact hJ4 _ _
set_option maxHeartbeats 4000000 in
set_option maxRecDepth 100000 in
theorem wX12_runs (p1 : Int32) (p2 : Int32) (p3 : Int32) (M : Mem) : Fr [(220, none)] rmW M (fX12_runs p1 p2 p3 M) := by
  unfold fX12_runs
  refine fr_bnd (fun x1 => ?_)
  refine wX12_runs_L12 _ _ FU _ _ _
set_option maxHeartbeats 4000000 in
set_option maxRecDepth 100000 in
theorem wX12_lineOf_L2  (K57 : Int32 → Mem → Option (Int32 × Mem)) (z1 : Int32) (hK57 : ∀ (e2 : Int32) (M : Mem), Fr [(220, none)] rmW M (K57 e2 M)) : ∀ (n : Nat) (y2 : Int32) (M : Mem), Fr [(220, none)] rmW M (fX12_lineOf_L2 K57 z1 n y2 M) := by
  intro n
  induction n with
  | zero => intro y2 M; exact fr_none
  | succ n ih =>
    intro y2 M
    rw [fX12_lineOf_L2]
    refine fr_b (fun v1 => ?_)
    refine fr_ite ?_ ?_
    · exact fr_some rfl
    · refine fr_b (fun v2 => ?_)
      refine fr_jn (fun (J3 : (Mem) → Option (Int32 × Mem)) => ∀ (M4 : Mem), Fr [(220, none)] rmW M4 (J3 M4)) (fun M4 => ?_) (fun J3 hJ3 => ?_)
      · exact ih _ _
      · refine fr_ite ?_ ?_
        · refine fr_b (fun v5 => ?_)
          refine fr_b (fun v6 => ?_)
          refine fr_ite ?_ ?_
          · exact hK57 _ _
          · refine fr_b (fun v7 => ?_)
            refine fr_b (fun v8 => ?_)
            refine fr_c (wX12_runs _ _ _ _) (by decide) (fun r9 => ?_)
            refine fr_ite ?_ ?_
            · exact hJ3 _
            · exact hK57 _ _
        · exact hJ3 _
set_option maxHeartbeats 4000000 in
set_option maxRecDepth 100000 in
theorem wX12_lineOf (p1 : Int32) (M : Mem) : Fr [(220, none)] rmW M (fX12_lineOf p1 M) := by
  unfold fX12_lineOf
  refine wX12_lineOf_L2 _ _ (fun e10 M11 => ?_) FU _ _
  · exact fr_some rfl
set_option maxHeartbeats 4000000 in
set_option maxRecDepth 100000 in
theorem wX12_lawTells (p1 : Int32) (p2 : Int32) (p3 : Int32) (M : Mem) : Fr [(220, none)] rmW M (fX12_lawTells p1 p2 p3 M) := by
  unfold fX12_lawTells
  refine fr_c (wX12_lineOf _ _) (by decide) (fun r1 => ?_)
  refine fr_jn (fun (J2 : (Int32) → (Mem) → Option (Int32 × Mem)) => ∀ (t3 : Int32) (M4 : Mem), Fr [(220, none)] rmW M4 (J2 t3 M4)) (fun t3 M4 => ?_) (fun J2 hJ2 => ?_)
  · exact fr_some rfl
  · refine fr_ite ?_ ?_
    · exact hJ2 _ _
    · refine fr_b (fun v5 => ?_)
      refine fr_b (fun v6 => ?_)
      refine fr_c (wX12_runs _ _ _ _) (by decide) (fun r7 => ?_)
      exact hJ2 _ _
set_option maxHeartbeats 4000000 in
set_option maxRecDepth 100000 in
theorem wX12_landsOn (p1 : Int32) (p2 : Int32) (p3 : Int32) (M : Mem) : Fr [(219, none), (220, none)] rmW M (fX12_landsOn p1 p2 p3 M) := by
  unfold fX12_landsOn
  refine fr_c (wX12_asks _ _ _ _) (by decide) (fun M1 => ?_)
  refine fr_b (fun v2 => ?_)
  refine fr_b (fun v3 => ?_)
  refine fr_c (wX12_lawTells _ _ _ _) (by decide) (fun r4 => ?_)
  exact fr_some rfl
set_option maxHeartbeats 4000000 in
set_option maxRecDepth 100000 in
theorem wX12_draw (p1 : Int32) (M : Mem) : Fr [(199, none)] rmW M (fX12_draw p1 M) := by
  unfold fX12_draw
  refine fr_b (fun v1 => ?_)
  refine fr_wr (by decide) (fun M2 => ?_)
  refine fr_b (fun v3 => ?_)
  refine fr_ite fr_none ?_
  exact fr_some rfl
set_option maxHeartbeats 4000000 in
set_option maxRecDepth 100000 in
theorem wX12_happens (p1 : Int32) (M : Mem) : Fr [(199, none)] rmW M (fX12_happens p1 M) := by
  unfold fX12_happens
  refine fr_ite ?_ ?_
  · refine fr_ite ?_ ?_
    · exact fr_some rfl
    · refine fr_c (wX12_draw _ _) (by decide) (fun r1 => ?_)
      refine fr_ite ?_ ?_
      · exact fr_some rfl
      · exact fr_some rfl
  · refine fr_ite ?_ ?_
    · exact fr_some rfl
    · exact fr_some rfl
set_option maxHeartbeats 4000000 in
set_option maxRecDepth 100000 in
theorem wX12_costsOn (p1 : Int32) (p2 : Int32) (p3 : Int32) (M : Mem) : Fr [(219, none), (220, none)] rmW M (fX12_costsOn p1 p2 p3 M) := by
  unfold fX12_costsOn
  refine fr_c (wX12_asks _ _ _ _) (by decide) (fun M1 => ?_)
  refine fr_c (wX12_lawTells _ _ _ _) (by decide) (fun r2 => ?_)
  exact fr_some rfl
set_option maxHeartbeats 4000000 in
set_option maxRecDepth 100000 in
theorem wX12_notes (p1 : Int32) (p2 : Int32) (p3 : Int32) (M : Mem) : Fr [(199, none), (205, none)] rmU M (fX12_notes p1 p2 p3 M) := by
  unfold fX12_notes
  refine fr_ite ?_ ?_
  · refine fr_b (fun v1 => ?_)
    refine fr_ite ?_ ?_
    · exact fr_some rfl
    · refine fr_b (fun v2 => ?_)
      refine fr_bnd (fun x3 => ?_)
      refine fr_b (fun v4 => ?_)
      refine fr_wr (by decide) (fun M5 => ?_)
      refine fr_wr (by decide) (fun M6 => ?_)
      refine fr_wr (by decide) (fun M7 => ?_)
      refine fr_wr (by decide) (fun M8 => ?_)
      refine fr_b (fun v9 => ?_)
      refine fr_wr (by decide) (fun M10 => ?_)
      exact fr_some rfl
  · exact fr_some rfl
set_option maxHeartbeats 4000000 in
set_option maxRecDepth 100000 in
theorem wX12_hopsOver_L10  (K82 : Mem → Option (Int32 × Mem)) (K39 : Int32 → Mem → Option (Int32 × Mem)) (z1 : Int32) (z3 : Int32) (hK82 : ∀ (M : Mem), Fr [(199, none), (205, none), (219, none), (220, none)] rmW M (K82 M)) (hK39 : ∀ (e4 : Int32) (M : Mem), Fr [(199, none), (205, none), (219, none), (220, none)] rmW M (K39 e4 M)) : ∀ (n : Nat) (y4 : Int32) (M : Mem), Fr [(199, none), (205, none), (219, none), (220, none)] rmW M (fX12_hopsOver_L10 K82 K39 z1 z3 n y4 M) := by
  intro n
  induction n with
  | zero => intro y4 M; exact fr_none
  | succ n ih =>
    intro y4 M
    rw [fX12_hopsOver_L10]
    refine fr_b (fun v2 => ?_)
    refine fr_ite ?_ ?_
    · exact hK82 _
    · refine fr_c (wX12_landsOn _ _ _ _) (by decide) (fun r3 => ?_)
      refine fr_c (wX12_happens _ _) (by decide) (fun r4 => ?_)
      refine fr_ite ?_ ?_
      · exact hK39 _ _
      · exact ih _ _
set_option maxHeartbeats 4000000 in
set_option maxRecDepth 100000 in
theorem wX12_hopsOver (p1 : Int32) (p2 : Int32) (M : Mem) : Fr [(199, none), (205, none), (219, none), (220, none)] rmW M (fX12_hopsOver p1 p2 M) := by
  unfold fX12_hopsOver
  refine fr_b (fun v1 => ?_)
  refine wX12_hopsOver_L10 _ _ _ _ (fun M5 => ?_) (fun e21 M22 => ?_) FU _ _
  · refine fr_b (fun v6 => ?_)
    refine fr_wr (by decide) (fun M7 => ?_)
    refine fr_c (wX12_notes _ _ _ _) (by decide) (fun M8 => ?_)
    refine fr_b (fun v9 => ?_)
    refine fr_ite ?_ ?_
    · refine fr_wr (by decide) (fun M10 => ?_)
      refine fr_b (fun v11 => ?_)
      refine fr_b (fun v12 => ?_)
      refine fr_b (fun v13 => ?_)
      refine fr_wr (by decide) (fun M14 => ?_)
      refine fr_b (fun v15 => ?_)
      refine fr_b (fun v16 => ?_)
      refine fr_b (fun v17 => ?_)
      refine fr_wr (by decide) (fun M18 => ?_)
      refine fr_b (fun v19 => ?_)
      refine fr_c (wX12_notes _ _ _ _) (by decide) (fun M20 => ?_)
      exact fr_some rfl
    · exact fr_some rfl
  · refine fr_b (fun v23 => ?_)
    refine fr_c (wX12_costsOn _ _ _ _) (by decide) (fun r24 => ?_)
    refine fr_wr (by decide) (fun M25 => ?_)
    refine fr_c (wX12_notes _ _ _ _) (by decide) (fun M26 => ?_)
    exact fr_some rfl
set_option maxHeartbeats 4000000 in
set_option maxRecDepth 100000 in
theorem wX12_isCleared (p1 : Int32) (M : Mem) : Fr [(199, none)] rmU M (fX12_isCleared p1 M) := by
  unfold fX12_isCleared
  refine fr_b (fun v1 => ?_)
  refine fr_ite ?_ ?_
  · exact fr_some rfl
  · refine fr_wr (by decide) (fun M2 => ?_)
    refine fr_wr (by decide) (fun M3 => ?_)
    exact fr_some rfl
set_option maxHeartbeats 4000000 in
set_option maxRecDepth 100000 in
theorem wX12_isBlurred (p1 : Int32) (M : Mem) : Fr [(199, none), (205, none)] rmU M (fX12_isBlurred p1 M) := by
  unfold fX12_isBlurred
  refine fr_b (fun v1 => ?_)
  refine fr_b (fun v2 => ?_)
  refine fr_c (wX12_notes _ _ _ _) (by decide) (fun M3 => ?_)
  refine fr_wr (by decide) (fun M4 => ?_)
  refine fr_wr (by decide) (fun M5 => ?_)
  refine fr_wr (by decide) (fun M6 => ?_)
  exact fr_some rfl
set_option maxHeartbeats 4000000 in
set_option maxRecDepth 100000 in
theorem wX12_act (p1 : Int32) (p2 : Int32) (M : Mem) : Fr [(198, some 0), (198, some 3), (199, none), (200, none), (205, none), (219, none), (220, none)] rmW M (fX12_act p1 p2 M) := by
  unfold fX12_act
  refine fr_mu (by decide) (fun M1 => ?_)
  refine fr_b (fun v2 => ?_)
  refine fr_ite ?_ ?_
  · exact fr_some rfl
  · refine fr_c (wX12_keepsAhead _) (by decide) (fun M3 => ?_)
    refine fr_jn (fun (J4 : (Mem) → Option (Int32 × Mem)) => ∀ (M5 : Mem), Fr [(198, some 0), (198, some 3), (199, none), (200, none), (205, none), (219, none), (220, none)] rmW M5 (J4 M5)) (fun M5 => ?_) (fun J4 hJ4 => ?_)
    · refine fr_jn (fun (J6 : (Mem) → Option (Int32 × Mem)) => ∀ (M7 : Mem), Fr [(198, some 0), (198, some 3), (199, none), (200, none), (205, none), (219, none), (220, none)] rmW M7 (J6 M7)) (fun M7 => ?_) (fun J6 hJ6 => ?_)
      · refine fr_jn (fun (J8 : (Mem) → Option (Int32 × Mem)) => ∀ (M9 : Mem), Fr [(198, some 0), (198, some 3), (199, none), (200, none), (205, none), (219, none), (220, none)] rmW M9 (J8 M9)) (fun M9 => ?_) (fun J8 hJ8 => ?_)
        · refine fr_ite ?_ ?_
          · refine fr_b (fun v10 => ?_)
            refine fr_wr (by decide) (fun M11 => ?_)
            exact fr_some rfl
          · exact fr_some rfl
        · refine fr_ite ?_ ?_
          · refine fr_c (wX12_isBlurred _ _) (by decide) (fun M12 => ?_)
            exact hJ8 _
          · exact hJ8 _
      · refine fr_ite ?_ ?_
        · refine fr_c (wX12_isCleared _ _) (by decide) (fun M13 => ?_)
          exact hJ6 _
        · exact hJ6 _
    · refine fr_ite ?_ ?_
      · exact hJ4 _
      · refine fr_c (wX12_hopsOver _ _ _) (by decide) (fun r14 => ?_)
        exact hJ4 _
set_option maxHeartbeats 4000000 in
set_option maxRecDepth 100000 in
theorem wX0_tellEvening (k1 : Nat) (p2 : Int32) (M : Mem) : Fr [((k1 + 1), none), ((k1 + 7), none), ((k1 + 9), none), (k1, some 1), (k1, some 2)] rmU M (fX0_tellEvening k1 p2 M) := by
  unfold fX0_tellEvening
  refine fr_b (fun v1 => ?_)
  refine fr_b (fun v2 => ?_)
  refine fr_b (fun v3 => ?_)
  refine fr_swt (fr_all ?_ (fr_all ?_ (fr_all ?_ (true_nil)))) ?_
  · refine fr_mu (by simp) (fun M4 => ?_)
    exact fr_some rfl
  · refine fr_mu (by simp) (fun M5 => ?_)
    exact fr_some rfl
  · refine fr_c (wX9_makeClear _ _ _) (by simp) (fun M6 => ?_)
    exact fr_some rfl
  · refine fr_ite ?_ ?_
    · exact fr_some rfl
    · refine fr_wr (by simp) (fun M7 => ?_)
      exact fr_some rfl
set_option maxHeartbeats 4000000 in
set_option maxRecDepth 100000 in
theorem wX0_blurSome (k1 : Nat) (p2 : Int32) (p3 : Int32) (M : Mem) : Fr [(12, some 0), (13, none), (14, none), (15, none), (16, none), (23, none), (24, none), ((k1 + 7), none), ((k1 + 8), none), ((k1 + 9), none)] rmU M (fX0_blurSome k1 p2 p3 M) := by
  unfold fX0_blurSome
  refine fr_b (fun v1 => ?_)
  refine fr_ite ?_ ?_
  · exact fr_some rfl
  · refine fr_c (wX0_asked _ _ _ _ _ _) (by simp) (fun r2 => ?_)
    refine fr_b (fun v3 => ?_)
    refine fr_wr (by simp) (fun M4 => ?_)
    refine fr_b (fun v5 => ?_)
    refine fr_ite ?_ ?_
    · refine fr_c (wX0_blurAway _ _ _ _) (by simp) (fun M6 => ?_)
      exact fr_some rfl
    · exact fr_some rfl
set_option maxHeartbeats 4000000 in
set_option maxRecDepth 100000 in
theorem wX0_goDay_L2 (k1 : Nat) (K41 : Mem → Option (Int32 × Mem)) (hK41 : ∀ (M : Mem), Fr [(12, some 0), (13, none), (14, none), (15, none), (16, none), (23, none), (24, none), ((k1 + 1), none), ((k1 + 2), none), ((k1 + 3), none), ((k1 + 7), none), ((k1 + 8), none), ((k1 + 9), none), (k1, some 0), (k1, some 1), (k1, some 2), (k1, some 3)] rmW M (K41 M)) : ∀ (n : Nat) (y3 : Int32) (M : Mem), Fr [(12, some 0), (13, none), (14, none), (15, none), (16, none), (23, none), (24, none), ((k1 + 1), none), ((k1 + 2), none), ((k1 + 3), none), ((k1 + 7), none), ((k1 + 8), none), ((k1 + 9), none), (k1, some 0), (k1, some 1), (k1, some 2), (k1, some 3)] rmW M (fX0_goDay_L2 K41 k1 n y3 M) := by
  intro n
  induction n with
  | zero => intro y3 M; exact fr_none
  | succ n ih =>
    intro y3 M
    rw [fX0_goDay_L2]
    refine fr_ite ?_ ?_
    · exact hK41 _
    · refine fr_b (fun v1 => ?_)
      refine fr_jn (fun (J2 : (Mem) → Option (Int32 × Mem)) => ∀ (M3 : Mem), Fr [(12, some 0), (13, none), (14, none), (15, none), (16, none), (23, none), (24, none), ((k1 + 1), none), ((k1 + 2), none), ((k1 + 3), none), ((k1 + 7), none), ((k1 + 8), none), ((k1 + 9), none), (k1, some 0), (k1, some 1), (k1, some 2), (k1, some 3)] rmW M3 (J2 M3)) (fun M3 => ?_) (fun J2 hJ2 => ?_)
      · exact ih _ _
      · refine fr_ite ?_ ?_
        · refine fr_c (wX0_tellEvening _ _ _) (by simp) (fun M4 => ?_)
          exact hJ2 _
        · exact hJ2 _
set_option maxHeartbeats 4000000 in
set_option maxRecDepth 100000 in
theorem wX0_goDay_L46 (k1 : Nat) (K113 : Int32 → Mem → Option (Int32 × Mem)) (z2 : Int32) (hK113 : ∀ (e3 : Int32) (M : Mem), Fr [(12, some 0), (13, none), (14, none), (15, none), (16, none), (23, none), (24, none), ((k1 + 1), none), ((k1 + 2), none), ((k1 + 3), none), ((k1 + 7), none), ((k1 + 8), none), ((k1 + 9), none), (k1, some 0), (k1, some 1), (k1, some 2), (k1, some 3)] rmW M (K113 e3 M)) : ∀ (n : Nat) (y3 : Int32) (y4 : Int32) (M : Mem), Fr [(12, some 0), (13, none), (14, none), (15, none), (16, none), (23, none), (24, none), ((k1 + 1), none), ((k1 + 2), none), ((k1 + 3), none), ((k1 + 7), none), ((k1 + 8), none), ((k1 + 9), none), (k1, some 0), (k1, some 1), (k1, some 2), (k1, some 3)] rmW M (fX0_goDay_L46 K113 k1 z2 n y3 y4 M) := by
  intro n
  induction n with
  | zero => intro y3 y4 M; exact fr_none
  | succ n ih =>
    intro y3 y4 M
    rw [fX0_goDay_L46]
    refine fr_ite ?_ ?_
    · exact hK113 _ _
    · refine fr_b (fun v6 => ?_)
      refine fr_jn (fun (J7 : (Int32) → (Mem) → Option (Int32 × Mem)) => ∀ (a8 : Int32) (M9 : Mem), Fr [(12, some 0), (13, none), (14, none), (15, none), (16, none), (23, none), (24, none), ((k1 + 1), none), ((k1 + 2), none), ((k1 + 3), none), ((k1 + 7), none), ((k1 + 8), none), ((k1 + 9), none), (k1, some 0), (k1, some 1), (k1, some 2), (k1, some 3)] rmW M9 (J7 a8 M9)) (fun a8 M9 => ?_) (fun J7 hJ7 => ?_)
      · exact ih _ _ _
      · refine fr_ite ?_ ?_
        · refine fr_b (fun v10 => ?_)
          refine fr_b (fun v11 => ?_)
          refine fr_c (wX0_twist _ _ _ _ _) (by simp) (fun r12 => ?_)
          refine fr_ite ?_ ?_
          · exact hJ7 _ _
          · exact hJ7 _ _
        · exact hJ7 _ _
set_option maxHeartbeats 4000000 in
set_option maxRecDepth 100000 in
theorem wX0_goDay_L116 (k1 : Nat) (K139 : Mem → Option (Int32 × Mem)) (z2 : Int32) (hK139 : ∀ (M : Mem), Fr [(12, some 0), (13, none), (14, none), (15, none), (16, none), (23, none), (24, none), ((k1 + 1), none), ((k1 + 2), none), ((k1 + 3), none), ((k1 + 7), none), ((k1 + 8), none), ((k1 + 9), none), (k1, some 0), (k1, some 1), (k1, some 2), (k1, some 3)] rmW M (K139 M)) : ∀ (n : Nat) (y4 : Int32) (M : Mem), Fr [(12, some 0), (13, none), (14, none), (15, none), (16, none), (23, none), (24, none), ((k1 + 1), none), ((k1 + 2), none), ((k1 + 3), none), ((k1 + 7), none), ((k1 + 8), none), ((k1 + 9), none), (k1, some 0), (k1, some 1), (k1, some 2), (k1, some 3)] rmW M (fX0_goDay_L116 K139 k1 z2 n y4 M) := by
  intro n
  induction n with
  | zero => intro y4 M; exact fr_none
  | succ n ih =>
    intro y4 M
    rw [fX0_goDay_L116]
    refine fr_ite ?_ ?_
    · exact hK139 _
    · refine fr_c (wX0_blurSome _ _ _ _) (by simp) (fun M15 => ?_)
      exact ih _ _
set_option maxHeartbeats 4000000 in
set_option maxRecDepth 100000 in
theorem wX0_goDay (k1 : Nat) (p2 : Int32) (M : Mem) : Fr [(12, some 0), (13, none), (14, none), (15, none), (16, none), (23, none), (24, none), ((k1 + 1), none), ((k1 + 2), none), ((k1 + 3), none), ((k1 + 7), none), ((k1 + 8), none), ((k1 + 9), none), (k1, some 0), (k1, some 1), (k1, some 2), (k1, some 3)] rmW M (fX0_goDay k1 p2 M) := by
  unfold fX0_goDay
  refine wX0_goDay_L2 _ _ (fun M5 => ?_) FU _ _
  · refine wX0_goDay_L46 _ _ _ (fun e13 M14 => ?_) FU _ _ _
    · refine wX0_goDay_L116 _ _ _ (fun M16 => ?_) FU _ _
      · refine fr_mu (by simp) (fun M17 => ?_)
        exact fr_some rfl
set_option maxHeartbeats 4000000 in
set_option maxRecDepth 100000 in
theorem wX11_days_L37   (z1 : Int32)  : ∀ (n : Nat) (y3 : Int32) (y4 : Int32) (M : Mem), Fr [(2, some 0), (2, some 1), (2, some 2), (2, some 3), (3, none), (4, none), (5, none), (9, none), (10, none), (11, none), (12, some 0), (13, none), (14, none), (15, none), (16, none), (23, none), (24, none), (105, some 0), (105, some 1), (107, none), (108, some 0), (108, some 1), (108, some 2), (108, some 3), (108, some 4), (108, some 5), (109, none), (110, none), (111, none), (112, none), (113, none), (114, none), (115, none), (116, none), (117, none), (118, some 0), (118, some 1), (118, some 2), (118, some 3), (118, some 4), (118, some 5), (119, none), (120, none), (121, none), (122, none), (123, none), (124, none), (125, none), (126, none), (127, none), (128, some 0), (128, some 1), (128, some 2), (128, some 3), (128, some 4), (128, some 5), (129, none), (130, none), (131, none), (132, none), (133, none), (134, none), (135, none), (136, none), (137, none), (138, some 0), (138, some 1), (138, some 2), (138, some 3), (138, some 4), (138, some 5), (139, none), (140, none), (141, none), (142, none), (143, none), (144, none), (145, none), (146, none), (147, none), (148, some 0), (148, some 1), (148, some 2), (148, some 3), (148, some 4), (148, some 5), (149, none), (150, none), (151, none), (152, none), (153, none), (154, none), (155, none), (156, none), (157, none), (158, some 0), (158, some 1), (158, some 2), (158, some 3), (158, some 4), (158, some 5), (159, none), (160, none), (161, none), (162, none), (163, none), (164, none), (165, none), (166, none), (167, none)] rmW M (fX11_days_L37 z1 n y3 y4 M) := by
  intro n
  induction n with
  | zero => intro y3 y4 M; exact fr_none
  | succ n ih =>
    intro y3 y4 M
    rw [fX11_days_L37]
    refine fr_ite ?_ ?_
    · exact fr_some rfl
    · refine fr_c (wX6_keep _ _) (by decide) (fun M1 => ?_)
      refine fr_c (wX0_goDay _ _ _) (by decide) (fun r2 => ?_)
      refine fr_bnd (fun x3 => ?_)
      exact ih _ _ _
set_option maxHeartbeats 4000000 in
set_option maxRecDepth 100000 in
theorem wX11_days (p1 : Int32) (M : Mem) : Fr [(2, some 0), (2, some 1), (2, some 2), (2, some 3), (3, none), (4, none), (5, none), (9, none), (10, none), (11, none), (12, some 0), (13, none), (14, none), (15, none), (16, none), (23, none), (24, none), (105, some 0), (105, some 1), (107, none), (108, some 0), (108, some 1), (108, some 2), (108, some 3), (108, some 4), (108, some 5), (109, none), (110, none), (111, none), (112, none), (113, none), (114, none), (115, none), (116, none), (117, none), (118, some 0), (118, some 1), (118, some 2), (118, some 3), (118, some 4), (118, some 5), (119, none), (120, none), (121, none), (122, none), (123, none), (124, none), (125, none), (126, none), (127, none), (128, some 0), (128, some 1), (128, some 2), (128, some 3), (128, some 4), (128, some 5), (129, none), (130, none), (131, none), (132, none), (133, none), (134, none), (135, none), (136, none), (137, none), (138, some 0), (138, some 1), (138, some 2), (138, some 3), (138, some 4), (138, some 5), (139, none), (140, none), (141, none), (142, none), (143, none), (144, none), (145, none), (146, none), (147, none), (148, some 0), (148, some 1), (148, some 2), (148, some 3), (148, some 4), (148, some 5), (149, none), (150, none), (151, none), (152, none), (153, none), (154, none), (155, none), (156, none), (157, none), (158, some 0), (158, some 1), (158, some 2), (158, some 3), (158, some 4), (158, some 5), (159, none), (160, none), (161, none), (162, none), (163, none), (164, none), (165, none), (166, none), (167, none)] rmW M (fX11_days p1 M) := by
  unfold fX11_days
  refine fr_ite ?_ ?_
  · exact fr_some rfl
  · refine fr_ite ?_ ?_
    · refine wX11_days_L37 _ FU _ _ _
    · exact fr_some rfl
set_option maxHeartbeats 4000000 in
set_option maxRecDepth 100000 in
theorem wX12_comes (p1 : Int32) (M : Mem) : Fr [(199, none)] rmU M (fX12_comes p1 M) := by
  unfold fX12_comes
  refine fr_b (fun v1 => ?_)
  refine fr_b (fun v2 => ?_)
  refine fr_jn (fun (J3 : (Mem) → Option (Mem)) => ∀ (M4 : Mem), Fr [(199, none)] rmU M4 (J3 M4)) (fun M4 => ?_) (fun J3 hJ3 => ?_)
  · refine fr_jn (fun (J5 : (Mem) → Option (Mem)) => ∀ (M6 : Mem), Fr [(199, none)] rmU M6 (J5 M6)) (fun M6 => ?_) (fun J5 hJ5 => ?_)
    · refine fr_jn (fun (J7 : (Mem) → Option (Mem)) => ∀ (M8 : Mem), Fr [(199, none)] rmU M8 (J7 M8)) (fun M8 => ?_) (fun J7 hJ7 => ?_)
      · refine fr_ite ?_ ?_
        · refine fr_b (fun v9 => ?_)
          refine fr_wr (by decide) (fun M10 => ?_)
          exact fr_some rfl
        · exact fr_some rfl
      · refine fr_ite ?_ ?_
        · refine fr_c (wX12_isCleared _ _) (by decide) (fun M11 => ?_)
          exact hJ7 _
        · exact hJ7 _
    · refine fr_ite ?_ ?_
      · refine fr_wr (by decide) (fun M12 => ?_)
        exact hJ5 _
      · exact hJ5 _
  · refine fr_ite ?_ ?_
    · refine fr_wr (by decide) (fun M13 => ?_)
      exact hJ3 _
    · exact hJ3 _
set_option maxHeartbeats 4000000 in
set_option maxRecDepth 100000 in
theorem wX12_wipesOf (p1 : Int32) (M : Mem) : Fr [(219, none), (220, none)] rmW M (fX12_wipesOf p1 M) := by
  unfold fX12_wipesOf
  refine fr_c (wX12_asks _ _ _ _) (by decide) (fun M1 => ?_)
  refine fr_b (fun v2 => ?_)
  refine fr_b (fun v3 => ?_)
  refine fr_c (wX12_lawTells _ _ _ _) (by decide) (fun r4 => ?_)
  exact fr_some rfl
set_option maxHeartbeats 4000000 in
set_option maxRecDepth 100000 in
theorem wX12_goesBy_L2  (K39 : Mem → Option (Int32 × Mem)) (hK39 : ∀ (M : Mem), Fr [(199, none), (205, none), (219, none), (220, none)] rmW M (K39 M)) : ∀ (n : Nat) (y1 : Int32) (M : Mem), Fr [(199, none), (205, none), (219, none), (220, none)] rmW M (fX12_goesBy_L2 K39 n y1 M) := by
  intro n
  induction n with
  | zero => intro y1 M; exact fr_none
  | succ n ih =>
    intro y1 M
    rw [fX12_goesBy_L2]
    refine fr_ite ?_ ?_
    · exact hK39 _
    · refine fr_b (fun v1 => ?_)
      refine fr_b (fun v2 => ?_)
      refine fr_jn (fun (J3 : (Mem) → Option (Int32 × Mem)) => ∀ (M4 : Mem), Fr [(199, none), (205, none), (219, none), (220, none)] rmW M4 (J3 M4)) (fun M4 => ?_) (fun J3 hJ3 => ?_)
      · refine fr_bnd (fun x5 => ?_)
        exact ih _ _
      · refine fr_ite ?_ ?_
        · refine fr_c (wX12_comes _ _) (by decide) (fun M6 => ?_)
          exact hJ3 _
        · exact hJ3 _
set_option maxHeartbeats 4000000 in
set_option maxRecDepth 100000 in
theorem wX12_goesBy_L43  (K125 : Int32 → Mem → Option (Int32 × Mem)) (hK125 : ∀ (e1 : Int32) (M : Mem), Fr [(199, none), (205, none), (219, none), (220, none)] rmW M (K125 e1 M)) : ∀ (n : Nat) (y1 : Int32) (y2 : Int32) (M : Mem), Fr [(199, none), (205, none), (219, none), (220, none)] rmW M (fX12_goesBy_L43 K125 n y1 y2 M) := by
  intro n
  induction n with
  | zero => intro y1 y2 M; exact fr_none
  | succ n ih =>
    intro y1 y2 M
    rw [fX12_goesBy_L43]
    refine fr_ite ?_ ?_
    · exact hK125 _ _
    · refine fr_b (fun v8 => ?_)
      refine fr_b (fun v9 => ?_)
      refine fr_jn (fun (J10 : (Int32) → (Mem) → Option (Int32 × Mem)) => ∀ (a11 : Int32) (M12 : Mem), Fr [(199, none), (205, none), (219, none), (220, none)] rmW M12 (J10 a11 M12)) (fun a11 M12 => ?_) (fun J10 hJ10 => ?_)
      · refine fr_bnd (fun x13 => ?_)
        exact ih _ _ _
      · refine fr_ite ?_ ?_
        · refine fr_b (fun v14 => ?_)
          refine fr_b (fun v15 => ?_)
          refine fr_b (fun v16 => ?_)
          refine fr_ite ?_ ?_
          · exact hJ10 _ _
          · refine fr_b (fun v17 => ?_)
            refine fr_b (fun v18 => ?_)
            refine fr_c (wX12_hopsOver _ _ _) (by decide) (fun r19 => ?_)
            refine fr_ite ?_ ?_
            · exact hJ10 _ _
            · refine fr_bnd (fun x20 => ?_)
              exact hJ10 _ _
        · exact hJ10 _ _
set_option maxHeartbeats 4000000 in
set_option maxRecDepth 100000 in
theorem wX12_goesBy_L127  (K202 : Mem → Option (Int32 × Mem)) (hK202 : ∀ (M : Mem), Fr [(199, none), (205, none), (219, none), (220, none)] rmW M (K202 M)) : ∀ (n : Nat) (y2 : Int32) (M : Mem), Fr [(199, none), (205, none), (219, none), (220, none)] rmW M (fX12_goesBy_L127 K202 n y2 M) := by
  intro n
  induction n with
  | zero => intro y2 M; exact fr_none
  | succ n ih =>
    intro y2 M
    rw [fX12_goesBy_L127]
    refine fr_ite ?_ ?_
    · exact hK202 _
    · refine fr_b (fun v23 => ?_)
      refine fr_jn (fun (J24 : (Mem) → Option (Int32 × Mem)) => ∀ (M25 : Mem), Fr [(199, none), (205, none), (219, none), (220, none)] rmW M25 (J24 M25)) (fun M25 => ?_) (fun J24 hJ24 => ?_)
      · exact ih _ _
      · refine fr_ite ?_ ?_
        · refine fr_b (fun v26 => ?_)
          refine fr_c (wX12_wipesOf _ _) (by decide) (fun r27 => ?_)
          refine fr_wr (by decide) (fun M28 => ?_)
          refine fr_b (fun v29 => ?_)
          refine fr_ite ?_ ?_
          · refine fr_c (wX12_isBlurred _ _) (by decide) (fun M30 => ?_)
            exact hJ24 _
          · exact hJ24 _
        · exact hJ24 _
set_option maxHeartbeats 4000000 in
set_option maxRecDepth 100000 in
theorem wX12_goesBy  (M : Mem) : Fr [(199, none), (205, none), (219, none), (220, none)] rmW M (fX12_goesBy M) := by
  unfold fX12_goesBy
  refine wX12_goesBy_L2 _ (fun M7 => ?_) FU _ _
  · refine wX12_goesBy_L43 _ (fun e21 M22 => ?_) FU _ _ _
    · refine wX12_goesBy_L127 _ (fun M31 => ?_) FU _ _
      · refine fr_b (fun v32 => ?_)
        refine fr_wr (by decide) (fun M33 => ?_)
        exact fr_some rfl
set_option maxHeartbeats 4000000 in
set_option maxRecDepth 100000 in
theorem wX12_days_L36   (z1 : Int32)  : ∀ (n : Nat) (y2 : Int32) (y3 : Int32) (M : Mem), Fr [(198, some 0), (198, some 3), (199, none), (200, none), (205, none), (219, none), (220, none)] rmW M (fX12_days_L36 z1 n y2 y3 M) := by
  intro n
  induction n with
  | zero => intro y2 y3 M; exact fr_none
  | succ n ih =>
    intro y2 y3 M
    rw [fX12_days_L36]
    refine fr_ite ?_ ?_
    · exact fr_some rfl
    · refine fr_c (wX12_keepsAhead _) (by decide) (fun M3 => ?_)
      refine fr_c (wX12_goesBy _) (by decide) (fun r4 => ?_)
      refine fr_bnd (fun x5 => ?_)
      exact ih _ _ _
set_option maxHeartbeats 4000000 in
set_option maxRecDepth 100000 in
theorem wX12_days (p1 : Int32) (M : Mem) : Fr [(198, some 0), (198, some 3), (199, none), (200, none), (205, none), (219, none), (220, none)] rmW M (fX12_days p1 M) := by
  unfold fX12_days
  refine fr_mu (by decide) (fun M1 => ?_)
  refine fr_ite ?_ ?_
  · exact fr_some rfl
  · refine fr_b (fun v2 => ?_)
    refine fr_ite ?_ ?_
    · refine wX12_days_L36 _ FU _ _ _
    · exact fr_some rfl
set_option maxHeartbeats 4000000 in
set_option maxRecDepth 100000 in
theorem wX8_append_L3   (z1 : Int32)  : ∀ (n : Nat) (y2 : Int32) (M : Mem), Fr [(178, some 1), (179, none)] rmU M (fX8_append_L3 z1 n y2 M) := by
  intro n
  induction n with
  | zero => intro y2 M; exact fr_none
  | succ n ih =>
    intro y2 M
    rw [fX8_append_L3]
    refine fr_ite ?_ ?_
    · exact fr_some rfl
    · refine fr_jn (fun (J1 : (Mem) → Option (Mem)) => ∀ (M2 : Mem), Fr [(178, some 1), (179, none)] rmU M2 (J1 M2)) (fun M2 => ?_) (fun J1 hJ1 => ?_)
      · exact ih _ _
      · refine fr_ite ?_ ?_
        · exact hJ1 _
        · refine fr_wr (by decide) (fun M3 => ?_)
          refine fr_mu (by decide) (fun M4 => ?_)
          exact hJ1 _
set_option maxHeartbeats 4000000 in
set_option maxRecDepth 100000 in
theorem wX8_append (p1 : Int32) (M : Mem) : Fr [(178, some 1), (179, none)] rmU M (fX8_append p1 M) := by
  unfold fX8_append
  refine wX8_append_L3 _ FU _ _
set_option maxHeartbeats 4000000 in
set_option maxRecDepth 100000 in
theorem wX11_feed (p1 : Int32) (p2 : Int32) (p3 : Int32) (p4 : Int32) (p5 : Int32) (M : Mem) : Fr [(178, some 1), (179, none)] rmW M (fX11_feed p1 p2 p3 p4 p5 M) := by
  unfold fX11_feed
  refine fr_ite ?_ ?_
  · refine fr_c (wX8_append _ _) (by decide) (fun M1 => ?_)
    refine fr_c (wX8_append _ _) (by decide) (fun M2 => ?_)
    refine fr_c (wX8_append _ _) (by decide) (fun M3 => ?_)
    refine fr_c (wX8_append _ _) (by decide) (fun M4 => ?_)
    refine fr_c (wX8_append _ _) (by decide) (fun M5 => ?_)
    exact fr_some rfl
  · exact fr_some rfl
set_option maxHeartbeats 4000000 in
set_option maxRecDepth 100000 in
theorem wX12_types_L3   (z1 : Int32)  : ∀ (n : Nat) (y2 : Int32) (M : Mem), Fr [(198, some 13), (206, none)] rmU M (fX12_types_L3 z1 n y2 M) := by
  intro n
  induction n with
  | zero => intro y2 M; exact fr_none
  | succ n ih =>
    intro y2 M
    rw [fX12_types_L3]
    refine fr_ite ?_ ?_
    · exact fr_some rfl
    · refine fr_wr (by decide) (fun M1 => ?_)
      refine fr_mu (by decide) (fun M2 => ?_)
      exact ih _ _
set_option maxHeartbeats 4000000 in
set_option maxRecDepth 100000 in
theorem wX12_types (p1 : Int32) (M : Mem) : Fr [(198, some 13), (206, none)] rmU M (fX12_types p1 M) := by
  unfold fX12_types
  refine wX12_types_L3 _ FU _ _
set_option maxHeartbeats 4000000 in
set_option maxRecDepth 100000 in
theorem wX12_feed (p1 : Int32) (p2 : Int32) (p3 : Int32) (p4 : Int32) (p5 : Int32) (M : Mem) : Fr [(198, some 0), (198, some 13), (206, none)] rmW M (fX12_feed p1 p2 p3 p4 p5 M) := by
  unfold fX12_feed
  refine fr_mu (by decide) (fun M1 => ?_)
  refine fr_ite ?_ ?_
  · refine fr_c (wX12_types _ _) (by decide) (fun M2 => ?_)
    refine fr_c (wX12_types _ _) (by decide) (fun M3 => ?_)
    refine fr_c (wX12_types _ _) (by decide) (fun M4 => ?_)
    refine fr_c (wX12_types _ _) (by decide) (fun M5 => ?_)
    refine fr_c (wX12_types _ _) (by decide) (fun M6 => ?_)
    exact fr_some rfl
  · exact fr_some rfl
set_option maxHeartbeats 4000000 in
set_option maxRecDepth 100000 in
theorem wX11_end (p1 : Int32) (M : Mem) : Fr [(178, some 1)] rmW M (fX11_end p1 M) := by
  unfold fX11_end
  refine fr_ite ?_ ?_
  · exact fr_some rfl
  · refine fr_mu (by decide) (fun M1 => ?_)
    exact fr_some rfl
set_option maxHeartbeats 4000000 in
set_option maxRecDepth 100000 in
theorem wX12_end (p1 : Int32) (M : Mem) : Fr [(198, some 0), (198, some 13)] rmW M (fX12_end p1 M) := by
  unfold fX12_end
  refine fr_mu (by decide) (fun M1 => ?_)
  refine fr_ite ?_ ?_
  · exact fr_some rfl
  · refine fr_mu (by decide) (fun M2 => ?_)
    exact fr_some rfl
set_option maxHeartbeats 4000000 in
set_option maxRecDepth 100000 in
theorem wX8_advance_L0  (K36 : Mem → Option (Mem)) (hK36 : ∀ (M : Mem), Fr [(178, some 4), (178, some 5), (178, some 6), (178, some 7)] rmU M (K36 M)) : ∀ (n : Nat) (M : Mem), Fr [(178, some 4), (178, some 5), (178, some 6), (178, some 7)] rmU M (fX8_advance_L0 K36 n M) := by
  intro n
  induction n with
  | zero => intro M; exact fr_none
  | succ n ih =>
    intro M
    rw [fX8_advance_L0]
    refine fr_ite ?_ ?_
    · exact hK36 _
    · refine fr_b (fun v1 => ?_)
      refine fr_ite ?_ ?_
      · refine fr_mu (by decide) (fun M2 => ?_)
        exact ih _
      · exact hK36 _
set_option maxHeartbeats 4000000 in
set_option maxRecDepth 100000 in
theorem wX8_advance_L110  (K181 : Mem → Option (Mem)) (hK181 : ∀ (M : Mem), Fr [(178, some 4), (178, some 5), (178, some 6), (178, some 7)] rmU M (K181 M)) : ∀ (n : Nat) (M : Mem), Fr [(178, some 4), (178, some 5), (178, some 6), (178, some 7)] rmU M (fX8_advance_L110 K181 n M) := by
  intro n
  induction n with
  | zero => intro M; exact fr_none
  | succ n ih =>
    intro M
    rw [fX8_advance_L110]
    refine fr_ite ?_ ?_
    · exact hK181 _
    · refine fr_ite ?_ ?_
      · exact hK181 _
      · refine fr_b (fun v11 => ?_)
        refine fr_ite ?_ ?_
        · refine fr_b (fun v12 => ?_)
          refine fr_mu (by decide) (fun M13 => ?_)
          refine fr_mu (by decide) (fun M14 => ?_)
          exact ih _
        · exact hK181 _
set_option maxHeartbeats 4000000 in
set_option maxRecDepth 100000 in
theorem wX8_advance  (M : Mem) : Fr [(178, some 4), (178, some 5), (178, some 6), (178, some 7)] rmU M (fX8_advance M) := by
  unfold fX8_advance
  refine wX8_advance_L0 _ (fun M3 => ?_) FU _
  · refine fr_mu (by decide) (fun M4 => ?_)
    refine fr_b (fun v5 => ?_)
    refine fr_mu (by decide) (fun M6 => ?_)
    refine fr_ite ?_ ?_
    · exact fr_some rfl
    · refine fr_jn (fun (J7 : (Int32) → Option (Mem)) => ∀ (t8 : Int32), Fr [(178, some 4), (178, some 5), (178, some 6), (178, some 7)] rmU M6 (J7 t8)) (fun t8 => ?_) (fun J7 hJ7 => ?_)
      · refine fr_mu (by decide) (fun M9 => ?_)
        refine fr_mu (by decide) (fun M10 => ?_)
        refine wX8_advance_L110 _ (fun M15 => ?_) FU _
        · refine fr_ite ?_ ?_
          · refine fr_ite ?_ ?_
            · exact fr_some rfl
            · refine fr_mu (by decide) (fun M16 => ?_)
              exact fr_some rfl
          · exact fr_some rfl
      · refine fr_ite ?_ ?_
        · refine fr_b (fun v18 => ?_)
          exact hJ7 _
        · refine fr_b (fun v17 => ?_)
          exact hJ7 _
set_option maxHeartbeats 4000000 in
set_option maxRecDepth 100000 in
theorem wX8_begin  (M : Mem) : Fr [(178, some 2), (178, some 3), (178, some 4), (178, some 5), (178, some 6), (178, some 7)] rmU M (fX8_begin M) := by
  unfold fX8_begin
  refine fr_mu (by decide) (fun M1 => ?_)
  refine fr_mu (by decide) (fun M2 => ?_)
  refine fr_mu (by decide) (fun M3 => ?_)
  refine fr_c (wX8_advance _) (by decide) (fun M4 => ?_)
  exact fr_some rfl
set_option maxHeartbeats 4000000 in
set_option maxRecDepth 100000 in
theorem wX1_clear  (M : Mem) : Fr [(181, some 0), (181, some 1)] rmU M (fX1_clear M) := by
  unfold fX1_clear
  refine fr_mu (by decide) (fun M1 => ?_)
  refine fr_mu (by decide) (fun M2 => ?_)
  exact fr_some rfl
set_option maxHeartbeats 4000000 in
set_option maxRecDepth 100000 in
theorem wX8_refuse (p1 : Int32) (M : Mem) : Fr [(178, some 2), (178, some 3)] rmW M (fX8_refuse p1 M) := by
  unfold fX8_refuse
  refine fr_mu (by decide) (fun M1 => ?_)
  refine fr_mu (by decide) (fun M2 => ?_)
  exact fr_some rfl
set_option maxHeartbeats 4000000 in
set_option maxRecDepth 100000 in
theorem wX1_put (p1 : Int32) (M : Mem) : Fr [(181, some 1), (186, none)] rmU M (fX1_put p1 M) := by
  unfold fX1_put
  refine fr_ite ?_ ?_
  · exact fr_some rfl
  · refine fr_wr (by decide) (fun M1 => ?_)
    refine fr_mu (by decide) (fun M2 => ?_)
    exact fr_some rfl
set_option maxHeartbeats 4000000 in
set_option maxRecDepth 100000 in
theorem wX2_readUnit (p2 : Int32) (M : Mem) : Fr [(178, some 2), (178, some 3), (178, some 4), (178, some 5), (178, some 6), (178, some 7), (181, some 1), (186, none)] rmW M (fX2_readUnit p2 M) := by
  unfold fX2_readUnit
  refine fr_ite ?_ ?_
  · refine fr_jn (fun (J7 : Option (Int32 × Mem)) => Fr [(178, some 2), (178, some 3), (178, some 4), (178, some 5), (178, some 6), (178, some 7), (181, some 1), (186, none)] rmW M (J7)) ( ?_) (fun J7 hJ7 => ?_)
    · refine fr_c (wX1_put _ _) (by decide) (fun M8 => ?_)
      refine fr_c (wX8_advance _) (by decide) (fun M9 => ?_)
      exact fr_some rfl
    · refine fr_ite ?_ ?_
      · exact hJ7
      · refine fr_ite ?_ ?_
        · refine fr_c (wX8_refuse _ _) (by decide) (fun r10 => ?_)
          exact fr_ite (fr_some rfl) fr_none
        · exact hJ7
  · refine fr_jn (fun (J1 : (Int32) → Option (Int32 × Mem)) => ∀ (t2 : Int32), Fr [(178, some 2), (178, some 3), (178, some 4), (178, some 5), (178, some 6), (178, some 7), (181, some 1), (186, none)] rmW M (J1 t2)) (fun t2 => ?_) (fun J1 hJ1 => ?_)
    · refine fr_ite ?_ ?_
      · refine fr_c (wX8_refuse _ _) (by decide) (fun r5 => ?_)
        exact fr_ite (fr_some rfl) fr_none
      · refine fr_c (wX1_put _ _) (by decide) (fun M3 => ?_)
        refine fr_c (wX8_advance _) (by decide) (fun M4 => ?_)
        exact fr_some rfl
    · refine fr_ite ?_ ?_
      · refine fr_b (fun v6 => ?_)
        exact hJ1 _
      · exact hJ1 _
set_option maxHeartbeats 4000000 in
set_option maxRecDepth 100000 in
theorem wX8_passSign (p1 : Int32) (p2 : Int32) (M : Mem) : Fr [(178, some 4), (178, some 5), (178, some 6), (178, some 7)] rmW M (fX8_passSign p1 p2 M) := by
  unfold fX8_passSign
  refine fr_jn (fun (J1 : Option (Int32 × Mem)) => Fr [(178, some 4), (178, some 5), (178, some 6), (178, some 7)] rmW M (J1)) ( ?_) (fun J1 hJ1 => ?_)
  · refine fr_bnd (fun x2 => ?_)
    refine fr_c (wX8_advance _) (by decide) (fun M3 => ?_)
    exact fr_some rfl
  · refine fr_ite ?_ ?_
    · refine fr_ite ?_ ?_
      · exact fr_some rfl
      · exact hJ1
    · exact hJ1
set_option maxHeartbeats 4000000 in
set_option maxRecDepth 100000 in
theorem wX2_readSum_L7    : ∀ (n : Nat) (y2 : Int32) (y3 : Int32) (y4 : Int32) (M : Mem), Fr [(178, some 2), (178, some 3), (178, some 4), (178, some 5), (178, some 6), (178, some 7), (181, some 1), (186, none)] rmW M (fX2_readSum_L7 n y2 y3 y4 M) := by
  intro n
  induction n with
  | zero => intro y2 y3 y4 M; exact fr_none
  | succ n ih =>
    intro y2 y3 y4 M
    rw [fX2_readSum_L7]
    refine fr_ite ?_ ?_
    · exact fr_some rfl
    · refine fr_jn (fun (J1 : (Int32) → Option (Int32 × Mem)) => ∀ (t2 : Int32), Fr [(178, some 2), (178, some 3), (178, some 4), (178, some 5), (178, some 6), (178, some 7), (181, some 1), (186, none)] rmW M (J1 t2)) (fun t2 => ?_) (fun J1 hJ1 => ?_)
      · refine fr_c (wX2_readUnit _ _) (by decide) (fun r3 => ?_)
        refine fr_ite ?_ ?_
        · exact fr_some rfl
        · refine fr_jn (fun (J4 : (Mem) → Option (Int32 × Mem)) => ∀ (M5 : Mem), Fr [(178, some 2), (178, some 3), (178, some 4), (178, some 5), (178, some 6), (178, some 7), (181, some 1), (186, none)] rmW M5 (J4 M5)) (fun M5 => ?_) (fun J4 hJ4 => ?_)
          · refine fr_c (wX8_passSign _ _ _) (by decide) (fun r6 => ?_)
            refine fr_jn (fun (J7 : (Int32) → (Mem) → Option (Int32 × Mem)) => ∀ (a8 : Int32) (M9 : Mem), Fr [(178, some 2), (178, some 3), (178, some 4), (178, some 5), (178, some 6), (178, some 7), (181, some 1), (186, none)] rmW M9 (J7 a8 M9)) (fun a8 M9 => ?_) (fun J7 hJ7 => ?_)
            · exact ih _ _ _ _
            · refine fr_ite ?_ ?_
              · refine fr_jn (fun (J10 : (Mem) → Option (Int32 × Mem)) => ∀ (M11 : Mem), Fr [(178, some 2), (178, some 3), (178, some 4), (178, some 5), (178, some 6), (178, some 7), (181, some 1), (186, none)] rmW M11 (J10 M11)) (fun M11 => ?_) (fun J10 hJ10 => ?_)
                · refine fr_c (wX8_passSign _ _ _) (by decide) (fun r12 => ?_)
                  refine fr_ite ?_ ?_
                  · exact fr_some rfl
                  · exact hJ7 _ _
                · refine fr_ite ?_ ?_
                  · exact hJ10 _
                  · refine fr_c (wX1_put _ _) (by decide) (fun M13 => ?_)
                    exact hJ10 _
              · exact hJ7 _ _
          · refine fr_ite ?_ ?_
            · exact hJ4 _
            · refine fr_c (wX1_put _ _) (by decide) (fun M14 => ?_)
              exact hJ4 _
      · refine fr_ite ?_ ?_
        · exact hJ1 _
        · exact hJ1 _
set_option maxHeartbeats 4000000 in
set_option maxRecDepth 100000 in
theorem wX2_readSum  (M : Mem) : Fr [(178, some 2), (178, some 3), (178, some 4), (178, some 5), (178, some 6), (178, some 7), (181, some 1), (186, none)] rmW M (fX2_readSum M) := by
  unfold fX2_readSum
  refine wX2_readSum_L7  FU _ _ _ _
set_option maxHeartbeats 4000000 in
set_option maxRecDepth 100000 in
theorem wX8_passWord (w1 : Nat) (M : Mem) : Fr [(178, some 4), (178, some 5), (178, some 6), (178, some 7)] rmW M (fX8_passWord w1 M) := by
  unfold fX8_passWord
  refine fr_b (fun v1 => ?_)
  refine fr_ite ?_ ?_
  · exact fr_ite (fr_some rfl) fr_none
  · refine fr_c (wX8_advance _) (by decide) (fun M2 => ?_)
    exact fr_ite (fr_some rfl) fr_none
set_option maxHeartbeats 4000000 in
set_option maxRecDepth 100000 in
theorem wX8_takeSign (p1 : Int32) (M : Mem) : Fr [(178, some 2), (178, some 3), (178, some 4), (178, some 5), (178, some 6), (178, some 7)] rmW M (fX8_takeSign p1 M) := by
  unfold fX8_takeSign
  refine fr_ite ?_ ?_
  · refine fr_c (wX8_refuse _ _) (by decide) (fun r2 => ?_)
    exact fr_ite (fr_some rfl) fr_none
  · refine fr_c (wX8_advance _) (by decide) (fun M1 => ?_)
    exact fr_some rfl
set_option maxHeartbeats 4000000 in
set_option maxRecDepth 100000 in
theorem wh_X2_readTest (rX2_readEither : Int32 → Mem → Option (Int32 × Mem)) (hwX2_readEither : ∀ (p2 : Int32) (M : Mem), Fr [(178, some 2), (178, some 3), (178, some 4), (178, some 5), (178, some 6), (178, some 7), (181, some 1), (186, none)] rmW M (rX2_readEither p2 M)) (rX2_readTest : Int32 → Mem → Option (Int32 × Mem)) (hwX2_readTest : ∀ (p2 : Int32) (M : Mem), Fr [(178, some 2), (178, some 3), (178, some 4), (178, some 5), (178, some 6), (178, some 7), (181, some 1), (186, none)] rmW M (rX2_readTest p2 M)) (p2 : Int32) (M : Mem) : Fr [(178, some 2), (178, some 3), (178, some 4), (178, some 5), (178, some 6), (178, some 7), (181, some 1), (186, none)] rmW M (hX2_readTest rX2_readEither rX2_readTest p2 M) := by
  unfold hX2_readTest
  refine fr_b (fun v1 => ?_)
  refine fr_jn (fun (J2 : Option (Int32 × Mem)) => Fr [(178, some 2), (178, some 3), (178, some 4), (178, some 5), (178, some 6), (178, some 7), (181, some 1), (186, none)] rmW M (J2)) ( ?_) (fun J2 hJ2 => ?_)
  · refine fr_ite ?_ ?_
    · refine fr_c (wX8_advance _) (by decide) (fun M3 => ?_)
      refine fr_ite ?_ ?_
      · refine fr_c (hwX2_readEither _ _) (by decide) (fun r6 => ?_)
        refine fr_ite ?_ ?_
        · exact fr_some rfl
        · refine fr_c (wX8_takeSign _ _) (by decide) (fun r7 => ?_)
          refine fr_ite ?_ ?_
          · exact fr_some rfl
          · exact fr_some rfl
      · refine fr_c (hwX2_readTest _ _) (by decide) (fun r4 => ?_)
        refine fr_ite ?_ ?_
        · exact fr_some rfl
        · refine fr_c (wX1_put _ _) (by decide) (fun M5 => ?_)
          exact fr_some rfl
    · refine fr_c (wX8_refuse _ _) (by decide) (fun r8 => ?_)
      exact fr_ite (fr_some rfl) fr_none
  · refine fr_ite ?_ ?_
    · refine fr_ite ?_ ?_
      · refine fr_c (wX2_readSum _) (by decide) (fun r9 => ?_)
        refine fr_ite ?_ ?_
        · exact fr_some rfl
        · refine fr_jn (fun (J10 : Option (Int32 × Mem)) => Fr [(178, some 2), (178, some 3), (178, some 4), (178, some 5), (178, some 6), (178, some 7), (181, some 1), (186, none)] rmW r9.2 (J10)) ( ?_) (fun J10 hJ10 => ?_)
          · refine fr_bnd (fun x11 => ?_)
            refine fr_c (wX8_advance _) (by decide) (fun M12 => ?_)
            refine fr_c (wX2_readSum _) (by decide) (fun r13 => ?_)
            refine fr_ite ?_ ?_
            · exact fr_some rfl
            · refine fr_c (wX1_put _ _) (by decide) (fun M14 => ?_)
              exact fr_some rfl
          · refine fr_ite ?_ ?_
            · refine fr_ite ?_ ?_
              · refine fr_ite ?_ ?_
                · refine fr_c (wX8_refuse _ _) (by decide) (fun r15 => ?_)
                  exact fr_ite (fr_some rfl) fr_none
                · exact hJ10
              · exact hJ10
            · exact hJ10
      · exact hJ2
    · exact hJ2
set_option maxHeartbeats 4000000 in
set_option maxRecDepth 100000 in
theorem wX2_readEither_L8 (rX2_readEither : Int32 → Mem → Option (Int32 × Mem)) (hwX2_readEither : ∀ (p2 : Int32) (M : Mem), Fr [(178, some 2), (178, some 3), (178, some 4), (178, some 5), (178, some 6), (178, some 7), (181, some 1), (186, none)] rmW M (rX2_readEither p2 M)) (rX2_readTest : Int32 → Mem → Option (Int32 × Mem)) (hwX2_readTest : ∀ (p2 : Int32) (M : Mem), Fr [(178, some 2), (178, some 3), (178, some 4), (178, some 5), (178, some 6), (178, some 7), (181, some 1), (186, none)] rmW M (rX2_readTest p2 M))   (z2 : Int32)  : ∀ (n : Nat) (y3 : Int32) (y4 : Int32) (y5 : Int32) (M : Mem), Fr [(178, some 2), (178, some 3), (178, some 4), (178, some 5), (178, some 6), (178, some 7), (181, some 1), (186, none)] rmW M (fX2_readEither_L8 rX2_readEither rX2_readTest z2 n y3 y4 y5 M) := by
  intro n
  induction n with
  | zero => intro y3 y4 y5 M; exact fr_none
  | succ n ih =>
    intro y3 y4 y5 M
    rw [fX2_readEither_L8]
    refine fr_ite ?_ ?_
    · exact fr_some rfl
    · refine fr_c (hwX2_readTest _ _) (by decide) (fun r1 => ?_)
      refine fr_ite ?_ ?_
      · exact fr_some rfl
      · refine fr_jn (fun (J2 : (Mem) → Option (Int32 × Mem)) => ∀ (M3 : Mem), Fr [(178, some 2), (178, some 3), (178, some 4), (178, some 5), (178, some 6), (178, some 7), (181, some 1), (186, none)] rmW M3 (J2 M3)) (fun M3 => ?_) (fun J2 hJ2 => ?_)
        · refine fr_c (wX8_passWord _ _) (by decide) (fun r4 => ?_)
          refine fr_jn (fun (J5 : (Int32) → (Mem) → Option (Int32 × Mem)) => ∀ (a6 : Int32) (M7 : Mem), Fr [(178, some 2), (178, some 3), (178, some 4), (178, some 5), (178, some 6), (178, some 7), (181, some 1), (186, none)] rmW M7 (J5 a6 M7)) (fun a6 M7 => ?_) (fun J5 hJ5 => ?_)
          · exact ih _ _ _ _
          · refine fr_ite ?_ ?_
            · refine fr_jn (fun (J8 : (Mem) → Option (Int32 × Mem)) => ∀ (M9 : Mem), Fr [(178, some 2), (178, some 3), (178, some 4), (178, some 5), (178, some 6), (178, some 7), (181, some 1), (186, none)] rmW M9 (J8 M9)) (fun M9 => ?_) (fun J8 hJ8 => ?_)
              · refine fr_c (wX8_passWord _ _) (by decide) (fun r10 => ?_)
                refine fr_ite ?_ ?_
                · exact fr_some rfl
                · exact hJ5 _ _
              · refine fr_ite ?_ ?_
                · exact hJ8 _
                · refine fr_c (wX1_put _ _) (by decide) (fun M11 => ?_)
                  exact hJ8 _
            · exact hJ5 _ _
        · refine fr_ite ?_ ?_
          · exact hJ2 _
          · refine fr_c (wX1_put _ _) (by decide) (fun M12 => ?_)
            exact hJ2 _
set_option maxHeartbeats 4000000 in
set_option maxRecDepth 100000 in
theorem wh_X2_readEither (rX2_readEither : Int32 → Mem → Option (Int32 × Mem)) (hwX2_readEither : ∀ (p2 : Int32) (M : Mem), Fr [(178, some 2), (178, some 3), (178, some 4), (178, some 5), (178, some 6), (178, some 7), (181, some 1), (186, none)] rmW M (rX2_readEither p2 M)) (rX2_readTest : Int32 → Mem → Option (Int32 × Mem)) (hwX2_readTest : ∀ (p2 : Int32) (M : Mem), Fr [(178, some 2), (178, some 3), (178, some 4), (178, some 5), (178, some 6), (178, some 7), (181, some 1), (186, none)] rmW M (rX2_readTest p2 M)) (p2 : Int32) (M : Mem) : Fr [(178, some 2), (178, some 3), (178, some 4), (178, some 5), (178, some 6), (178, some 7), (181, some 1), (186, none)] rmW M (hX2_readEither rX2_readEither rX2_readTest p2 M) := by
  unfold hX2_readEither
  refine wX2_readEither_L8 rX2_readEither hwX2_readEither rX2_readTest hwX2_readTest _ FU _ _ _ _
theorem wX2_grp : ∀ n : Nat, (∀ (p2 : Int32) (M : Mem), Fr [(178, some 2), (178, some 3), (178, some 4), (178, some 5), (178, some 6), (178, some 7), (181, some 1), (186, none)] rmW M (fX2_readEither n p2 M)) ∧ (∀ (p2 : Int32) (M : Mem), Fr [(178, some 2), (178, some 3), (178, some 4), (178, some 5), (178, some 6), (178, some 7), (181, some 1), (186, none)] rmW M (fX2_readTest n p2 M))
  | 0 => ⟨fun _ _ => fr_none, fun _ _ => fr_none⟩
  | n + 1 => ⟨fun p2 M => wh_X2_readEither _ (wX2_grp n).1 _ (wX2_grp n).2 p2 M, fun p2 M => wh_X2_readTest _ (wX2_grp n).1 _ (wX2_grp n).2 p2 M⟩
theorem wX2_readEither (n : Nat) (p2 : Int32) (M : Mem) : Fr [(178, some 2), (178, some 3), (178, some 4), (178, some 5), (178, some 6), (178, some 7), (181, some 1), (186, none)] rmW M (fX2_readEither n p2 M) := (wX2_grp n).1 p2 M
theorem wX2_readTest (n : Nat) (p2 : Int32) (M : Mem) : Fr [(178, some 2), (178, some 3), (178, some 4), (178, some 5), (178, some 6), (178, some 7), (181, some 1), (186, none)] rmW M (fX2_readTest n p2 M) := (wX2_grp n).2 p2 M
set_option maxHeartbeats 4000000 in
set_option maxRecDepth 100000 in
theorem wX1_appendLine (p1 : Int32) (p2 : Int32) (p3 : Int32) (M : Mem) : Fr [(181, some 0), (182, none), (183, none), (184, none), (185, none)] rmU M (fX1_appendLine p1 p2 p3 M) := by
  unfold fX1_appendLine
  refine fr_ite ?_ ?_
  · exact fr_some rfl
  · refine fr_wr (by decide) (fun M1 => ?_)
    refine fr_wr (by decide) (fun M2 => ?_)
    refine fr_wr (by decide) (fun M3 => ?_)
    refine fr_wr (by decide) (fun M4 => ?_)
    refine fr_mu (by decide) (fun M5 => ?_)
    exact fr_some rfl
set_option maxHeartbeats 4000000 in
set_option maxRecDepth 100000 in
theorem wX2_read_L9  (K131 : Mem → Option (Int32 × Mem)) (hK131 : ∀ (M : Mem), Fr [(178, some 2), (178, some 3), (178, some 4), (178, some 5), (178, some 6), (178, some 7), (181, some 0), (181, some 1), (182, none), (183, none), (184, none), (185, none), (186, none)] rmW M (K131 M)) : ∀ (n : Nat) (y2 : Int32) (M : Mem), Fr [(178, some 2), (178, some 3), (178, some 4), (178, some 5), (178, some 6), (178, some 7), (181, some 0), (181, some 1), (182, none), (183, none), (184, none), (185, none), (186, none)] rmW M (fX2_read_L9 K131 n y2 M) := by
  intro n
  induction n with
  | zero => intro y2 M; exact fr_none
  | succ n ih =>
    intro y2 M
    rw [fX2_read_L9]
    refine fr_ite ?_ ?_
    · exact hK131 _
    · refine fr_ite ?_ ?_
      · exact hK131 _
      · refine fr_b (fun v2 => ?_)
        refine fr_ite ?_ ?_
        · refine fr_c (wX8_refuse _ _) (by decide) (fun r14 => ?_)
          exact fr_ite (fr_some rfl) fr_none
        · refine fr_ite ?_ ?_
          · refine fr_c (wX8_refuse _ _) (by decide) (fun r13 => ?_)
            exact fr_ite (fr_some rfl) fr_none
          · refine fr_c (wX8_advance _) (by decide) (fun M3 => ?_)
            refine fr_bnd (fun x4 => ?_)
            refine fr_c (wX2_readSum _) (by decide) (fun r5 => ?_)
            refine fr_ite ?_ ?_
            · exact fr_some rfl
            · refine fr_bnd (fun x6 => ?_)
              refine fr_c (wX8_passWord _ _) (by decide) (fun r7 => ?_)
              refine fr_jn (fun (J8 : (Mem) → Option (Int32 × Mem)) => ∀ (M9 : Mem), Fr [(178, some 2), (178, some 3), (178, some 4), (178, some 5), (178, some 6), (178, some 7), (181, some 0), (181, some 1), (182, none), (183, none), (184, none), (185, none), (186, none)] rmW M9 (J8 M9)) (fun M9 => ?_) (fun J8 hJ8 => ?_)
              · refine fr_c (wX8_takeSign _ _) (by decide) (fun r10 => ?_)
                refine fr_ite ?_ ?_
                · exact fr_some rfl
                · refine fr_c (wX1_appendLine _ _ _ _) (by decide) (fun M11 => ?_)
                  exact ih _ _
              · refine fr_ite ?_ ?_
                · exact hJ8 _
                · refine fr_c (wX2_readEither RU _ _) (by decide) (fun r12 => ?_)
                  refine fr_ite ?_ ?_
                  · exact fr_some rfl
                  · exact hJ8 _
set_option maxHeartbeats 4000000 in
set_option maxRecDepth 100000 in
theorem wX2_read  (M : Mem) : Fr [(178, some 2), (178, some 3), (178, some 4), (178, some 5), (178, some 6), (178, some 7), (181, some 0), (181, some 1), (182, none), (183, none), (184, none), (185, none), (186, none)] rmW M (fX2_read M) := by
  unfold fX2_read
  refine fr_c (wX1_clear _) (by decide) (fun M1 => ?_)
  refine wX2_read_L9 _ (fun M15 => ?_) FU _ _
  · exact fr_some rfl
set_option maxHeartbeats 4000000 in
set_option maxRecDepth 100000 in
theorem wX1_copyFrom (k0 : Nat) (k1 : Nat) (M : Mem) : Fr [((k0 + 1), none), ((k0 + 2), none), ((k0 + 3), none), ((k0 + 4), none), ((k0 + 5), none), (k0, some 0), (k0, some 1)] rmU M (fX1_copyFrom k0 k1 M) := by
  unfold fX1_copyFrom
  refine fr_mu (by simp) (fun M1 => ?_)
  refine fr_mu (by simp) (fun M2 => ?_)
  refine fr_cpy (by simp) (fun M3 => ?_)
  refine fr_cpy (by simp) (fun M4 => ?_)
  refine fr_cpy (by simp) (fun M5 => ?_)
  refine fr_cpy (by simp) (fun M6 => ?_)
  refine fr_cpy (by simp) (fun M7 => ?_)
  exact fr_some rfl
set_option maxHeartbeats 4000000 in
set_option maxRecDepth 100000 in
theorem wX8_takeNumber (p1 : Int32) (M : Mem) : Fr [(178, some 2), (178, some 3), (178, some 4), (178, some 5), (178, some 6), (178, some 7), (178, some 8)] rmW M (fX8_takeNumber p1 M) := by
  unfold fX8_takeNumber
  refine fr_ite ?_ ?_
  · refine fr_ite ?_ ?_
    · refine fr_mu (by decide) (fun M1 => ?_)
      refine fr_c (wX8_advance _) (by decide) (fun M2 => ?_)
      exact fr_some rfl
    · refine fr_c (wX8_refuse _ _) (by decide) (fun r3 => ?_)
      exact fr_ite (fr_some rfl) fr_none
  · refine fr_c (wX8_refuse _ _) (by decide) (fun r4 => ?_)
    exact fr_ite (fr_some rfl) fr_none
set_option maxHeartbeats 4000000 in
set_option maxRecDepth 100000 in
theorem wX8_takeWord (w1 : Nat) (M : Mem) : Fr [(178, some 2), (178, some 3), (178, some 4), (178, some 5), (178, some 6), (178, some 7)] rmW M (fX8_takeWord w1 M) := by
  unfold fX8_takeWord
  refine fr_b (fun v1 => ?_)
  refine fr_ite ?_ ?_
  · refine fr_c (wX8_refuse _ _) (by decide) (fun r3 => ?_)
    exact fr_ite (fr_some rfl) fr_none
  · refine fr_c (wX8_advance _) (by decide) (fun M2 => ?_)
    exact fr_some rfl
set_option maxHeartbeats 4000000 in
set_option maxRecDepth 100000 in
theorem wX4_readHearing  (M : Mem) : Fr [(178, some 2), (178, some 3), (178, some 4), (178, some 5), (178, some 6), (178, some 7), (178, some 8), (189, some 3), (189, some 4)] rmW M (fX4_readHearing M) := by
  unfold fX4_readHearing
  refine fr_c (wX8_takeNumber _ _) (by decide) (fun r1 => ?_)
  refine fr_ite ?_ ?_
  · exact fr_some rfl
  · refine fr_mu (by decide) (fun M2 => ?_)
    refine fr_c (wX8_takeWord _ _) (by decide) (fun r3 => ?_)
    refine fr_ite ?_ ?_
    · exact fr_some rfl
    · refine fr_jn (fun (J4 : Option (Int32 × Mem)) => Fr [(178, some 2), (178, some 3), (178, some 4), (178, some 5), (178, some 6), (178, some 7), (178, some 8), (189, some 3), (189, some 4)] rmW r3.2 (J4)) ( ?_) (fun J4 hJ4 => ?_)
      · refine fr_c (wX8_takeNumber _ _) (by decide) (fun r5 => ?_)
        refine fr_ite ?_ ?_
        · exact fr_some rfl
        · refine fr_mu (by decide) (fun M6 => ?_)
          exact fr_some rfl
      · refine fr_ite ?_ ?_
        · refine fr_b (fun v7 => ?_)
          refine fr_ite ?_ ?_
          · exact hJ4
          · refine fr_c (wX8_refuse _ _) (by decide) (fun r8 => ?_)
            exact fr_ite (fr_some rfl) fr_none
        · exact hJ4
set_option maxHeartbeats 4000000 in
set_option maxRecDepth 100000 in
theorem wX4_readTwist  (M : Mem) : Fr [(178, some 2), (178, some 3), (178, some 4), (178, some 5), (178, some 6), (178, some 7), (178, some 8), (189, some 2), (189, some 3)] rmW M (fX4_readTwist M) := by
  unfold fX4_readTwist
  refine fr_c (wX8_takeWord _ _) (by decide) (fun r1 => ?_)
  refine fr_ite ?_ ?_
  · exact fr_some rfl
  · refine fr_c (wX8_takeNumber _ _) (by decide) (fun r2 => ?_)
    refine fr_ite ?_ ?_
    · exact fr_some rfl
    · refine fr_mu (by decide) (fun M3 => ?_)
      refine fr_b (fun v4 => ?_)
      refine fr_jn (fun (J5 : (Int32) → Option (Int32 × Mem)) => ∀ (t6 : Int32), Fr [(178, some 2), (178, some 3), (178, some 4), (178, some 5), (178, some 6), (178, some 7), (178, some 8), (189, some 2), (189, some 3)] rmW M3 (J5 t6)) (fun t6 => ?_) (fun J5 hJ5 => ?_)
      · refine fr_mu (by decide) (fun M7 => ?_)
        refine fr_jn (fun (J8 : (Nat) → Option (Int32 × Mem)) => ∀ (w9 : Nat), Fr [(178, some 2), (178, some 3), (178, some 4), (178, some 5), (178, some 6), (178, some 7), (178, some 8), (189, some 2), (189, some 3)] rmW M7 (J8 w9)) (fun w9 => ?_) (fun J8 hJ8 => ?_)
        · refine fr_c (wX8_takeWord _ _) (by decide) (fun r10 => ?_)
          exact fr_ite (fr_some rfl) fr_none
        · refine fr_ite ?_ ?_
          · exact hJ8 _
          · exact hJ8 _
      · refine fr_ite ?_ ?_
        · exact hJ5 _
        · exact hJ5 _
set_option maxHeartbeats 4000000 in
set_option maxRecDepth 100000 in
theorem wX4_readEvening  (M : Mem) : Fr [(178, some 2), (178, some 3), (178, some 4), (178, some 5), (178, some 6), (178, some 7), (178, some 8), (189, some 2), (189, some 3), (189, some 4)] rmW M (fX4_readEvening M) := by
  unfold fX4_readEvening
  refine fr_b (fun v1 => ?_)
  refine fr_mu (by decide) (fun M2 => ?_)
  refine fr_ite ?_ ?_
  · refine fr_c (wX8_refuse _ _) (by decide) (fun r13 => ?_)
    exact fr_ite (fr_some rfl) fr_none
  · refine fr_c (wX8_advance _) (by decide) (fun M3 => ?_)
    refine fr_jn (fun (J4 : (Mem) → Option (Int32 × Mem)) => ∀ (M5 : Mem), Fr [(178, some 2), (178, some 3), (178, some 4), (178, some 5), (178, some 6), (178, some 7), (178, some 8), (189, some 2), (189, some 3), (189, some 4)] rmW M5 (J4 M5)) (fun M5 => ?_) (fun J4 hJ4 => ?_)
    · refine fr_ite ?_ ?_
      · exact fr_some rfl
      · refine fr_c (wX8_takeNumber _ _) (by decide) (fun r6 => ?_)
        refine fr_ite ?_ ?_
        · exact fr_some rfl
        · refine fr_mu (by decide) (fun M7 => ?_)
          exact fr_some rfl
    · refine fr_jn (fun (J8 : Option (Int32 × Mem)) => Fr [(178, some 2), (178, some 3), (178, some 4), (178, some 5), (178, some 6), (178, some 7), (178, some 8), (189, some 2), (189, some 3), (189, some 4)] rmW M3 (J8)) ( ?_) (fun J8 hJ8 => ?_)
      · refine fr_jn (fun (J9 : (Int32) → Option (Int32 × Mem)) => ∀ (t10 : Int32), Fr [(178, some 2), (178, some 3), (178, some 4), (178, some 5), (178, some 6), (178, some 7), (178, some 8), (189, some 2), (189, some 3), (189, some 4)] rmW M3 (J9 t10)) (fun t10 => ?_) (fun J9 hJ9 => ?_)
        · refine fr_c (wX8_takeNumber _ _) (by decide) (fun r11 => ?_)
          refine fr_ite ?_ ?_
          · exact fr_some rfl
          · refine fr_mu (by decide) (fun M12 => ?_)
            exact hJ4 _
        · refine fr_ite ?_ ?_
          · exact hJ9 _
          · exact hJ9 _
      · refine fr_ite ?_ ?_
        · exact hJ8
        · refine fr_ite ?_ ?_
          · exact hJ8
          · exact hJ4 _
set_option maxHeartbeats 4000000 in
set_option maxRecDepth 100000 in
theorem wX4_readLine (p2 : Int32) (M : Mem) : Fr [(178, some 2), (178, some 3), (178, some 4), (178, some 5), (178, some 6), (178, some 7), (178, some 8), (189, some 1), (189, some 2), (189, some 3), (189, some 4)] rmW M (fX4_readLine p2 M) := by
  unfold fX4_readLine
  refine fr_mu (by decide) (fun M1 => ?_)
  refine fr_mu (by decide) (fun M2 => ?_)
  refine fr_mu (by decide) (fun M3 => ?_)
  refine fr_mu (by decide) (fun M4 => ?_)
  refine fr_ite ?_ ?_
  · refine fr_c (wX4_readHearing _) (by decide) (fun r9 => ?_)
    exact fr_ite (fr_some rfl) fr_none
  · refine fr_c (wX8_takeNumber _ _) (by decide) (fun r5 => ?_)
    refine fr_ite ?_ ?_
    · exact fr_some rfl
    · refine fr_mu (by decide) (fun M6 => ?_)
      refine fr_ite ?_ ?_
      · refine fr_c (wX4_readTwist _) (by decide) (fun r8 => ?_)
        exact fr_ite (fr_some rfl) fr_none
      · refine fr_c (wX4_readEvening _) (by decide) (fun r7 => ?_)
        exact fr_ite (fr_some rfl) fr_none
set_option maxHeartbeats 4000000 in
set_option maxRecDepth 100000 in
theorem wX4_read_L11  (K117 : Mem → Option (Int32 × Mem)) (K86 : Mem → Option (Int32 × Mem)) (z2 : Int32) (hK117 : ∀ (M : Mem), Fr [(178, some 2), (178, some 3), (178, some 4), (178, some 5), (178, some 6), (178, some 7), (178, some 8), (189, some 1), (189, some 2), (189, some 3), (189, some 4), (190, some 0), (191, none), (192, none), (193, none), (194, none)] rmW M (K117 M)) (hK86 : ∀ (M : Mem), Fr [(178, some 2), (178, some 3), (178, some 4), (178, some 5), (178, some 6), (178, some 7), (178, some 8), (189, some 1), (189, some 2), (189, some 3), (189, some 4), (190, some 0), (191, none), (192, none), (193, none), (194, none)] rmW M (K86 M)) : ∀ (n : Nat) (y4 : Int32) (M : Mem), Fr [(178, some 2), (178, some 3), (178, some 4), (178, some 5), (178, some 6), (178, some 7), (178, some 8), (189, some 1), (189, some 2), (189, some 3), (189, some 4), (190, some 0), (191, none), (192, none), (193, none), (194, none)] rmW M (fX4_read_L11 K117 K86 z2 n y4 M) := by
  intro n
  induction n with
  | zero => intro y4 M; exact fr_none
  | succ n ih =>
    intro y4 M
    rw [fX4_read_L11]
    refine fr_ite ?_ ?_
    · exact hK117 _
    · refine fr_ite ?_ ?_
      · exact hK117 _
      · refine fr_jn (fun (J2 : (Nat) → Option (Int32 × Mem)) => ∀ (w3 : Nat), Fr [(178, some 2), (178, some 3), (178, some 4), (178, some 5), (178, some 6), (178, some 7), (178, some 8), (189, some 1), (189, some 2), (189, some 3), (189, some 4), (190, some 0), (191, none), (192, none), (193, none), (194, none)] rmW M (J2 w3)) (fun w3 => ?_) (fun J2 hJ2 => ?_)
        · refine fr_b (fun v4 => ?_)
          refine fr_ite ?_ ?_
          · refine fr_c (wX8_refuse _ _) (by decide) (fun r10 => ?_)
            exact fr_ite (fr_some rfl) fr_none
          · refine fr_ite ?_ ?_
            · refine fr_c (wX8_refuse _ _) (by decide) (fun r9 => ?_)
              exact fr_ite (fr_some rfl) fr_none
            · refine fr_c (wX8_advance _) (by decide) (fun M5 => ?_)
              refine fr_c (wX4_readLine _ _) (by decide) (fun r6 => ?_)
              refine fr_ite ?_ ?_
              · exact hK86 _
              · refine fr_c (wX8_takeSign _ _) (by decide) (fun r7 => ?_)
                refine fr_ite ?_ ?_
                · exact hK86 _
                · refine fr_c (wX3_append _ _ _ _ _ _) (by decide) (fun M8 => ?_)
                  exact ih _ _
        · refine fr_ite ?_ ?_
          · exact hJ2 _
          · exact hJ2 _
set_option maxHeartbeats 4000000 in
set_option maxRecDepth 100000 in
theorem wX4_read (p2 : Int32) (M : Mem) : Fr [(178, some 2), (178, some 3), (178, some 4), (178, some 5), (178, some 6), (178, some 7), (178, some 8), (189, some 1), (189, some 2), (189, some 3), (189, some 4), (190, some 0), (191, none), (192, none), (193, none), (194, none)] rmW M (fX4_read p2 M) := by
  unfold fX4_read
  refine fr_mu (by decide) (fun M1 => ?_)
  refine wX4_read_L11 _ _ _ (fun M11 => ?_) (fun M12 => ?_) FU _ _
  · exact fr_some rfl
  · exact fr_some rfl
theorem rsX0_linesOf {q : Nat} {p1 : Int32} {M : Mem} (e : fX0_linesOf p1 M = some q) : q ∈ [25, 30, 35] := by
  unfold fX0_linesOf at e
  repeat' split at e
  all_goals (cases e; decide)
set_option maxHeartbeats 4000000 in
set_option maxRecDepth 100000 in
theorem wX3_copyFrom (k0 : Nat) (k1 : Nat) (M : Mem) : Fr [((k0 + 1), none), ((k0 + 2), none), ((k0 + 3), none), ((k0 + 4), none), (k0, some 0)] rmU M (fX3_copyFrom k0 k1 M) := by
  unfold fX3_copyFrom
  refine fr_mu (by simp) (fun M1 => ?_)
  refine fr_cpy (by simp) (fun M2 => ?_)
  refine fr_cpy (by simp) (fun M3 => ?_)
  refine fr_cpy (by simp) (fun M4 => ?_)
  refine fr_cpy (by simp) (fun M5 => ?_)
  exact fr_some rfl
set_option maxHeartbeats 4000000 in
set_option maxRecDepth 100000 in
theorem wX11_text (p1 : Int32) (M : Mem) : Fr [(17, some 0), (17, some 1), (18, none), (19, none), (20, none), (21, none), (22, none), (25, some 0), (26, none), (27, none), (28, none), (29, none), (30, some 0), (31, none), (32, none), (33, none), (34, none), (35, some 0), (36, none), (37, none), (38, none), (39, none), (105, some 0), (178, some 1), (178, some 2), (178, some 3), (178, some 4), (178, some 5), (178, some 6), (178, some 7), (178, some 8), (181, some 0), (181, some 1), (182, none), (183, none), (184, none), (185, none), (186, none), (189, some 1), (189, some 2), (189, some 3), (189, some 4), (190, some 0), (191, none), (192, none), (193, none), (194, none)] rmW M (fX11_text p1 M) := by
  unfold fX11_text
  refine fr_c (wX8_begin _) (by decide) (fun M1 => ?_)
  refine fr_jn (fun (J2 : (Int32) → (Mem) → Option (Int32 × Mem)) => ∀ (a3 : Int32) (M4 : Mem), Fr [(17, some 0), (17, some 1), (18, none), (19, none), (20, none), (21, none), (22, none), (25, some 0), (26, none), (27, none), (28, none), (29, none), (30, some 0), (31, none), (32, none), (33, none), (34, none), (35, some 0), (36, none), (37, none), (38, none), (39, none), (105, some 0), (178, some 1), (178, some 2), (178, some 3), (178, some 4), (178, some 5), (178, some 6), (178, some 7), (178, some 8), (181, some 0), (181, some 1), (182, none), (183, none), (184, none), (185, none), (186, none), (189, some 1), (189, some 2), (189, some 3), (189, some 4), (190, some 0), (191, none), (192, none), (193, none), (194, none)] rmW M4 (J2 a3 M4)) (fun a3 M4 => ?_) (fun J2 hJ2 => ?_)
  · refine fr_jn (fun (J5 : (Int32) → (Mem) → Option (Int32 × Mem)) => ∀ (a6 : Int32) (M7 : Mem), Fr [(17, some 0), (17, some 1), (18, none), (19, none), (20, none), (21, none), (22, none), (25, some 0), (26, none), (27, none), (28, none), (29, none), (30, some 0), (31, none), (32, none), (33, none), (34, none), (35, some 0), (36, none), (37, none), (38, none), (39, none), (105, some 0), (178, some 1), (178, some 2), (178, some 3), (178, some 4), (178, some 5), (178, some 6), (178, some 7), (178, some 8), (181, some 0), (181, some 1), (182, none), (183, none), (184, none), (185, none), (186, none), (189, some 1), (189, some 2), (189, some 3), (189, some 4), (190, some 0), (191, none), (192, none), (193, none), (194, none)] rmW M7 (J5 a6 M7)) (fun a6 M7 => ?_) (fun J5 hJ5 => ?_)
    · refine fr_mu (by decide) (fun M8 => ?_)
      refine fr_ite ?_ ?_
      · exact fr_some rfl
      · refine fr_jn (fun (J9 : Option (Int32 × Mem)) => Fr [(17, some 0), (17, some 1), (18, none), (19, none), (20, none), (21, none), (22, none), (25, some 0), (26, none), (27, none), (28, none), (29, none), (30, some 0), (31, none), (32, none), (33, none), (34, none), (35, some 0), (36, none), (37, none), (38, none), (39, none), (105, some 0), (178, some 1), (178, some 2), (178, some 3), (178, some 4), (178, some 5), (178, some 6), (178, some 7), (178, some 8), (181, some 0), (181, some 1), (182, none), (183, none), (184, none), (185, none), (186, none), (189, some 1), (189, some 2), (189, some 3), (189, some 4), (190, some 0), (191, none), (192, none), (193, none), (194, none)] rmW M8 (J9)) ( ?_) (fun J9 hJ9 => ?_)
        · refine fr_c (wX6_forget _) (by decide) (fun M10 => ?_)
          exact fr_some rfl
        · refine fr_ite ?_ ?_
          · exact hJ9
          · refine fr_ite ?_ ?_
            · exact hJ9
            · exact fr_some rfl
    · refine fr_ite ?_ ?_
      · exact hJ5 _ _
      · refine fr_c (wX4_read _ _) (by decide) (fun r11 => ?_)
        refine fr_ite ?_ ?_
        · exact hJ5 _ _
        · refine fr_bm (fun q12 eq12 => ?_)
          have mq12 : q12 ∈ [25, 30, 35] := rsX0_linesOf eq12
          refine fr_ite ?_ fr_none
          refine fr_c (wX3_copyFrom _ _ _) ((show ∀ q ∈ [25, 30, 35], ∀ a ∈ ([(q + 1, none), (q + 2, none), (q + 3, none), (q + 4, none), (q, some 0)] : List (Nat × Option Nat)), a ∈ ([(17, some 0), (17, some 1), (18, none), (19, none), (20, none), (21, none), (22, none), (25, some 0), (26, none), (27, none), (28, none), (29, none), (30, some 0), (31, none), (32, none), (33, none), (34, none), (35, some 0), (36, none), (37, none), (38, none), (39, none), (105, some 0), (178, some 1), (178, some 2), (178, some 3), (178, some 4), (178, some 5), (178, some 6), (178, some 7), (178, some 8), (181, some 0), (181, some 1), (182, none), (183, none), (184, none), (185, none), (186, none), (189, some 1), (189, some 2), (189, some 3), (189, some 4), (190, some 0), (191, none), (192, none), (193, none), (194, none)] : List (Nat × Option Nat)) from by decide) q12 mq12) (fun M13 => ?_)
          refine fr_bnd (fun x14 => ?_)
          exact hJ5 _ _
  · refine fr_ite ?_ ?_
    · refine fr_c (wX2_read _) (by decide) (fun r15 => ?_)
      refine fr_ite ?_ ?_
      · exact hJ2 _ _
      · refine fr_c (wX1_copyFrom _ _ _) (by decide) (fun M16 => ?_)
        refine fr_bnd (fun x17 => ?_)
        exact hJ2 _ _
    · exact hJ2 _ _
set_option maxHeartbeats 4000000 in
set_option maxRecDepth 100000 in
theorem wX12_reads_L0  (K39 : Mem → Option (Mem)) (hK39 : ∀ (M : Mem), Fr [(198, some 14), (198, some 15), (198, some 16), (198, some 17)] rmU M (K39 M)) : ∀ (n : Nat) (M : Mem), Fr [(198, some 14), (198, some 15), (198, some 16), (198, some 17)] rmU M (fX12_reads_L0 K39 n M) := by
  intro n
  induction n with
  | zero => intro M; exact fr_none
  | succ n ih =>
    intro M
    rw [fX12_reads_L0]
    refine fr_b (fun v1 => ?_)
    refine fr_jn (fun (J2 : Option (Mem)) => Fr [(198, some 14), (198, some 15), (198, some 16), (198, some 17)] rmU M (J2)) ( ?_) (fun J2 hJ2 => ?_)
    · refine fr_mu (by decide) (fun M3 => ?_)
      exact ih _
    · refine fr_ite ?_ ?_
      · exact hJ2
      · refine fr_b (fun v4 => ?_)
        refine fr_ite ?_ ?_
        · exact hJ2
        · exact hK39 _
set_option maxHeartbeats 4000000 in
set_option maxRecDepth 100000 in
theorem wX12_reads_L171  (K239 : Mem → Option (Mem)) (hK239 : ∀ (M : Mem), Fr [(198, some 14), (198, some 15), (198, some 16), (198, some 17)] rmU M (K239 M)) : ∀ (n : Nat) (M : Mem), Fr [(198, some 14), (198, some 15), (198, some 16), (198, some 17)] rmU M (fX12_reads_L171 K239 n M) := by
  intro n
  induction n with
  | zero => intro M; exact fr_none
  | succ n ih =>
    intro M
    rw [fX12_reads_L171]
    refine fr_b (fun v13 => ?_)
    refine fr_ite ?_ ?_
    · exact hK239 _
    · refine fr_jn (fun (J14 : (Int32) → Option (Mem)) => ∀ (t15 : Int32), Fr [(198, some 14), (198, some 15), (198, some 16), (198, some 17)] rmU M (J14 t15)) (fun t15 => ?_) (fun J14 hJ14 => ?_)
      · refine fr_mu (by decide) (fun M16 => ?_)
        refine fr_mu (by decide) (fun M17 => ?_)
        exact ih _
      · refine fr_ite ?_ ?_
        · exact hJ14 _
        · refine fr_b (fun v18 => ?_)
          exact hJ14 _
set_option maxHeartbeats 4000000 in
set_option maxRecDepth 100000 in
theorem wX12_reads_L95  (K123 : Mem → Option (Mem)) (hK123 : ∀ (M : Mem), Fr [(198, some 14), (198, some 15), (198, some 16), (198, some 17)] rmU M (K123 M)) : ∀ (n : Nat) (M : Mem), Fr [(198, some 14), (198, some 15), (198, some 16), (198, some 17)] rmU M (fX12_reads_L95 K123 n M) := by
  intro n
  induction n with
  | zero => intro M; exact fr_none
  | succ n ih =>
    intro M
    rw [fX12_reads_L95]
    refine fr_b (fun v21 => ?_)
    refine fr_ite ?_ ?_
    · exact hK123 _
    · refine fr_mu (by decide) (fun M22 => ?_)
      exact ih _
set_option maxHeartbeats 4000000 in
set_option maxRecDepth 100000 in
theorem wX12_reads  (M : Mem) : Fr [(198, some 14), (198, some 15), (198, some 16), (198, some 17)] rmU M (fX12_reads M) := by
  unfold fX12_reads
  refine wX12_reads_L0 _ (fun M5 => ?_) FU _
  · refine fr_mu (by decide) (fun M6 => ?_)
    refine fr_mu (by decide) (fun M7 => ?_)
    refine fr_b (fun v8 => ?_)
    refine fr_ite ?_ ?_
    · refine fr_mu (by decide) (fun M27 => ?_)
      exact fr_some rfl
    · refine fr_mu (by decide) (fun M9 => ?_)
      refine fr_mu (by decide) (fun M10 => ?_)
      refine fr_ite ?_ ?_
      · refine fr_ite ?_ ?_
        · refine fr_ite ?_ ?_
          · exact fr_some rfl
          · refine fr_mu (by decide) (fun M11 => ?_)
            exact fr_some rfl
        · refine fr_mu (by decide) (fun M12 => ?_)
          refine wX12_reads_L171 _ (fun M19 => ?_) FU _
          · refine fr_ite ?_ ?_
            · exact fr_some rfl
            · refine fr_mu (by decide) (fun M20 => ?_)
              exact fr_some rfl
      · refine wX12_reads_L95 _ (fun M23 => ?_) FU _
        · refine fr_b (fun v24 => ?_)
          refine fr_mu (by decide) (fun M25 => ?_)
          refine fr_ite ?_ ?_
          · exact fr_some rfl
          · refine fr_mu (by decide) (fun M26 => ?_)
            exact fr_some rfl
set_option maxHeartbeats 4000000 in
set_option maxRecDepth 100000 in
theorem wX12_errs (p1 : Int32) (M : Mem) : Fr [(198, some 31), (198, some 32)] rmW M (fX12_errs p1 M) := by
  unfold fX12_errs
  refine fr_mu (by decide) (fun M1 => ?_)
  refine fr_mu (by decide) (fun M2 => ?_)
  exact fr_some rfl
set_option maxHeartbeats 4000000 in
set_option maxRecDepth 100000 in
theorem wX12_readNumber (p1 : Int32) (p2 : Int32) (M : Mem) : Fr [(198, some 14), (198, some 15), (198, some 16), (198, some 17), (198, some 31), (198, some 32)] rmW M (fX12_readNumber p1 p2 M) := by
  unfold fX12_readNumber
  refine fr_ite ?_ ?_
  · refine fr_ite ?_ ?_
    · refine fr_c (wX12_errs _ _) (by decide) (fun r3 => ?_)
      exact fr_some rfl
    · refine fr_bnd (fun x1 => ?_)
      refine fr_c (wX12_reads _) (by decide) (fun M2 => ?_)
      exact fr_some rfl
  · refine fr_c (wX12_errs _ _) (by decide) (fun r4 => ?_)
    exact fr_some rfl
set_option maxHeartbeats 4000000 in
set_option maxRecDepth 100000 in
theorem wX12_readTold (p1 : Int32) (p2 : Int32) (p3 : Int32) (M : Mem) : Fr [(198, some 14), (198, some 15), (198, some 16), (198, some 17), (198, some 31), (198, some 32)] rmW M (fX12_readTold p1 p2 p3 M) := by
  unfold fX12_readTold
  refine fr_ite ?_ ?_
  · refine fr_c (wX12_errs _ _) (by decide) (fun r3 => ?_)
    exact fr_some rfl
  · refine fr_c (wX12_reads _) (by decide) (fun M1 => ?_)
    refine fr_c (wX12_readNumber _ _ _) (by decide) (fun r2 => ?_)
    exact fr_some rfl
set_option maxHeartbeats 4000000 in
set_option maxRecDepth 100000 in
theorem wX12_readMark (p1 : Int32) (M : Mem) : Fr [(198, some 14), (198, some 15), (198, some 16), (198, some 17), (198, some 31), (198, some 32)] rmW M (fX12_readMark p1 M) := by
  unfold fX12_readMark
  refine fr_ite ?_ ?_
  · refine fr_c (wX12_errs _ _) (by decide) (fun r2 => ?_)
    exact fr_some rfl
  · refine fr_c (wX12_reads _) (by decide) (fun M1 => ?_)
    exact fr_some rfl
set_option maxHeartbeats 4000000 in
set_option maxRecDepth 100000 in
theorem wX12_readHop (p1 : Int32) (M : Mem) : Fr [(198, some 14), (198, some 15), (198, some 16), (198, some 17), (198, some 31), (198, some 32), (216, none)] rmW M (fX12_readHop p1 M) := by
  unfold fX12_readHop
  refine fr_c (wX12_readTold _ _ _ _) (by decide) (fun r1 => ?_)
  refine fr_wr (by decide) (fun M2 => ?_)
  refine fr_b (fun v3 => ?_)
  refine fr_ite ?_ ?_
  · exact fr_some rfl
  · refine fr_c (wX12_readTold _ _ _ _) (by decide) (fun r4 => ?_)
    refine fr_wr (by decide) (fun M5 => ?_)
    refine fr_b (fun v6 => ?_)
    refine fr_ite ?_ ?_
    · exact fr_some rfl
    · refine fr_jn (fun (J7 : Option (Int32 × Mem)) => Fr [(198, some 14), (198, some 15), (198, some 16), (198, some 17), (198, some 31), (198, some 32), (216, none)] rmW M5 (J7)) ( ?_) (fun J7 hJ7 => ?_)
      · refine fr_wr (by decide) (fun M8 => ?_)
        refine fr_c (wX12_reads _) (by decide) (fun M9 => ?_)
        refine fr_c (wX12_readMark _ _) (by decide) (fun r10 => ?_)
        exact fr_some rfl
      · refine fr_ite ?_ ?_
        · refine fr_ite ?_ ?_
          · refine fr_c (wX12_errs _ _) (by decide) (fun r11 => ?_)
            exact fr_some rfl
          · exact hJ7
        · exact hJ7
set_option maxHeartbeats 4000000 in
set_option maxRecDepth 100000 in
theorem wX12_readHops_L2  (K46 : Int32 → Mem → Option (Int32 × Mem)) (hK46 : ∀ (e1 : Int32) (M : Mem), Fr [(198, some 14), (198, some 15), (198, some 16), (198, some 17), (198, some 31), (198, some 32), (216, none)] rmW M (K46 e1 M)) : ∀ (n : Nat) (y1 : Int32) (M : Mem), Fr [(198, some 14), (198, some 15), (198, some 16), (198, some 17), (198, some 31), (198, some 32), (216, none)] rmW M (fX12_readHops_L2 K46 n y1 M) := by
  intro n
  induction n with
  | zero => intro y1 M; exact fr_none
  | succ n ih =>
    intro y1 M
    rw [fX12_readHops_L2]
    refine fr_ite ?_ ?_
    · exact hK46 _ _
    · refine fr_ite ?_ ?_
      · refine fr_c (wX12_errs _ _) (by decide) (fun r3 => ?_)
        exact fr_some rfl
      · refine fr_c (wX12_readHop _ _) (by decide) (fun r1 => ?_)
        refine fr_ite ?_ ?_
        · exact fr_some rfl
        · refine fr_bnd (fun x2 => ?_)
          exact ih _ _
set_option maxHeartbeats 4000000 in
set_option maxRecDepth 100000 in
theorem wX12_readHops  (M : Mem) : Fr [(198, some 14), (198, some 15), (198, some 16), (198, some 17), (198, some 31), (198, some 32), (216, none)] rmW M (fX12_readHops M) := by
  unfold fX12_readHops
  refine wX12_readHops_L2 _ (fun e4 M5 => ?_) FU _ _
  · refine fr_ite ?_ ?_
    · exact fr_some rfl
    · refine fr_c (wX12_errs _ _) (by decide) (fun r6 => ?_)
      exact fr_some rfl
set_option maxHeartbeats 4000000 in
set_option maxRecDepth 100000 in
theorem wX12_readStreetLine (p1 : Int32) (M : Mem) : Fr [(198, some 14), (198, some 15), (198, some 16), (198, some 17), (198, some 31), (198, some 32), (217, none)] rmW M (fX12_readStreetLine p1 M) := by
  unfold fX12_readStreetLine
  refine fr_c (wX12_readTold _ _ _ _) (by decide) (fun r1 => ?_)
  refine fr_wr (by decide) (fun M2 => ?_)
  refine fr_b (fun v3 => ?_)
  refine fr_ite ?_ ?_
  · exact fr_some rfl
  · refine fr_bnd (fun x4 => ?_)
    refine fr_ite ?_ ?_
    · refine fr_c (wX12_errs _ _) (by decide) (fun r19 => ?_)
      exact fr_some rfl
    · refine fr_c (wX12_reads _) (by decide) (fun M5 => ?_)
      refine fr_wr (by decide) (fun M6 => ?_)
      refine fr_jn (fun (J7 : (Int32) → Option (Int32 × Mem)) => ∀ (t8 : Int32), Fr [(198, some 14), (198, some 15), (198, some 16), (198, some 17), (198, some 31), (198, some 32), (217, none)] rmW M6 (J7 t8)) (fun t8 => ?_) (fun J7 hJ7 => ?_)
      · refine fr_c (wX12_readNumber _ _ _) (by decide) (fun r9 => ?_)
        refine fr_wr (by decide) (fun M10 => ?_)
        refine fr_b (fun v11 => ?_)
        refine fr_ite ?_ ?_
        · exact fr_some rfl
        · refine fr_jn (fun (J12 : (Int32) → (Mem) → Option (Int32 × Mem)) => ∀ (t13 : Int32) (M14 : Mem), Fr [(198, some 14), (198, some 15), (198, some 16), (198, some 17), (198, some 31), (198, some 32), (217, none)] rmW M14 (J12 t13 M14)) (fun t13 M14 => ?_) (fun J12 hJ12 => ?_)
          · refine fr_wr (by decide) (fun M15 => ?_)
            refine fr_b (fun v16 => ?_)
            refine fr_ite ?_ ?_
            · exact fr_some rfl
            · refine fr_c (wX12_readMark _ _) (by decide) (fun r17 => ?_)
              exact fr_some rfl
          · refine fr_ite ?_ ?_
            · refine fr_c (wX12_readNumber _ _ _) (by decide) (fun r18 => ?_)
              exact hJ12 _ _
            · exact hJ12 _ _
      · refine fr_ite ?_ ?_
        · exact hJ7 _
        · refine fr_ite ?_ ?_
          · exact hJ7 _
          · exact hJ7 _
set_option maxHeartbeats 4000000 in
set_option maxRecDepth 100000 in
theorem wX12_readStreet_L2  (K46 : Int32 → Mem → Option (Int32 × Mem)) (hK46 : ∀ (e1 : Int32) (M : Mem), Fr [(198, some 14), (198, some 15), (198, some 16), (198, some 17), (198, some 31), (198, some 32), (217, none)] rmW M (K46 e1 M)) : ∀ (n : Nat) (y1 : Int32) (M : Mem), Fr [(198, some 14), (198, some 15), (198, some 16), (198, some 17), (198, some 31), (198, some 32), (217, none)] rmW M (fX12_readStreet_L2 K46 n y1 M) := by
  intro n
  induction n with
  | zero => intro y1 M; exact fr_none
  | succ n ih =>
    intro y1 M
    rw [fX12_readStreet_L2]
    refine fr_ite ?_ ?_
    · exact hK46 _ _
    · refine fr_ite ?_ ?_
      · refine fr_c (wX12_errs _ _) (by decide) (fun r3 => ?_)
        exact fr_some rfl
      · refine fr_c (wX12_readStreetLine _ _) (by decide) (fun r1 => ?_)
        refine fr_ite ?_ ?_
        · exact fr_some rfl
        · refine fr_bnd (fun x2 => ?_)
          exact ih _ _
set_option maxHeartbeats 4000000 in
set_option maxRecDepth 100000 in
theorem wX12_readStreet  (M : Mem) : Fr [(198, some 14), (198, some 15), (198, some 16), (198, some 17), (198, some 31), (198, some 32), (217, none)] rmW M (fX12_readStreet M) := by
  unfold fX12_readStreet
  refine wX12_readStreet_L2 _ (fun e4 M5 => ?_) FU _ _
  · refine fr_ite ?_ ?_
    · exact fr_some rfl
    · refine fr_c (wX12_errs _ _) (by decide) (fun r6 => ?_)
      exact fr_some rfl
set_option maxHeartbeats 4000000 in
set_option maxRecDepth 100000 in
theorem wX12_readLean  (M : Mem) : Fr [(198, some 14), (198, some 15), (198, some 16), (198, some 17), (198, some 31), (198, some 32), (218, none)] rmW M (fX12_readLean M) := by
  unfold fX12_readLean
  refine fr_c (wX12_readTold _ _ _ _) (by decide) (fun r1 => ?_)
  refine fr_ite ?_ ?_
  · exact fr_some rfl
  · refine fr_ite ?_ ?_
    · refine fr_c (wX12_errs _ _) (by decide) (fun r12 => ?_)
      exact fr_some rfl
    · refine fr_c (wX12_reads _) (by decide) (fun M2 => ?_)
      refine fr_jn (fun (J3 : Option (Int32 × Mem)) => Fr [(198, some 14), (198, some 15), (198, some 16), (198, some 17), (198, some 31), (198, some 32), (218, none)] rmW M2 (J3)) ( ?_) (fun J3 hJ3 => ?_)
      · refine fr_c (wX12_readNumber _ _ _) (by decide) (fun r4 => ?_)
        refine fr_ite ?_ ?_
        · exact fr_some rfl
        · refine fr_b (fun v5 => ?_)
          refine fr_wr (by decide) (fun M6 => ?_)
          refine fr_c (wX12_readMark _ _) (by decide) (fun r7 => ?_)
          exact fr_some rfl
      · refine fr_ite ?_ ?_
        · refine fr_b (fun v8 => ?_)
          refine fr_jn (fun (J9 : Option (Int32 × Mem)) => Fr [(198, some 14), (198, some 15), (198, some 16), (198, some 17), (198, some 31), (198, some 32), (218, none)] rmW M2 (J9)) ( ?_) (fun J9 hJ9 => ?_)
          · refine fr_c (wX12_errs _ _) (by decide) (fun r10 => ?_)
            exact fr_some rfl
          · refine fr_ite ?_ ?_
            · exact hJ9
            · refine fr_b (fun v11 => ?_)
              refine fr_ite ?_ ?_
              · exact hJ9
              · exact hJ3
        · exact hJ3
set_option maxHeartbeats 4000000 in
set_option maxRecDepth 100000 in
theorem wX12_readLeans_L2  (K24 : Mem → Option (Int32 × Mem)) (hK24 : ∀ (M : Mem), Fr [(198, some 14), (198, some 15), (198, some 16), (198, some 17), (198, some 31), (198, some 32), (218, none)] rmW M (K24 M)) : ∀ (n : Nat) (y1 : Int32) (M : Mem), Fr [(198, some 14), (198, some 15), (198, some 16), (198, some 17), (198, some 31), (198, some 32), (218, none)] rmW M (fX12_readLeans_L2 K24 n y1 M) := by
  intro n
  induction n with
  | zero => intro y1 M; exact fr_none
  | succ n ih =>
    intro y1 M
    rw [fX12_readLeans_L2]
    refine fr_ite ?_ ?_
    · exact hK24 _
    · refine fr_wr (by decide) (fun M1 => ?_)
      exact ih _ _
set_option maxHeartbeats 4000000 in
set_option maxRecDepth 100000 in
theorem wX12_readLeans_L26  (K64 : Int32 → Mem → Option (Int32 × Mem)) (hK64 : ∀ (e1 : Int32) (M : Mem), Fr [(198, some 14), (198, some 15), (198, some 16), (198, some 17), (198, some 31), (198, some 32), (218, none)] rmW M (K64 e1 M)) : ∀ (n : Nat) (y1 : Int32) (M : Mem), Fr [(198, some 14), (198, some 15), (198, some 16), (198, some 17), (198, some 31), (198, some 32), (218, none)] rmW M (fX12_readLeans_L26 K64 n y1 M) := by
  intro n
  induction n with
  | zero => intro y1 M; exact fr_none
  | succ n ih =>
    intro y1 M
    rw [fX12_readLeans_L26]
    refine fr_ite ?_ ?_
    · exact hK64 _ _
    · refine fr_ite ?_ ?_
      · refine fr_c (wX12_errs _ _) (by decide) (fun r5 => ?_)
        exact fr_some rfl
      · refine fr_c (wX12_readLean _) (by decide) (fun r3 => ?_)
        refine fr_ite ?_ ?_
        · exact fr_some rfl
        · refine fr_bnd (fun x4 => ?_)
          exact ih _ _
set_option maxHeartbeats 4000000 in
set_option maxRecDepth 100000 in
theorem wX12_readLeans  (M : Mem) : Fr [(198, some 14), (198, some 15), (198, some 16), (198, some 17), (198, some 31), (198, some 32), (218, none)] rmW M (fX12_readLeans M) := by
  unfold fX12_readLeans
  refine wX12_readLeans_L2 _ (fun M2 => ?_) FU _ _
  · refine wX12_readLeans_L26 _ (fun e6 M7 => ?_) FU _ _
    · refine fr_ite ?_ ?_
      · exact fr_some rfl
      · refine fr_c (wX12_errs _ _) (by decide) (fun r8 => ?_)
        exact fr_some rfl
set_option maxHeartbeats 4000000 in
set_option maxRecDepth 100000 in
theorem wX12_emits (p1 : Int32) (p2 : Int32) (M : Mem) : Fr [(198, some 27), (213, none), (214, none)] rmU M (fX12_emits p1 p2 M) := by
  unfold fX12_emits
  refine fr_wr (by decide) (fun M1 => ?_)
  refine fr_wr (by decide) (fun M2 => ?_)
  refine fr_mu (by decide) (fun M3 => ?_)
  exact fr_some rfl
set_option maxHeartbeats 4000000 in
set_option maxRecDepth 100000 in
theorem wX12_readUnit  (M : Mem) : Fr [(198, some 14), (198, some 15), (198, some 16), (198, some 17), (198, some 27), (198, some 31), (198, some 32), (213, none), (214, none)] rmW M (fX12_readUnit M) := by
  unfold fX12_readUnit
  refine fr_jn (fun (J1 : (Int32) → Option (Int32 × Mem)) => ∀ (t2 : Int32), Fr [(198, some 14), (198, some 15), (198, some 16), (198, some 17), (198, some 27), (198, some 31), (198, some 32), (213, none), (214, none)] rmW M (J1 t2)) (fun t2 => ?_) (fun J1 hJ1 => ?_)
  · refine fr_jn (fun (J3 : Option (Int32 × Mem)) => Fr [(198, some 14), (198, some 15), (198, some 16), (198, some 17), (198, some 27), (198, some 31), (198, some 32), (213, none), (214, none)] rmW M (J3)) ( ?_) (fun J3 hJ3 => ?_)
    · refine fr_jn (fun (J4 : (Int32) → Option (Int32 × Mem)) => ∀ (t5 : Int32), Fr [(198, some 14), (198, some 15), (198, some 16), (198, some 17), (198, some 27), (198, some 31), (198, some 32), (213, none), (214, none)] rmW M (J4 t5)) (fun t5 => ?_) (fun J4 hJ4 => ?_)
      · refine fr_jn (fun (J6 : (Int32) → Option (Int32 × Mem)) => ∀ (t7 : Int32), Fr [(198, some 14), (198, some 15), (198, some 16), (198, some 17), (198, some 27), (198, some 31), (198, some 32), (213, none), (214, none)] rmW M (J6 t7)) (fun t7 => ?_) (fun J6 hJ6 => ?_)
        · refine fr_c (wX12_emits _ _ _) (by decide) (fun M8 => ?_)
          refine fr_c (wX12_reads _) (by decide) (fun M9 => ?_)
          exact fr_some rfl
        · refine fr_ite ?_ ?_
          · exact hJ6 _
          · exact hJ6 _
      · refine fr_ite ?_ ?_
        · exact hJ4 _
        · exact hJ4 _
    · refine fr_ite ?_ ?_
      · refine fr_ite ?_ ?_
        · exact hJ3
        · refine fr_c (wX12_errs _ _) (by decide) (fun r10 => ?_)
          exact fr_some rfl
      · exact hJ3
  · refine fr_jn (fun (J11 : Option (Int32 × Mem)) => Fr [(198, some 14), (198, some 15), (198, some 16), (198, some 17), (198, some 27), (198, some 31), (198, some 32), (213, none), (214, none)] rmW M (J11)) ( ?_) (fun J11 hJ11 => ?_)
    · exact hJ1 _
    · refine fr_ite ?_ ?_
      · refine fr_ite ?_ ?_
        · exact hJ11
        · exact hJ1 _
      · exact hJ11
set_option maxHeartbeats 4000000 in
set_option maxRecDepth 100000 in
theorem wX12_readProduct_L10    : ∀ (n : Nat) (M : Mem), Fr [(198, some 14), (198, some 15), (198, some 16), (198, some 17), (198, some 27), (198, some 31), (198, some 32), (213, none), (214, none)] rmW M (fX12_readProduct_L10 n M) := by
  intro n
  induction n with
  | zero => intro M; exact fr_none
  | succ n ih =>
    intro M
    rw [fX12_readProduct_L10]
    refine fr_jn (fun (J2 : Option (Int32 × Mem)) => Fr [(198, some 14), (198, some 15), (198, some 16), (198, some 17), (198, some 27), (198, some 31), (198, some 32), (213, none), (214, none)] rmW M (J2)) ( ?_) (fun J2 hJ2 => ?_)
    · refine fr_bnd (fun x3 => ?_)
      refine fr_c (wX12_reads _) (by decide) (fun M4 => ?_)
      refine fr_jn (fun (J5 : Option (Int32 × Mem)) => Fr [(198, some 14), (198, some 15), (198, some 16), (198, some 17), (198, some 27), (198, some 31), (198, some 32), (213, none), (214, none)] rmW M4 (J5)) ( ?_) (fun J5 hJ5 => ?_)
      · refine fr_jn (fun (J6 : Option (Int32 × Mem)) => Fr [(198, some 14), (198, some 15), (198, some 16), (198, some 17), (198, some 27), (198, some 31), (198, some 32), (213, none), (214, none)] rmW M4 (J6)) ( ?_) (fun J6 hJ6 => ?_)
        · refine fr_c (wX12_readUnit _) (by decide) (fun r7 => ?_)
          refine fr_ite ?_ ?_
          · exact fr_some rfl
          · refine fr_jn (fun (J8 : (Int32) → Option (Int32 × Mem)) => ∀ (t9 : Int32), Fr [(198, some 14), (198, some 15), (198, some 16), (198, some 17), (198, some 27), (198, some 31), (198, some 32), (213, none), (214, none)] rmW r7.2 (J8 t9)) (fun t9 => ?_) (fun J8 hJ8 => ?_)
            · refine fr_c (wX12_emits _ _ _) (by decide) (fun M10 => ?_)
              exact ih _
            · refine fr_ite ?_ ?_
              · exact hJ8 _
              · exact hJ8 _
        · refine fr_ite ?_ ?_
          · refine fr_ite ?_ ?_
            · refine fr_c (wX12_errs _ _) (by decide) (fun r11 => ?_)
              exact fr_some rfl
            · exact hJ6
          · exact hJ6
      · refine fr_ite ?_ ?_
        · refine fr_ite ?_ ?_
          · exact hJ5
          · refine fr_c (wX12_errs _ _) (by decide) (fun r12 => ?_)
            exact fr_some rfl
        · exact hJ5
    · refine fr_ite ?_ ?_
      · refine fr_ite ?_ ?_
        · exact fr_some rfl
        · exact hJ2
      · exact hJ2
set_option maxHeartbeats 4000000 in
set_option maxRecDepth 100000 in
theorem wX12_readProduct  (M : Mem) : Fr [(198, some 14), (198, some 15), (198, some 16), (198, some 17), (198, some 27), (198, some 31), (198, some 32), (213, none), (214, none)] rmW M (fX12_readProduct M) := by
  unfold fX12_readProduct
  refine fr_c (wX12_readUnit _) (by decide) (fun r1 => ?_)
  refine fr_ite ?_ ?_
  · exact fr_some rfl
  · refine wX12_readProduct_L10  FU _
set_option maxHeartbeats 4000000 in
set_option maxRecDepth 100000 in
theorem wX12_readSum_L10    : ∀ (n : Nat) (M : Mem), Fr [(198, some 14), (198, some 15), (198, some 16), (198, some 17), (198, some 27), (198, some 31), (198, some 32), (213, none), (214, none)] rmW M (fX12_readSum_L10 n M) := by
  intro n
  induction n with
  | zero => intro M; exact fr_none
  | succ n ih =>
    intro M
    rw [fX12_readSum_L10]
    refine fr_jn (fun (J2 : Option (Int32 × Mem)) => Fr [(198, some 14), (198, some 15), (198, some 16), (198, some 17), (198, some 27), (198, some 31), (198, some 32), (213, none), (214, none)] rmW M (J2)) ( ?_) (fun J2 hJ2 => ?_)
    · refine fr_jn (fun (J3 : (Int32) → Option (Int32 × Mem)) => ∀ (t4 : Int32), Fr [(198, some 14), (198, some 15), (198, some 16), (198, some 17), (198, some 27), (198, some 31), (198, some 32), (213, none), (214, none)] rmW M (J3 t4)) (fun t4 => ?_) (fun J3 hJ3 => ?_)
      · refine fr_c (wX12_reads _) (by decide) (fun M5 => ?_)
        refine fr_c (wX12_readProduct _) (by decide) (fun r6 => ?_)
        refine fr_ite ?_ ?_
        · exact fr_some rfl
        · refine fr_c (wX12_emits _ _ _) (by decide) (fun M7 => ?_)
          exact ih _
      · refine fr_ite ?_ ?_
        · exact hJ3 _
        · exact hJ3 _
    · refine fr_ite ?_ ?_
      · refine fr_ite ?_ ?_
        · exact fr_some rfl
        · exact hJ2
      · exact hJ2
set_option maxHeartbeats 4000000 in
set_option maxRecDepth 100000 in
theorem wX12_readSum  (M : Mem) : Fr [(198, some 14), (198, some 15), (198, some 16), (198, some 17), (198, some 27), (198, some 31), (198, some 32), (213, none), (214, none)] rmW M (fX12_readSum M) := by
  unfold fX12_readSum
  refine fr_c (wX12_readProduct _) (by decide) (fun r1 => ?_)
  refine fr_ite ?_ ?_
  · exact fr_some rfl
  · refine wX12_readSum_L10  FU _
set_option maxHeartbeats 4000000 in
set_option maxRecDepth 100000 in
theorem wX12_waits (p1 : Int32) (M : Mem) : Fr [(198, some 30), (215, none)] rmU M (fX12_waits p1 M) := by
  unfold fX12_waits
  refine fr_wr (by decide) (fun M1 => ?_)
  refine fr_mu (by decide) (fun M2 => ?_)
  exact fr_some rfl
set_option maxHeartbeats 4000000 in
set_option maxRecDepth 100000 in
theorem wX12_readCompared  (M : Mem) : Fr [(198, some 14), (198, some 15), (198, some 16), (198, some 17), (198, some 27), (198, some 31), (198, some 32), (213, none), (214, none)] rmW M (fX12_readCompared M) := by
  unfold fX12_readCompared
  refine fr_c (wX12_readSum _) (by decide) (fun r1 => ?_)
  refine fr_ite ?_ ?_
  · exact fr_some rfl
  · refine fr_jn (fun (J2 : Option (Int32 × Mem)) => Fr [(198, some 14), (198, some 15), (198, some 16), (198, some 17), (198, some 27), (198, some 31), (198, some 32), (213, none), (214, none)] rmW r1.2 (J2)) ( ?_) (fun J2 hJ2 => ?_)
    · refine fr_jn (fun (J3 : (Int32) → Option (Int32 × Mem)) => ∀ (t4 : Int32), Fr [(198, some 14), (198, some 15), (198, some 16), (198, some 17), (198, some 27), (198, some 31), (198, some 32), (213, none), (214, none)] rmW r1.2 (J3 t4)) (fun t4 => ?_) (fun J3 hJ3 => ?_)
      · refine fr_c (wX12_reads _) (by decide) (fun M5 => ?_)
        refine fr_c (wX12_readSum _) (by decide) (fun r6 => ?_)
        refine fr_ite ?_ ?_
        · exact fr_some rfl
        · refine fr_c (wX12_emits _ _ _) (by decide) (fun M7 => ?_)
          exact fr_some rfl
      · refine fr_ite ?_ ?_
        · exact hJ3 _
        · refine fr_ite ?_ ?_
          · exact hJ3 _
          · exact hJ3 _
    · refine fr_ite ?_ ?_
      · refine fr_ite ?_ ?_
        · refine fr_ite ?_ ?_
          · refine fr_c (wX12_errs _ _) (by decide) (fun r8 => ?_)
            exact fr_some rfl
          · exact hJ2
        · exact hJ2
      · exact hJ2
set_option maxHeartbeats 4000000 in
set_option maxRecDepth 100000 in
theorem wX12_settles_L0  (K57 : Mem → Option (Mem)) (z1 : Int32) (hK57 : ∀ (M : Mem), Fr [(198, some 27), (198, some 28), (198, some 30), (213, none), (214, none)] rmU M (K57 M)) : ∀ (n : Nat) (M : Mem), Fr [(198, some 27), (198, some 28), (198, some 30), (213, none), (214, none)] rmU M (fX12_settles_L0 K57 z1 n M) := by
  intro n
  induction n with
  | zero => intro M; exact fr_none
  | succ n ih =>
    intro M
    rw [fX12_settles_L0]
    refine fr_ite ?_ ?_
    · exact hK57 _
    · refine fr_b (fun v1 => ?_)
      refine fr_ite ?_ ?_
      · refine fr_mu (by decide) (fun M2 => ?_)
        refine fr_c (wX12_emits _ _ _) (by decide) (fun M3 => ?_)
        refine fr_ite ?_ ?_
        · refine fr_mu (by decide) (fun M4 => ?_)
          exact ih _
        · exact ih _
      · exact hK57 _
set_option maxHeartbeats 4000000 in
set_option maxRecDepth 100000 in
theorem wX12_settles (p1 : Int32) (M : Mem) : Fr [(198, some 27), (198, some 28), (198, some 30), (213, none), (214, none)] rmU M (fX12_settles p1 M) := by
  unfold fX12_settles
  refine wX12_settles_L0 _ _ (fun M5 => ?_) FU _
  · exact fr_some rfl
set_option maxHeartbeats 4000000 in
set_option maxRecDepth 100000 in
theorem wX12_readAny_L9    : ∀ (n : Nat) (y1 : Int32) (y2 : Int32) (M : Mem), Fr [(198, some 14), (198, some 15), (198, some 16), (198, some 17), (198, some 27), (198, some 28), (198, some 30), (198, some 31), (198, some 32), (213, none), (214, none), (215, none)] rmW M (fX12_readAny_L9 n y1 y2 M) := by
  intro n
  induction n with
  | zero => intro y1 y2 M; exact fr_none
  | succ n ih =>
    intro y1 y2 M
    rw [fX12_readAny_L9]
    refine fr_ite ?_ ?_
    · refine fr_ite ?_ ?_
      · refine fr_ite ?_ ?_
        · refine fr_c (wX12_settles _ _) (by decide) (fun M2 => ?_)
          refine fr_c (wX12_settles _ _) (by decide) (fun M3 => ?_)
          refine fr_ite ?_ ?_
          · exact fr_some rfl
          · refine fr_ite ?_ ?_
            · refine fr_c (wX12_errs _ _) (by decide) (fun r9 => ?_)
              exact fr_some rfl
            · refine fr_mu (by decide) (fun M4 => ?_)
              refine fr_bnd (fun x5 => ?_)
              refine fr_mu (by decide) (fun M6 => ?_)
              refine fr_c (wX12_settles _ _) (by decide) (fun M7 => ?_)
              refine fr_c (wX12_reads _) (by decide) (fun M8 => ?_)
              exact ih _ _ _
        · refine fr_c (wX12_settles _ _) (by decide) (fun M10 => ?_)
          refine fr_c (wX12_settles _ _) (by decide) (fun M11 => ?_)
          refine fr_c (wX12_waits _ _) (by decide) (fun M12 => ?_)
          refine fr_c (wX12_reads _) (by decide) (fun M13 => ?_)
          exact ih _ _ _
      · refine fr_c (wX12_settles _ _) (by decide) (fun M14 => ?_)
        refine fr_c (wX12_waits _ _) (by decide) (fun M15 => ?_)
        refine fr_c (wX12_reads _) (by decide) (fun M16 => ?_)
        exact ih _ _ _
    · refine fr_bnd (fun x17 => ?_)
      refine fr_jn (fun (J18 : Option (Int32 × Mem)) => Fr [(198, some 14), (198, some 15), (198, some 16), (198, some 17), (198, some 27), (198, some 28), (198, some 30), (198, some 31), (198, some 32), (213, none), (214, none), (215, none)] rmW M (J18)) ( ?_) (fun J18 hJ18 => ?_)
      · refine fr_ite ?_ ?_
        · refine fr_c (wX12_errs _ _) (by decide) (fun r27 => ?_)
          exact fr_some rfl
        · refine fr_mu (by decide) (fun M19 => ?_)
          refine fr_jn (fun (J20 : (Int32) → Option (Int32 × Mem)) => ∀ (a21 : Int32), Fr [(198, some 14), (198, some 15), (198, some 16), (198, some 17), (198, some 27), (198, some 28), (198, some 30), (198, some 31), (198, some 32), (213, none), (214, none), (215, none)] rmW M19 (J20 a21)) (fun a21 => ?_) (fun J20 hJ20 => ?_)
          · refine fr_jn (fun (J22 : (Int32) → Option (Int32 × Mem)) => ∀ (t23 : Int32), Fr [(198, some 14), (198, some 15), (198, some 16), (198, some 17), (198, some 27), (198, some 28), (198, some 30), (198, some 31), (198, some 32), (213, none), (214, none), (215, none)] rmW M19 (J22 t23)) (fun t23 => ?_) (fun J22 hJ22 => ?_)
            · refine fr_c (wX12_waits _ _) (by decide) (fun M24 => ?_)
              refine fr_c (wX12_reads _) (by decide) (fun M25 => ?_)
              exact ih _ _ _
            · refine fr_ite ?_ ?_
              · exact hJ22 _
              · exact hJ22 _
          · refine fr_ite ?_ ?_
            · refine fr_bnd (fun x26 => ?_)
              exact hJ20 _
            · exact hJ20 _
      · refine fr_ite ?_ ?_
        · refine fr_ite ?_ ?_
          · refine fr_c (wX12_readCompared _) (by decide) (fun r28 => ?_)
            refine fr_ite ?_ ?_
            · exact fr_some rfl
            · refine fr_c (wX12_settles _ _) (by decide) (fun M29 => ?_)
              exact ih _ _ _
          · exact hJ18
        · exact hJ18
set_option maxHeartbeats 4000000 in
set_option maxRecDepth 100000 in
theorem wX12_readAny  (M : Mem) : Fr [(198, some 14), (198, some 15), (198, some 16), (198, some 17), (198, some 27), (198, some 28), (198, some 30), (198, some 31), (198, some 32), (213, none), (214, none), (215, none)] rmW M (fX12_readAny M) := by
  unfold fX12_readAny
  refine fr_mu (by decide) (fun M1 => ?_)
  refine wX12_readAny_L9  FU _ _ _
set_option maxHeartbeats 4000000 in
set_option maxRecDepth 100000 in
theorem wX12_readLaw_L2  (K128 : Int32 → Mem → Option (Int32 × Mem)) (hK128 : ∀ (e1 : Int32) (M : Mem), Fr [(198, some 14), (198, some 15), (198, some 16), (198, some 17), (198, some 27), (198, some 28), (198, some 30), (198, some 31), (198, some 32), (209, none), (210, none), (211, none), (212, none), (213, none), (214, none), (215, none)] rmW M (K128 e1 M)) : ∀ (n : Nat) (y1 : Int32) (M : Mem), Fr [(198, some 14), (198, some 15), (198, some 16), (198, some 17), (198, some 27), (198, some 28), (198, some 30), (198, some 31), (198, some 32), (209, none), (210, none), (211, none), (212, none), (213, none), (214, none), (215, none)] rmW M (fX12_readLaw_L2 K128 n y1 M) := by
  intro n
  induction n with
  | zero => intro y1 M; exact fr_none
  | succ n ih =>
    intro y1 M
    rw [fX12_readLaw_L2]
    refine fr_ite ?_ ?_
    · exact hK128 _ _
    · refine fr_ite ?_ ?_
      · refine fr_c (wX12_errs _ _) (by decide) (fun r15 => ?_)
        exact fr_some rfl
      · refine fr_bnd (fun x1 => ?_)
        refine fr_wr (by decide) (fun M2 => ?_)
        refine fr_c (wX12_reads _) (by decide) (fun M3 => ?_)
        refine fr_wr (by decide) (fun M4 => ?_)
        refine fr_c (wX12_readSum _) (by decide) (fun r5 => ?_)
        refine fr_ite ?_ ?_
        · exact fr_some rfl
        · refine fr_wr (by decide) (fun M6 => ?_)
          refine fr_jn (fun (J7 : (Mem) → Option (Int32 × Mem)) => ∀ (M8 : Mem), Fr [(198, some 14), (198, some 15), (198, some 16), (198, some 17), (198, some 27), (198, some 28), (198, some 30), (198, some 31), (198, some 32), (209, none), (210, none), (211, none), (212, none), (213, none), (214, none), (215, none)] rmW M8 (J7 M8)) (fun M8 => ?_) (fun J7 hJ7 => ?_)
          · refine fr_wr (by decide) (fun M9 => ?_)
            refine fr_ite ?_ ?_
            · refine fr_c (wX12_errs _ _) (by decide) (fun r12 => ?_)
              exact fr_some rfl
            · refine fr_c (wX12_reads _) (by decide) (fun M10 => ?_)
              refine fr_bnd (fun x11 => ?_)
              exact ih _ _
          · refine fr_ite ?_ ?_
            · exact hJ7 _
            · refine fr_c (wX12_reads _) (by decide) (fun M13 => ?_)
              refine fr_c (wX12_readAny _) (by decide) (fun r14 => ?_)
              refine fr_ite ?_ ?_
              · exact fr_some rfl
              · exact hJ7 _
set_option maxHeartbeats 4000000 in
set_option maxRecDepth 100000 in
theorem wX12_readLaw  (M : Mem) : Fr [(198, some 14), (198, some 15), (198, some 16), (198, some 17), (198, some 27), (198, some 28), (198, some 30), (198, some 31), (198, some 32), (209, none), (210, none), (211, none), (212, none), (213, none), (214, none), (215, none)] rmW M (fX12_readLaw M) := by
  unfold fX12_readLaw
  refine wX12_readLaw_L2 _ (fun e16 M17 => ?_) FU _ _
  · refine fr_ite ?_ ?_
    · exact fr_some rfl
    · refine fr_c (wX12_errs _ _) (by decide) (fun r18 => ?_)
      exact fr_some rfl
set_option maxHeartbeats 4000000 in
set_option maxRecDepth 100000 in
theorem wX12_readsText (p1 : Int32) (M : Mem) : Fr [(198, some 14), (198, some 15), (198, some 16), (198, some 17), (198, some 26), (198, some 27), (198, some 28), (198, some 30), (198, some 31), (198, some 32), (209, none), (210, none), (211, none), (212, none), (213, none), (214, none), (215, none), (216, none), (217, none), (218, none)] rmW M (fX12_readsText p1 M) := by
  unfold fX12_readsText
  refine fr_mu (by decide) (fun M1 => ?_)
  refine fr_c (wX12_reads _) (by decide) (fun M2 => ?_)
  refine fr_ite ?_ ?_
  · refine fr_c (wX12_readHops _) (by decide) (fun r6 => ?_)
    exact fr_some rfl
  · refine fr_ite ?_ ?_
    · refine fr_c (wX12_readStreet _) (by decide) (fun r5 => ?_)
      exact fr_some rfl
    · refine fr_ite ?_ ?_
      · refine fr_c (wX12_readLeans _) (by decide) (fun r4 => ?_)
        exact fr_some rfl
      · refine fr_c (wX12_readLaw _) (by decide) (fun r3 => ?_)
        exact fr_some rfl
set_option maxHeartbeats 4000000 in
set_option maxRecDepth 100000 in
theorem wX12_takesLaw_L2  (K105 : Mem → Option (Mem)) (z1 : Int32) (hK105 : ∀ (M : Mem), Fr [(208, none), (209, none), (210, none), (211, none), (212, none), (213, none), (214, none)] rmU M (K105 M)) : ∀ (n : Nat) (y2 : Int32) (M : Mem), Fr [(208, none), (209, none), (210, none), (211, none), (212, none), (213, none), (214, none)] rmU M (fX12_takesLaw_L2 K105 z1 n y2 M) := by
  intro n
  induction n with
  | zero => intro y2 M; exact fr_none
  | succ n ih =>
    intro y2 M
    rw [fX12_takesLaw_L2]
    refine fr_ite ?_ ?_
    · exact hK105 _
    · refine fr_b (fun v1 => ?_)
      refine fr_wr (by decide) (fun M2 => ?_)
      refine fr_b (fun v3 => ?_)
      refine fr_wr (by decide) (fun M4 => ?_)
      refine fr_b (fun v5 => ?_)
      refine fr_wr (by decide) (fun M6 => ?_)
      refine fr_b (fun v7 => ?_)
      refine fr_wr (by decide) (fun M8 => ?_)
      exact ih _ _
set_option maxHeartbeats 4000000 in
set_option maxRecDepth 100000 in
theorem wX12_takesLaw_L107  (K171 : Mem → Option (Mem)) (hK171 : ∀ (M : Mem), Fr [(208, none), (209, none), (210, none), (211, none), (212, none), (213, none), (214, none)] rmU M (K171 M)) : ∀ (n : Nat) (y2 : Int32) (M : Mem), Fr [(208, none), (209, none), (210, none), (211, none), (212, none), (213, none), (214, none)] rmU M (fX12_takesLaw_L107 K171 n y2 M) := by
  intro n
  induction n with
  | zero => intro y2 M; exact fr_none
  | succ n ih =>
    intro y2 M
    rw [fX12_takesLaw_L107]
    refine fr_ite ?_ ?_
    · exact hK171 _
    · refine fr_b (fun v10 => ?_)
      refine fr_wr (by decide) (fun M11 => ?_)
      refine fr_b (fun v12 => ?_)
      refine fr_wr (by decide) (fun M13 => ?_)
      exact ih _ _
set_option maxHeartbeats 4000000 in
set_option maxRecDepth 100000 in
theorem wX12_takesLaw (p1 : Int32) (M : Mem) : Fr [(208, none), (209, none), (210, none), (211, none), (212, none), (213, none), (214, none)] rmU M (fX12_takesLaw p1 M) := by
  unfold fX12_takesLaw
  refine wX12_takesLaw_L2 _ _ (fun M9 => ?_) FU _ _
  · refine wX12_takesLaw_L107 _ (fun M14 => ?_) FU _ _
    · refine fr_wr (by decide) (fun M15 => ?_)
      exact fr_some rfl
set_option maxHeartbeats 4000000 in
set_option maxRecDepth 100000 in
theorem wX12_takesOther_L42  (K75 : Mem → Option (Mem)) (z1 : Int32) (z2 : Int32) (hK75 : ∀ (M : Mem), Fr [(198, some 3), (198, some 35), (198, some 37), (198, some 39), (216, none), (217, none), (218, none)] rmU M (K75 M)) : ∀ (n : Nat) (y3 : Int32) (M : Mem), Fr [(198, some 3), (198, some 35), (198, some 37), (198, some 39), (216, none), (217, none), (218, none)] rmU M (fX12_takesOther_L42 K75 z1 z2 n y3 M) := by
  intro n
  induction n with
  | zero => intro y3 M; exact fr_none
  | succ n ih =>
    intro y3 M
    rw [fX12_takesOther_L42]
    refine fr_ite ?_ ?_
    · exact hK75 _
    · refine fr_ite ?_ ?_
      · refine fr_b (fun v1 => ?_)
        refine fr_wr (by decide) (fun M2 => ?_)
        exact ih _ _
      · exact hK75 _
set_option maxHeartbeats 4000000 in
set_option maxRecDepth 100000 in
theorem wX12_takesOther_L77  (K110 : Mem → Option (Mem)) (z1 : Int32) (z2 : Int32) (hK110 : ∀ (M : Mem), Fr [(198, some 3), (198, some 35), (198, some 37), (198, some 39), (216, none), (217, none), (218, none)] rmU M (K110 M)) : ∀ (n : Nat) (y3 : Int32) (M : Mem), Fr [(198, some 3), (198, some 35), (198, some 37), (198, some 39), (216, none), (217, none), (218, none)] rmU M (fX12_takesOther_L77 K110 z1 z2 n y3 M) := by
  intro n
  induction n with
  | zero => intro y3 M; exact fr_none
  | succ n ih =>
    intro y3 M
    rw [fX12_takesOther_L77]
    refine fr_ite ?_ ?_
    · exact hK110 _
    · refine fr_ite ?_ ?_
      · refine fr_b (fun v4 => ?_)
        refine fr_wr (by decide) (fun M5 => ?_)
        exact ih _ _
      · exact hK110 _
set_option maxHeartbeats 4000000 in
set_option maxRecDepth 100000 in
theorem wX12_takesOther_L7   (z2 : Int32)  : ∀ (n : Nat) (y3 : Int32) (M : Mem), Fr [(198, some 3), (198, some 35), (198, some 37), (198, some 39), (216, none), (217, none), (218, none)] rmU M (fX12_takesOther_L7 z2 n y3 M) := by
  intro n
  induction n with
  | zero => intro y3 M; exact fr_none
  | succ n ih =>
    intro y3 M
    rw [fX12_takesOther_L7]
    refine fr_ite ?_ ?_
    · refine fr_mu (by decide) (fun M13 => ?_)
      exact fr_some rfl
    · refine fr_b (fun v14 => ?_)
      refine fr_wr (by decide) (fun M15 => ?_)
      exact ih _ _
set_option maxHeartbeats 4000000 in
set_option maxRecDepth 100000 in
theorem wX12_takesOther (p1 : Int32) (p2 : Int32) (M : Mem) : Fr [(198, some 3), (198, some 35), (198, some 37), (198, some 39), (216, none), (217, none), (218, none)] rmU M (fX12_takesOther p1 p2 M) := by
  unfold fX12_takesOther
  refine fr_ite ?_ ?_
  · refine wX12_takesOther_L7 _ FU _ _
  · refine wX12_takesOther_L42 _ _ _ (fun M3 => ?_) FU _ _
    · refine wX12_takesOther_L77 _ _ _ (fun M6 => ?_) FU _ _
      · refine fr_jn (fun (J7 : (Mem) → Option (Mem)) => ∀ (M8 : Mem), Fr [(198, some 3), (198, some 35), (198, some 37), (198, some 39), (216, none), (217, none), (218, none)] rmU M8 (J7 M8)) (fun M8 => ?_) (fun J7 hJ7 => ?_)
        · refine fr_ite ?_ ?_
          · refine fr_mu (by decide) (fun M10 => ?_)
            refine fr_mu (by decide) (fun M11 => ?_)
            exact fr_some rfl
          · refine fr_mu (by decide) (fun M9 => ?_)
            exact fr_some rfl
        · refine fr_ite ?_ ?_
          · refine fr_mu (by decide) (fun M12 => ?_)
            exact hJ7 _
          · exact hJ7 _
set_option maxHeartbeats 4000000 in
set_option maxRecDepth 100000 in
theorem wX12_text (p1 : Int32) (M : Mem) : Fr [(198, some 0), (198, some 3), (198, some 13), (198, some 14), (198, some 15), (198, some 16), (198, some 17), (198, some 26), (198, some 27), (198, some 28), (198, some 30), (198, some 31), (198, some 32), (198, some 33), (198, some 34), (198, some 35), (198, some 37), (198, some 39), (208, none), (209, none), (210, none), (211, none), (212, none), (213, none), (214, none), (215, none), (216, none), (217, none), (218, none)] rmW M (fX12_text p1 M) := by
  unfold fX12_text
  refine fr_mu (by decide) (fun M1 => ?_)
  refine fr_mu (by decide) (fun M2 => ?_)
  refine fr_mu (by decide) (fun M3 => ?_)
  refine fr_mu (by decide) (fun M4 => ?_)
  refine fr_mu (by decide) (fun M5 => ?_)
  refine fr_mu (by decide) (fun M6 => ?_)
  refine fr_jn (fun (J7 : (Int32) → (Mem) → Option (Int32 × Mem)) => ∀ (a8 : Int32) (M9 : Mem), Fr [(198, some 0), (198, some 3), (198, some 13), (198, some 14), (198, some 15), (198, some 16), (198, some 17), (198, some 26), (198, some 27), (198, some 28), (198, some 30), (198, some 31), (198, some 32), (198, some 33), (198, some 34), (198, some 35), (198, some 37), (198, some 39), (208, none), (209, none), (210, none), (211, none), (212, none), (213, none), (214, none), (215, none), (216, none), (217, none), (218, none)] rmW M9 (J7 a8 M9)) (fun a8 M9 => ?_) (fun J7 hJ7 => ?_)
  · refine fr_mu (by decide) (fun M10 => ?_)
    refine fr_ite ?_ ?_
    · exact fr_some rfl
    · refine fr_ite ?_ ?_
      · refine fr_c (wX12_takesLaw _ _) (by decide) (fun M12 => ?_)
        exact fr_some rfl
      · refine fr_c (wX12_takesOther _ _ _) (by decide) (fun M11 => ?_)
        exact fr_some rfl
  · refine fr_ite ?_ ?_
    · exact hJ7 _ _
    · refine fr_c (wX12_readsText _ _) (by decide) (fun r13 => ?_)
      refine fr_ite ?_ ?_
      · refine fr_mu (by decide) (fun M14 => ?_)
        refine fr_mu (by decide) (fun M15 => ?_)
        exact hJ7 _ _
      · exact hJ7 _ _
set_option maxHeartbeats 4000000 in
set_option maxRecDepth 100000 in
theorem wX12_fault (p1 : Int32) (M : Mem) : Fr [(198, some 0)] rmW M (fX12_fault p1 M) := by
  unfold fX12_fault
  refine fr_mu (by decide) (fun M1 => ?_)
  refine fr_ite ?_ ?_
  · exact fr_some rfl
  · refine fr_ite ?_ ?_
    · exact fr_some rfl
    · exact fr_some rfl
set_option maxHeartbeats 4000000 in
set_option maxRecDepth 100000 in
theorem wX12_of_L62   (z1 : Int32) (M : Mem)  : ∀ (n : Nat) (y3 : Int32) (y4 : Int32), Fr [(198, some 0)] rmW M (fX12_of_L62 z1 M n y3 y4) := by
  intro n
  induction n with
  | zero => intro y3 y4; exact fr_none
  | succ n ih =>
    intro y3 y4
    rw [fX12_of_L62]
    refine fr_ite ?_ ?_
    · exact fr_some rfl
    · refine fr_b (fun v2 => ?_)
      refine fr_jn (fun (J3 : (Int32) → Option (Int32 × Mem)) => ∀ (a4 : Int32), Fr [(198, some 0)] rmW M (J3 a4)) (fun a4 => ?_) (fun J3 hJ3 => ?_)
      · exact ih _ _
      · refine fr_ite ?_ ?_
        · exact hJ3 _
        · refine fr_bnd (fun x5 => ?_)
          exact hJ3 _
set_option maxHeartbeats 4000000 in
set_option maxRecDepth 100000 in
theorem wX12_of (p1 : Int32) (p2 : Int32) (M : Mem) : Fr [(198, some 0)] rmW M (fX12_of p1 p2 M) := by
  unfold fX12_of
  refine fr_mu (by decide) (fun M1 => ?_)
  refine fr_ite ?_ ?_
  · exact fr_some rfl
  · refine fr_ite ?_ ?_
    · refine fr_ite ?_ ?_
      · refine fr_b (fun v6 => ?_)
        exact fr_some rfl
      · refine fr_ite ?_ ?_
        · refine wX12_of_L62 _ _ FU _ _
        · exact fr_some rfl
    · refine fr_b (fun v7 => ?_)
      exact fr_some rfl
set_option maxHeartbeats 4000000 in
set_option maxRecDepth 100000 in
theorem wX11_phraseTold (p1 : Int32) (p2 : Int32) (M : Mem) : Fr [(23, none), (24, none)] rmW M (fX11_phraseTold p1 p2 M) := by
  unfold fX11_phraseTold
  refine fr_ite ?_ ?_
  · exact fr_some rfl
  · refine fr_ite ?_ ?_
    · exact fr_some rfl
    · refine fr_bnd (fun x1 => ?_)
      refine fr_bnd (fun x2 => ?_)
      refine fr_b (fun v3 => ?_)
      refine fr_ite ?_ ?_
      · exact fr_some rfl
      · refine fr_jn (fun (J4 : (Int32) → Option (Int32 × Mem)) => ∀ (t5 : Int32), Fr [(23, none), (24, none)] rmW M (J4 t5)) (fun t5 => ?_) (fun J4 hJ4 => ?_)
        · refine fr_c (wX0_asked _ _ _ _ _ _) (by decide) (fun r6 => ?_)
          exact fr_some rfl
        · refine fr_ite ?_ ?_
          · exact hJ4 _
          · exact hJ4 _
set_option maxHeartbeats 4000000 in
set_option maxRecDepth 100000 in
theorem wX11_deal (p1 : Int32) (p2 : Int32) (M : Mem) : Fr [(23, none), (24, none)] rmW M (fX11_deal p1 p2 M) := by
  unfold fX11_deal
  refine fr_ite ?_ ?_
  · exact fr_some rfl
  · refine fr_swt (fr_all ?_ (fr_all ?_ (fr_all ?_ (fr_all ?_ (fr_all ?_ (fr_all ?_ (fr_all ?_ (fr_all ?_ (fr_all ?_ (true_nil)))))))))) ?_
    · refine fr_b (fun v1 => ?_)
      exact fr_some rfl
    · refine fr_b (fun v2 => ?_)
      exact fr_some rfl
    · refine fr_b (fun v3 => ?_)
      exact fr_some rfl
    · refine fr_b (fun v4 => ?_)
      exact fr_some rfl
    · refine fr_b (fun v5 => ?_)
      refine fr_ite ?_ ?_
      · exact fr_some rfl
      · exact fr_some rfl
    · refine fr_b (fun v6 => ?_)
      refine fr_ite ?_ ?_
      · exact fr_some rfl
      · exact fr_some rfl
    · refine fr_b (fun v7 => ?_)
      exact fr_some rfl
    · refine fr_c (wX0_asked _ _ _ _ _ _) (by decide) (fun r8 => ?_)
      exact fr_some rfl
    · refine fr_b (fun v9 => ?_)
      exact fr_some rfl
    · refine fr_c (wX11_phraseTold _ _ _) (by decide) (fun r10 => ?_)
      exact fr_some rfl
set_option maxHeartbeats 4000000 in
set_option maxRecDepth 100000 in
theorem wX12_deal (p1 : Int32) (p2 : Int32) (M : Mem) : Fr [(198, some 0), (219, none), (220, none)] rmW M (fX12_deal p1 p2 M) := by
  unfold fX12_deal
  refine fr_mu (by decide) (fun M1 => ?_)
  refine fr_ite ?_ ?_
  · exact fr_some rfl
  · refine fr_ite ?_ ?_
    · refine fr_jn (fun (J2 : Option (Int32 × Mem)) => Fr [(198, some 0), (219, none), (220, none)] rmW M1 (J2)) ( ?_) (fun J2 hJ2 => ?_)
      · refine fr_b (fun v3 => ?_)
        exact fr_some rfl
      · refine fr_ite ?_ ?_
        · exact hJ2
        · refine fr_ite ?_ ?_
          · exact hJ2
          · refine fr_ite ?_ ?_
            · refine fr_b (fun v16 => ?_)
              exact fr_some rfl
            · refine fr_ite ?_ ?_
              · refine fr_b (fun v15 => ?_)
                exact fr_some rfl
              · refine fr_jn (fun (J4 : Option (Int32 × Mem)) => Fr [(198, some 0), (219, none), (220, none)] rmW M1 (J4)) ( ?_) (fun J4 hJ4 => ?_)
                · refine fr_b (fun v5 => ?_)
                  refine fr_ite ?_ ?_
                  · exact fr_some rfl
                  · exact fr_some rfl
                · refine fr_ite ?_ ?_
                  · exact hJ4
                  · refine fr_ite ?_ ?_
                    · exact hJ4
                    · refine fr_ite ?_ ?_
                      · refine fr_b (fun v14 => ?_)
                        exact fr_some rfl
                      · refine fr_ite ?_ ?_
                        · refine fr_c (wX12_wipesOf _ _) (by decide) (fun r13 => ?_)
                          exact fr_some rfl
                        · refine fr_ite ?_ ?_
                          · refine fr_b (fun v11 => ?_)
                            refine fr_b (fun v12 => ?_)
                            exact fr_some rfl
                          · refine fr_bnd (fun x6 => ?_)
                            refine fr_ite ?_ ?_
                            · exact fr_some rfl
                            · refine fr_b (fun v7 => ?_)
                              refine fr_ite ?_ ?_
                              · exact fr_some rfl
                              · refine fr_b (fun v8 => ?_)
                                refine fr_ite ?_ ?_
                                · refine fr_c (wX12_costsOn _ _ _ _) (by decide) (fun r9 => ?_)
                                  exact fr_some rfl
                                · refine fr_c (wX12_landsOn _ _ _ _) (by decide) (fun r10 => ?_)
                                  exact fr_some rfl
    · exact fr_some rfl
set_option maxHeartbeats 4000000 in
set_option maxRecDepth 100000 in
theorem wX12_book (p1 : Int32) (p2 : Int32) (M : Mem) : Fr [(198, some 0)] rmW M (fX12_book p1 p2 M) := by
  unfold fX12_book
  refine fr_mu (by decide) (fun M1 => ?_)
  refine fr_b (fun v2 => ?_)
  refine fr_ite ?_ ?_
  · exact fr_some rfl
  · refine fr_ite ?_ ?_
    · exact fr_some rfl
    · refine fr_b (fun v3 => ?_)
      exact fr_some rfl
set_option maxHeartbeats 4000000 in
set_option maxRecDepth 100000 in
theorem wX11_goes_L37  (K61 : Mem → Option (Int32 × Mem)) (z1 : Int32) (hK61 : ∀ (M : Mem), Fr [(12, some 0), (13, none), (14, none), (15, none), (16, none), (23, none), (24, none), (168, some 0), (168, some 1), (168, some 2), (168, some 3), (168, some 4), (168, some 5), (169, none), (170, none), (171, none), (172, none), (173, none), (174, none), (175, none), (176, none), (177, none)] rmW M (K61 M)) : ∀ (n : Nat) (y3 : Int32) (M : Mem), Fr [(12, some 0), (13, none), (14, none), (15, none), (16, none), (23, none), (24, none), (168, some 0), (168, some 1), (168, some 2), (168, some 3), (168, some 4), (168, some 5), (169, none), (170, none), (171, none), (172, none), (173, none), (174, none), (175, none), (176, none), (177, none)] rmW M (fX11_goes_L37 K61 z1 n y3 M) := by
  intro n
  induction n with
  | zero => intro y3 M; exact fr_none
  | succ n ih =>
    intro y3 M
    rw [fX11_goes_L37]
    refine fr_ite ?_ ?_
    · exact hK61 _
    · refine fr_c (wX0_goDay _ _ _) (by decide) (fun r2 => ?_)
      exact ih _ _
set_option maxHeartbeats 4000000 in
set_option maxRecDepth 100000 in
theorem wX11_goes (p1 : Int32) (p2 : Int32) (M : Mem) : Fr [(12, some 0), (13, none), (14, none), (15, none), (16, none), (23, none), (24, none), (168, some 0), (168, some 1), (168, some 2), (168, some 3), (168, some 4), (168, some 5), (169, none), (170, none), (171, none), (172, none), (173, none), (174, none), (175, none), (176, none), (177, none)] rmW M (fX11_goes p1 p2 M) := by
  unfold fX11_goes
  refine fr_ite ?_ ?_
  · exact fr_some rfl
  · refine fr_ite ?_ ?_
    · exact fr_some rfl
    · refine fr_c (wX9_copyFrom _ _ _) (by decide) (fun M1 => ?_)
      refine wX11_goes_L37 _ _ (fun M3 => ?_) FU _ _
      · refine fr_swt (fr_all ?_ (fr_all ?_ (fr_all ?_ (true_nil)))) ?_
        · refine fr_b (fun v4 => ?_)
          exact fr_some rfl
        · refine fr_b (fun v5 => ?_)
          exact fr_some rfl
        · refine fr_b (fun v6 => ?_)
          exact fr_some rfl
        · refine fr_b (fun v7 => ?_)
          exact fr_some rfl
set_option maxHeartbeats 4000000 in
set_option maxRecDepth 100000 in
theorem wX12_thinks_L2    : ∀ (n : Nat) (y1 : Int32) (M : Mem), Fr [(198, some 5), (201, none)] rmU M (fX12_thinks_L2 n y1 M) := by
  intro n
  induction n with
  | zero => intro y1 M; exact fr_none
  | succ n ih =>
    intro y1 M
    rw [fX12_thinks_L2]
    refine fr_ite ?_ ?_
    · refine fr_mu (by decide) (fun M1 => ?_)
      exact fr_some rfl
    · refine fr_b (fun v2 => ?_)
      refine fr_wr (by decide) (fun M3 => ?_)
      exact ih _ _
set_option maxHeartbeats 4000000 in
set_option maxRecDepth 100000 in
theorem wX12_thinks  (M : Mem) : Fr [(198, some 5), (201, none)] rmU M (fX12_thinks M) := by
  unfold fX12_thinks
  refine wX12_thinks_L2  FU _ _
set_option maxHeartbeats 4000000 in
set_option maxRecDepth 100000 in
theorem wX12_endsThought_L2    : ∀ (n : Nat) (y1 : Int32) (M : Mem), Fr [(198, some 5), (199, none)] rmU M (fX12_endsThought_L2 n y1 M) := by
  intro n
  induction n with
  | zero => intro y1 M; exact fr_none
  | succ n ih =>
    intro y1 M
    rw [fX12_endsThought_L2]
    refine fr_ite ?_ ?_
    · refine fr_mu (by decide) (fun M1 => ?_)
      exact fr_some rfl
    · refine fr_b (fun v2 => ?_)
      refine fr_wr (by decide) (fun M3 => ?_)
      exact ih _ _
set_option maxHeartbeats 4000000 in
set_option maxRecDepth 100000 in
theorem wX12_endsThought  (M : Mem) : Fr [(198, some 5), (199, none)] rmU M (fX12_endsThought M) := by
  unfold fX12_endsThought
  refine wX12_endsThought_L2  FU _ _
set_option maxHeartbeats 4000000 in
set_option maxRecDepth 100000 in
theorem wX12_goes_L34  (K50 : Mem → Option (Int32 × Mem)) (z1 : Int32) (hK50 : ∀ (M : Mem), Fr [(198, some 0), (198, some 5), (199, none), (201, none), (205, none), (219, none), (220, none)] rmW M (K50 M)) : ∀ (n : Nat) (y3 : Int32) (M : Mem), Fr [(198, some 0), (198, some 5), (199, none), (201, none), (205, none), (219, none), (220, none)] rmW M (fX12_goes_L34 K50 z1 n y3 M) := by
  intro n
  induction n with
  | zero => intro y3 M; exact fr_none
  | succ n ih =>
    intro y3 M
    rw [fX12_goes_L34]
    refine fr_ite ?_ ?_
    · exact hK50 _
    · refine fr_c (wX12_goesBy _) (by decide) (fun r3 => ?_)
      exact ih _ _
set_option maxHeartbeats 4000000 in
set_option maxRecDepth 100000 in
theorem wX12_goes (p1 : Int32) (p2 : Int32) (M : Mem) : Fr [(198, some 0), (198, some 5), (199, none), (201, none), (205, none), (219, none), (220, none)] rmW M (fX12_goes p1 p2 M) := by
  unfold fX12_goes
  refine fr_mu (by decide) (fun M1 => ?_)
  refine fr_ite ?_ ?_
  · exact fr_some rfl
  · refine fr_ite ?_ ?_
    · exact fr_some rfl
    · refine fr_c (wX12_thinks _) (by decide) (fun M2 => ?_)
      refine wX12_goes_L34 _ _ (fun M4 => ?_) FU _ _
      · refine fr_jn (fun (J5 : (Int32) → Option (Int32 × Mem)) => ∀ (t6 : Int32), Fr [(198, some 0), (198, some 5), (199, none), (201, none), (205, none), (219, none), (220, none)] rmW M4 (J5 t6)) (fun t6 => ?_) (fun J5 hJ5 => ?_)
        · refine fr_c (wX12_endsThought _) (by decide) (fun M7 => ?_)
          exact fr_some rfl
        · refine fr_ite ?_ ?_
          · refine fr_b (fun v12 => ?_)
            refine fr_b (fun v13 => ?_)
            exact hJ5 _
          · refine fr_ite ?_ ?_
            · refine fr_b (fun v11 => ?_)
              exact hJ5 _
            · refine fr_ite ?_ ?_
              · refine fr_b (fun v9 => ?_)
                refine fr_b (fun v10 => ?_)
                exact hJ5 _
              · refine fr_b (fun v8 => ?_)
                exact hJ5 _
set_option maxHeartbeats 4000000 in
set_option maxRecDepth 100000 in
theorem wX11_holds_L32   (z1 : Int32)  : ∀ (n : Nat) (y2 : Int32) (M : Mem), Fr [(12, some 0), (13, none), (14, none), (15, none), (16, none), (23, none), (24, none), (168, some 0), (168, some 1), (168, some 2), (168, some 3), (168, some 4), (168, some 5), (169, none), (170, none), (171, none), (172, none), (173, none), (174, none), (175, none), (176, none), (177, none)] rmW M (fX11_holds_L32 z1 n y2 M) := by
  intro n
  induction n with
  | zero => intro y2 M; exact fr_none
  | succ n ih =>
    intro y2 M
    rw [fX11_holds_L32]
    refine fr_ite ?_ ?_
    · exact fr_some rfl
    · refine fr_b (fun v2 => ?_)
      refine fr_ite ?_ ?_
      · exact fr_some rfl
      · refine fr_c (wX0_goDay _ _ _) (by decide) (fun r3 => ?_)
        exact ih _ _
set_option maxHeartbeats 4000000 in
set_option maxRecDepth 100000 in
theorem wX11_holds (p1 : Int32) (M : Mem) : Fr [(12, some 0), (13, none), (14, none), (15, none), (16, none), (23, none), (24, none), (168, some 0), (168, some 1), (168, some 2), (168, some 3), (168, some 4), (168, some 5), (169, none), (170, none), (171, none), (172, none), (173, none), (174, none), (175, none), (176, none), (177, none)] rmW M (fX11_holds p1 M) := by
  unfold fX11_holds
  refine fr_ite ?_ ?_
  · exact fr_some rfl
  · refine fr_c (wX9_copyFrom _ _ _) (by decide) (fun M1 => ?_)
    refine wX11_holds_L32 _ FU _ _
set_option maxHeartbeats 4000000 in
set_option maxRecDepth 100000 in
theorem wX12_holds_L21  (K52 : Int32 → Mem → Option (Int32 × Mem)) (z1 : Int32) (hK52 : ∀ (e2 : Int32) (M : Mem), Fr [(198, some 0), (198, some 5), (199, none), (201, none), (205, none), (219, none), (220, none)] rmW M (K52 e2 M)) : ∀ (n : Nat) (y2 : Int32) (M : Mem), Fr [(198, some 0), (198, some 5), (199, none), (201, none), (205, none), (219, none), (220, none)] rmW M (fX12_holds_L21 K52 z1 n y2 M) := by
  intro n
  induction n with
  | zero => intro y2 M; exact fr_none
  | succ n ih =>
    intro y2 M
    rw [fX12_holds_L21]
    refine fr_ite ?_ ?_
    · exact hK52 _ _
    · refine fr_b (fun v3 => ?_)
      refine fr_ite ?_ ?_
      · exact hK52 _ _
      · refine fr_c (wX12_goesBy _) (by decide) (fun r4 => ?_)
        refine fr_bnd (fun x5 => ?_)
        exact ih _ _
set_option maxHeartbeats 4000000 in
set_option maxRecDepth 100000 in
theorem wX12_holds (p1 : Int32) (M : Mem) : Fr [(198, some 0), (198, some 5), (199, none), (201, none), (205, none), (219, none), (220, none)] rmW M (fX12_holds p1 M) := by
  unfold fX12_holds
  refine fr_mu (by decide) (fun M1 => ?_)
  refine fr_ite ?_ ?_
  · exact fr_some rfl
  · refine fr_c (wX12_thinks _) (by decide) (fun M2 => ?_)
    refine wX12_holds_L21 _ _ (fun e6 M7 => ?_) FU _ _
    · refine fr_c (wX12_endsThought _) (by decide) (fun M8 => ?_)
      refine fr_ite ?_ ?_
      · exact fr_some rfl
      · exact fr_some rfl
set_option maxHeartbeats 4000000 in
set_option maxRecDepth 100000 in
theorem wX12_deals (p1 : Int32) (p2 : Int32) (M : Mem) : Fr [(198, some 0)] rmW M (fX12_deals p1 p2 M) := by
  unfold fX12_deals
  refine fr_mu (by decide) (fun M1 => ?_)
  refine fr_ite ?_ ?_
  · exact fr_some rfl
  · refine fr_ite ?_ ?_
    · exact fr_some rfl
    · refine fr_ite ?_ ?_
      · exact fr_some rfl
      · refine fr_b (fun v2 => ?_)
        refine fr_b (fun v3 => ?_)
        refine fr_b (fun v4 => ?_)
        refine fr_b (fun v5 => ?_)
        exact fr_some rfl
set_option maxHeartbeats 4000000 in
set_option maxRecDepth 100000 in
theorem wX7_tell (k0 : Nat) (p1 : Int32) (M : Mem) : Fr [((k0 + 1), none), (k0, some 0)] rmW M (fX7_tell k0 p1 M) := by
  unfold fX7_tell
  refine fr_ite ?_ ?_
  · refine fr_mu (by simp) (fun M5 => ?_)
    exact fr_some rfl
  · refine fr_ite ?_ ?_
    · exact fr_some rfl
    · refine fr_ite ?_ ?_
      · exact fr_some rfl
      · refine fr_jn (fun (J1 : Option (Int32 × Mem)) => Fr [((k0 + 1), none), (k0, some 0)] rmW M (J1)) ( ?_) (fun J1 hJ1 => ?_)
        · refine fr_wr (by simp) (fun M2 => ?_)
          refine fr_mu (by simp) (fun M3 => ?_)
          exact fr_some rfl
        · refine fr_ite ?_ ?_
          · exact hJ1
          · refine fr_b (fun v4 => ?_)
            refine fr_ite ?_ ?_
            · exact hJ1
            · exact fr_some rfl
set_option maxHeartbeats 4000000 in
set_option maxRecDepth 100000 in
theorem wX11_jump (p1 : Int32) (M : Mem) : Fr [(41, some 0), (42, none)] rmW M (fX11_jump p1 M) := by
  unfold fX11_jump
  refine fr_c (wX7_tell _ _ _) (by decide) (fun r1 => ?_)
  exact fr_some rfl
set_option maxHeartbeats 4000000 in
set_option maxRecDepth 100000 in
theorem wX12_jump (p1 : Int32) (M : Mem) : Fr [(198, some 0), (198, some 43), (221, none)] rmW M (fX12_jump p1 M) := by
  unfold fX12_jump
  refine fr_mu (by decide) (fun M1 => ?_)
  refine fr_ite ?_ ?_
  · refine fr_mu (by decide) (fun M4 => ?_)
    exact fr_some rfl
  · refine fr_ite ?_ ?_
    · exact fr_some rfl
    · refine fr_ite ?_ ?_
      · exact fr_some rfl
      · refine fr_wr (by decide) (fun M2 => ?_)
        refine fr_mu (by decide) (fun M3 => ?_)
        exact fr_some rfl
set_option maxHeartbeats 4000000 in
set_option maxRecDepth 100000 in
theorem wX10_fewestJumps_L42  (K91 : Mem → Option (Int32 × Mem)) (z1 : Int32) (hK91 : ∀ (M : Mem), Fr [(50, none)] rmW M (K91 M)) : ∀ (n : Nat) (y2 : Int32) (M : Mem), Fr [(50, none)] rmW M (fX10_fewestJumps_L42 K91 z1 n y2 M) := by
  intro n
  induction n with
  | zero => intro y2 M; exact fr_none
  | succ n ih =>
    intro y2 M
    rw [fX10_fewestJumps_L42]
    refine fr_ite ?_ ?_
    · exact hK91 _
    · refine fr_b (fun v3 => ?_)
      refine fr_jn (fun (J4 : (Mem) → Option (Int32 × Mem)) => ∀ (M5 : Mem), Fr [(50, none)] rmW M5 (J4 M5)) (fun M5 => ?_) (fun J4 hJ4 => ?_)
      · exact ih _ _
      · refine fr_ite ?_ ?_
        · exact hJ4 _
        · refine fr_b (fun v6 => ?_)
          refine fr_b (fun v7 => ?_)
          refine fr_wr (by decide) (fun M8 => ?_)
          exact hJ4 _
set_option maxHeartbeats 4000000 in
set_option maxRecDepth 100000 in
theorem wX10_fewestJumps_L21  (K97 : Mem → Option (Int32 × Mem)) (hK97 : ∀ (M : Mem), Fr [(50, none)] rmW M (K97 M)) : ∀ (n : Nat) (y1 : Int32) (M : Mem), Fr [(50, none)] rmW M (fX10_fewestJumps_L21 K97 n y1 M) := by
  intro n
  induction n with
  | zero => intro y1 M; exact fr_none
  | succ n ih =>
    intro y1 M
    rw [fX10_fewestJumps_L21]
    refine fr_ite ?_ ?_
    · exact hK97 _
    · refine fr_wr (by decide) (fun M2 => ?_)
      refine wX10_fewestJumps_L42 _ _ (fun M9 => ?_) FU _ _
      · exact ih _ _
set_option maxHeartbeats 4000000 in
set_option maxRecDepth 100000 in
theorem wX10_fewestJumps  (M : Mem) : Fr [(50, none)] rmW M (fX10_fewestJumps M) := by
  unfold fX10_fewestJumps
  refine fr_ite ?_ ?_
  · refine fr_wr (by decide) (fun M1 => ?_)
    refine wX10_fewestJumps_L21 _ (fun M10 => ?_) FU _ _
    · refine fr_b (fun v11 => ?_)
      refine fr_ite ?_ ?_
      · exact fr_some rfl
      · exact fr_some rfl
  · exact fr_some rfl
set_option maxHeartbeats 4000000 in
set_option maxRecDepth 100000 in
theorem wX11_jumps (p1 : Int32) (M : Mem) : Fr [(50, none)] rmW M (fX11_jumps p1 M) := by
  unfold fX11_jumps
  refine fr_ite ?_ ?_
  · refine fr_c (wX10_fewestJumps _) (by decide) (fun r2 => ?_)
    exact fr_some rfl
  · refine fr_ite ?_ ?_
    · refine fr_b (fun v1 => ?_)
      exact fr_some rfl
    · exact fr_some rfl
set_option maxHeartbeats 4000000 in
set_option maxRecDepth 100000 in
theorem wX12_jumps_L56  (K107 : Mem → Option (Int32 × Mem)) (z3 : Int32) (hK107 : ∀ (M : Mem), Fr [(198, some 0), (222, none)] rmW M (K107 M)) : ∀ (n : Nat) (y4 : Int32) (M : Mem), Fr [(198, some 0), (222, none)] rmW M (fX12_jumps_L56 K107 z3 n y4 M) := by
  intro n
  induction n with
  | zero => intro y4 M; exact fr_none
  | succ n ih =>
    intro y4 M
    rw [fX12_jumps_L56]
    refine fr_ite ?_ ?_
    · exact hK107 _
    · refine fr_b (fun v5 => ?_)
      refine fr_jn (fun (J6 : (Mem) → Option (Int32 × Mem)) => ∀ (M7 : Mem), Fr [(198, some 0), (222, none)] rmW M7 (J6 M7)) (fun M7 => ?_) (fun J6 hJ6 => ?_)
      · exact ih _ _
      · refine fr_ite ?_ ?_
        · exact hJ6 _
        · refine fr_b (fun v8 => ?_)
          refine fr_b (fun v9 => ?_)
          refine fr_wr (by decide) (fun M10 => ?_)
          exact hJ6 _
set_option maxHeartbeats 4000000 in
set_option maxRecDepth 100000 in
theorem wX12_jumps_L28  (K127 : Int32 → Mem → Option (Int32 × Mem)) (hK127 : ∀ (e2 : Int32) (M : Mem), Fr [(198, some 0), (222, none)] rmW M (K127 e2 M)) : ∀ (n : Nat) (y2 : Int32) (y3 : Int32) (M : Mem), Fr [(198, some 0), (222, none)] rmW M (fX12_jumps_L28 K127 n y2 y3 M) := by
  intro n
  induction n with
  | zero => intro y2 y3 M; exact fr_none
  | succ n ih =>
    intro y2 y3 M
    rw [fX12_jumps_L28]
    refine fr_ite ?_ ?_
    · exact hK127 _ _
    · refine fr_jn (fun (J2 : (Int32) → Option (Int32 × Mem)) => ∀ (t3 : Int32), Fr [(198, some 0), (222, none)] rmW M (J2 t3)) (fun t3 => ?_) (fun J2 hJ2 => ?_)
      · refine fr_wr (by decide) (fun M4 => ?_)
        refine wX12_jumps_L56 _ _ (fun M11 => ?_) FU _ _
        · refine fr_b (fun v12 => ?_)
          refine fr_jn (fun (J13 : (Int32) → Option (Int32 × Mem)) => ∀ (a14 : Int32), Fr [(198, some 0), (222, none)] rmW M11 (J13 a14)) (fun a14 => ?_) (fun J13 hJ13 => ?_)
          · exact ih _ _ _
          · refine fr_ite ?_ ?_
            · exact hJ13 _
            · exact hJ13 _
      · refine fr_ite ?_ ?_
        · exact hJ2 _
        · exact hJ2 _
set_option maxHeartbeats 4000000 in
set_option maxRecDepth 100000 in
theorem wX12_jumps (p1 : Int32) (M : Mem) : Fr [(198, some 0), (222, none)] rmW M (fX12_jumps p1 M) := by
  unfold fX12_jumps
  refine fr_mu (by decide) (fun M1 => ?_)
  refine fr_ite ?_ ?_
  · exact fr_some rfl
  · refine fr_ite ?_ ?_
    · exact fr_some rfl
    · refine wX12_jumps_L28 _ (fun e15 M16 => ?_) FU _ _ _
      · refine fr_ite ?_ ?_
        · exact fr_some rfl
        · refine fr_b (fun v17 => ?_)
          refine fr_ite ?_ ?_
          · exact fr_some rfl
          · refine fr_b (fun v18 => ?_)
            exact fr_some rfl
set_option maxHeartbeats 4000000 in
set_option maxRecDepth 100000 in
theorem wh_X5_walksFrom (rX5_walksFrom : Int32 → Int32 → Int32 → Mem → Option (Int32 × Mem)) (hwX5_walksFrom : ∀ (p1 : Int32) (p2 : Int32) (p3 : Int32) (M : Mem), Fr [(196, none)] rmW M (rX5_walksFrom p1 p2 p3 M)) (p1 : Int32) (p2 : Int32) (p3 : Int32) (M : Mem) : Fr [(196, none)] rmW M (hX5_walksFrom rX5_walksFrom p1 p2 p3 M) := by
  unfold hX5_walksFrom
  refine fr_ite ?_ ?_
  · exact fr_some rfl
  · refine fr_ite ?_ ?_
    · exact fr_some rfl
    · refine fr_b (fun v1 => ?_)
      refine fr_ite ?_ ?_
      · refine fr_ite ?_ ?_
        · refine fr_wr (by decide) (fun M2 => ?_)
          refine fr_c (hwX5_walksFrom _ _ _ _) (by decide) (fun r3 => ?_)
          refine fr_c (hwX5_walksFrom _ _ _ _) (by decide) (fun r4 => ?_)
          refine fr_c (hwX5_walksFrom _ _ _ _) (by decide) (fun r5 => ?_)
          refine fr_c (hwX5_walksFrom _ _ _ _) (by decide) (fun r6 => ?_)
          refine fr_bnd (fun x7 => ?_)
          refine fr_wr (by decide) (fun M8 => ?_)
          exact fr_some rfl
        · refine fr_ite ?_ ?_
          · exact fr_some rfl
          · refine fr_ite ?_ ?_
            · exact fr_some rfl
            · exact fr_some rfl
      · exact fr_some rfl
theorem wX5_walksFrom : ∀ (n : Nat) (p1 : Int32) (p2 : Int32) (p3 : Int32) (M : Mem), Fr [(196, none)] rmW M (fX5_walksFrom n p1 p2 p3 M)
  | 0 => fun _ _ _ _ => fr_none
  | n + 1 => fun p1 p2 p3 M => wh_X5_walksFrom _ (wX5_walksFrom n) p1 p2 p3 M
set_option maxHeartbeats 4000000 in
set_option maxRecDepth 100000 in
theorem wX5_walksTo (p1 : Int32) (p2 : Int32) (M : Mem) : Fr [(196, none)] rmW M (fX5_walksTo p1 p2 M) := by
  unfold fX5_walksTo
  refine fr_c (wX5_walksFrom RU _ _ _ _) (by decide) (fun r1 => ?_)
  exact fr_some rfl
set_option maxHeartbeats 4000000 in
set_option maxRecDepth 100000 in
theorem wX11_walks (p1 : Int32) (p2 : Int32) (p3 : Int32) (M : Mem) : Fr [(196, none)] rmW M (fX11_walks p1 p2 p3 M) := by
  unfold fX11_walks
  refine fr_ite ?_ ?_
  · exact fr_some rfl
  · refine fr_ite ?_ ?_
    · refine fr_c (wX5_walksTo _ _ _) (by decide) (fun r2 => ?_)
      exact fr_some rfl
    · refine fr_ite ?_ ?_
      · exact fr_some rfl
      · refine fr_ite ?_ ?_
        · exact fr_some rfl
        · refine fr_c (wX5_walksTo _ _ _) (by decide) (fun r1 => ?_)
          exact fr_some rfl
set_option maxHeartbeats 4000000 in
set_option maxRecDepth 100000 in
theorem wX12_walkEnds_L69  (K96 : Option (Int32 × Mem)) (z4 : Int32) (z5 : Int32) (M : Mem) (hK96 : Fr [(223, none)] rmW M (K96)) : ∀ (n : Nat) (y7 : Int32), Fr [(223, none)] rmW M (fX12_walkEnds_L69 K96 z4 z5 M n y7) := by
  intro n
  induction n with
  | zero => intro y7; exact fr_none
  | succ n ih =>
    intro y7
    rw [fX12_walkEnds_L69]
    refine fr_ite ?_ ?_
    · exact hK96
    · refine fr_b (fun v6 => ?_)
      refine fr_ite ?_ ?_
      · exact fr_some rfl
      · exact ih _
set_option maxHeartbeats 4000000 in
set_option maxRecDepth 100000 in
theorem wX12_walkEnds_L18   (z1 : Int32)  : ∀ (n : Nat) (y3 : Int32) (y4 : Int32) (y5 : Int32) (M : Mem), Fr [(223, none)] rmW M (fX12_walkEnds_L18 z1 n y3 y4 y5 M) := by
  intro n
  induction n with
  | zero => intro y3 y4 y5 M; exact fr_none
  | succ n ih =>
    intro y3 y4 y5 M
    rw [fX12_walkEnds_L18]
    refine fr_ite ?_ ?_
    · exact fr_some rfl
    · refine fr_bnd (fun x2 => ?_)
      refine fr_jn (fun (J3 : (Int32) → Option (Int32 × Mem)) => ∀ (t4 : Int32), Fr [(223, none)] rmW M (J3 t4)) (fun t4 => ?_) (fun J3 hJ3 => ?_)
      · refine fr_bnd (fun x5 => ?_)
        refine wX12_walkEnds_L69 _ _ _ _ (?_) FU _
        · refine fr_wr (by decide) (fun M7 => ?_)
          refine fr_bnd (fun x8 => ?_)
          exact ih _ _ _ _
      · refine fr_ite ?_ ?_
        · exact hJ3 _
        · refine fr_ite ?_ ?_
          · exact hJ3 _
          · refine fr_ite ?_ ?_
            · exact hJ3 _
            · exact hJ3 _
set_option maxHeartbeats 4000000 in
set_option maxRecDepth 100000 in
theorem wX12_walkEnds (p1 : Int32) (p2 : Int32) (M : Mem) : Fr [(223, none)] rmW M (fX12_walkEnds p1 p2 M) := by
  unfold fX12_walkEnds
  refine fr_wr (by decide) (fun M1 => ?_)
  refine wX12_walkEnds_L18 _ FU _ _ _ _
set_option maxHeartbeats 4000000 in
set_option maxRecDepth 100000 in
theorem wX12_walks_L66   (z1 : Int32) (z2 : Int32) (z3 : Int32) (z4 : Int32)  : ∀ (n : Nat) (y5 : Int32) (y6 : Int32) (M : Mem), Fr [(198, some 0), (223, none)] rmW M (fX12_walks_L66 z1 z2 z3 z4 n y5 y6 M) := by
  intro n
  induction n with
  | zero => intro y5 y6 M; exact fr_none
  | succ n ih =>
    intro y5 y6 M
    rw [fX12_walks_L66]
    refine fr_ite ?_ ?_
    · exact fr_some rfl
    · refine fr_c (wX12_walkEnds _ _ _) (by decide) (fun r5 => ?_)
      refine fr_jn (fun (J6 : (Int32) → Option (Int32 × Mem)) => ∀ (a7 : Int32), Fr [(198, some 0), (223, none)] rmW r5.2 (J6 a7)) (fun a7 => ?_) (fun J6 hJ6 => ?_)
      · exact ih _ _ _
      · refine fr_ite ?_ ?_
        · exact hJ6 _
        · refine fr_jn (fun (J8 : Option (Int32 × Mem)) => Fr [(198, some 0), (223, none)] rmW r5.2 (J8)) ( ?_) (fun J8 hJ8 => ?_)
          · refine fr_bnd (fun x9 => ?_)
            exact hJ6 _
          · refine fr_ite ?_ ?_
            · refine fr_ite ?_ ?_
              · exact hJ8
              · exact hJ6 _
            · exact hJ8
set_option maxHeartbeats 4000000 in
set_option maxRecDepth 100000 in
theorem wX12_walks (p1 : Int32) (p2 : Int32) (p3 : Int32) (M : Mem) : Fr [(198, some 0), (223, none)] rmW M (fX12_walks p1 p2 p3 M) := by
  unfold fX12_walks
  refine fr_mu (by decide) (fun M1 => ?_)
  refine fr_jn (fun (J2 : (Int32) → Option (Int32 × Mem)) => ∀ (t3 : Int32), Fr [(198, some 0), (223, none)] rmW M1 (J2 t3)) (fun t3 => ?_) (fun J2 hJ2 => ?_)
  · refine fr_ite ?_ ?_
    · exact fr_some rfl
    · refine fr_jn (fun (J4 : Option (Int32 × Mem)) => Fr [(198, some 0), (223, none)] rmW M1 (J4)) ( ?_) (fun J4 hJ4 => ?_)
      · refine wX12_walks_L66 _ _ _ _ FU _ _ _
      · refine fr_ite ?_ ?_
        · refine fr_ite ?_ ?_
          · exact fr_some rfl
          · refine fr_ite ?_ ?_
            · exact fr_some rfl
            · exact hJ4
        · exact hJ4
  · refine fr_ite ?_ ?_
    · exact hJ2 _
    · exact hJ2 _
set_option maxHeartbeats 4000000 in
set_option maxRecDepth 100000 in
theorem wX12_apart_L30  (K52 : Option (Int32 × Mem)) (z1 : Int32) (M : Mem) (hK52 : Fr [(198, some 0)] rmW M (K52)) : ∀ (n : Nat) (y3 : Int32), Fr [(198, some 0)] rmW M (fX12_apart_L30 K52 z1 M n y3) := by
  intro n
  induction n with
  | zero => intro y3; exact fr_none
  | succ n ih =>
    intro y3
    rw [fX12_apart_L30]
    refine fr_ite ?_ ?_
    · exact hK52
    · refine fr_ite ?_ ?_
      · exact fr_some rfl
      · exact ih _
set_option maxHeartbeats 4000000 in
set_option maxRecDepth 100000 in
theorem wX12_apart_L57  (K103 : Int32 → Int32 → Option (Int32 × Mem)) (z1 : Int32) (M : Mem) (hK103 : ∀ (e3 : Int32) (e4 : Int32), Fr [(198, some 0)] rmW M (K103 e3 e4)) : ∀ (n : Nat) (y3 : Int32) (y4 : Int32), Fr [(198, some 0)] rmW M (fX12_apart_L57 K103 z1 M n y3 y4) := by
  intro n
  induction n with
  | zero => intro y3 y4; exact fr_none
  | succ n ih =>
    intro y3 y4
    rw [fX12_apart_L57]
    refine fr_ite ?_ ?_
    · exact hK103 _ _
    · refine fr_ite ?_ ?_
      · refine fr_bnd (fun x2 => ?_)
        exact ih _ _
      · refine fr_bnd (fun x3 => ?_)
        exact ih _ _
set_option maxHeartbeats 4000000 in
set_option maxRecDepth 100000 in
theorem wX12_apart (p1 : Int32) (p2 : Int32) (M : Mem) : Fr [(198, some 0)] rmW M (fX12_apart p1 p2 M) := by
  unfold fX12_apart
  refine fr_mu (by decide) (fun M1 => ?_)
  refine fr_ite ?_ ?_
  · exact fr_some rfl
  · refine fr_ite ?_ ?_
    · exact fr_some rfl
    · refine wX12_apart_L30 _ _ _ (?_) FU _
      · refine wX12_apart_L57 _ _ _ (fun e4 e5 => ?_) FU _ _
        · refine fr_ite ?_ ?_
          · exact fr_some rfl
          · exact fr_some rfl
set_option maxHeartbeats 4000000 in
set_option maxRecDepth 100000 in
theorem wX12_corners_L54  (K82 : Int32 → Option (Int32 × Mem)) (z4 : Int32) (z5 : Int32) (M : Mem) (hK82 : ∀ (e6 : Int32), Fr [(198, some 0)] rmW M (K82 e6)) : ∀ (n : Nat) (y6 : Int32), Fr [(198, some 0)] rmW M (fX12_corners_L54 K82 z4 z5 M n y6) := by
  intro n
  induction n with
  | zero => intro y6; exact fr_none
  | succ n ih =>
    intro y6
    rw [fX12_corners_L54]
    refine fr_ite ?_ ?_
    · exact hK82 _
    · refine fr_bnd (fun x2 => ?_)
      exact ih _
set_option maxHeartbeats 4000000 in
set_option maxRecDepth 100000 in
theorem wX12_corners_L44  (K139 : Int32 → Option (Int32 × Mem)) (z1 : Int32) (z2 : Int32) (z4 : Int32) (M : Mem) (hK139 : ∀ (e3 : Int32), Fr [(198, some 0)] rmW M (K139 e3)) : ∀ (n : Nat) (y3 : Int32) (y5 : Int32), Fr [(198, some 0)] rmW M (fX12_corners_L44 K139 z1 z2 z4 M n y3 y5) := by
  intro n
  induction n with
  | zero => intro y3 y5; exact fr_none
  | succ n ih =>
    intro y3 y5
    rw [fX12_corners_L44]
    refine fr_ite ?_ ?_
    · exact hK139 _
    · refine wX12_corners_L54 _ _ _ _ (fun e3 => ?_) FU _
      · refine fr_jn (fun (J4 : (Int32) → Option (Int32 × Mem)) => ∀ (a5 : Int32), Fr [(198, some 0)] rmW M (J4 a5)) (fun a5 => ?_) (fun J4 hJ4 => ?_)
        · exact ih _ _
        · refine fr_ite ?_ ?_
          · refine fr_jn (fun (J6 : Option (Int32 × Mem)) => Fr [(198, some 0)] rmW M (J6)) ( ?_) (fun J6 hJ6 => ?_)
            · refine fr_bnd (fun x7 => ?_)
              exact hJ4 _
            · refine fr_ite ?_ ?_
              · refine fr_ite ?_ ?_
                · exact hJ4 _
                · exact hJ6
              · refine fr_ite ?_ ?_
                · exact hJ6
                · exact hJ4 _
          · exact hJ4 _
set_option maxHeartbeats 4000000 in
set_option maxRecDepth 100000 in
theorem wX12_corners_L34   (z1 : Int32) (z2 : Int32) (M : Mem)  : ∀ (n : Nat) (y3 : Int32) (y4 : Int32), Fr [(198, some 0)] rmW M (fX12_corners_L34 z1 z2 M n y3 y4) := by
  intro n
  induction n with
  | zero => intro y3 y4; exact fr_none
  | succ n ih =>
    intro y3 y4
    rw [fX12_corners_L34]
    refine fr_ite ?_ ?_
    · exact fr_some rfl
    · refine wX12_corners_L44 _ _ _ _ _ (fun e8 => ?_) FU _ _
      · exact ih _ _
set_option maxHeartbeats 4000000 in
set_option maxRecDepth 100000 in
theorem wX12_corners (p1 : Int32) (p2 : Int32) (M : Mem) : Fr [(198, some 0)] rmW M (fX12_corners p1 p2 M) := by
  unfold fX12_corners
  refine fr_mu (by decide) (fun M1 => ?_)
  refine fr_ite ?_ ?_
  · exact fr_some rfl
  · refine fr_ite ?_ ?_
    · exact fr_some rfl
    · refine wX12_corners_L34 _ _ _ FU _ _
set_option maxHeartbeats 4000000 in
set_option maxRecDepth 100000 in
theorem wX5_chainOfParts_L2  (K24 : Mem → Option (Int32 × Mem)) (hK24 : ∀ (M : Mem), Fr [(197, none)] rmW M (K24 M)) : ∀ (n : Nat) (y3 : Int32) (M : Mem), Fr [(197, none)] rmW M (fX5_chainOfParts_L2 K24 n y3 M) := by
  intro n
  induction n with
  | zero => intro y3 M; exact fr_none
  | succ n ih =>
    intro y3 M
    rw [fX5_chainOfParts_L2]
    refine fr_ite ?_ ?_
    · exact hK24 _
    · refine fr_wr (by decide) (fun M1 => ?_)
      exact ih _ _
set_option maxHeartbeats 4000000 in
set_option maxRecDepth 100000 in
theorem wX5_chainOfParts_L29  (K67 : Int32 → Int32 → Mem → Option (Int32 × Mem)) (hK67 : ∀ (e3 : Int32) (e4 : Int32) (M : Mem), Fr [(197, none)] rmW M (K67 e3 e4 M)) : ∀ (n : Nat) (y3 : Int32) (y4 : Int32) (M : Mem), Fr [(197, none)] rmW M (fX5_chainOfParts_L29 K67 n y3 y4 M) := by
  intro n
  induction n with
  | zero => intro y3 y4 M; exact fr_none
  | succ n ih =>
    intro y3 y4 M
    rw [fX5_chainOfParts_L29]
    refine fr_ite ?_ ?_
    · exact fr_some rfl
    · refine fr_ite ?_ ?_
      · exact hK67 _ _ _
      · refine fr_ite ?_ ?_
        · exact hK67 _ _ _
        · refine fr_b (fun v3 => ?_)
          refine fr_ite ?_ ?_
          · exact hK67 _ _ _
          · refine fr_b (fun v4 => ?_)
            refine fr_wr (by decide) (fun M5 => ?_)
            refine fr_b (fun v6 => ?_)
            exact ih _ _ _
set_option maxHeartbeats 4000000 in
set_option maxRecDepth 100000 in
theorem wX5_chainOfParts (p1 : Int32) (p2 : Int32) (M : Mem) : Fr [(197, none)] rmW M (fX5_chainOfParts p1 p2 M) := by
  unfold fX5_chainOfParts
  refine wX5_chainOfParts_L2 _ (fun M2 => ?_) FU _ _
  · refine wX5_chainOfParts_L29 _ (fun e7 e8 M9 => ?_) FU _ _ _
    · refine fr_ite ?_ ?_
      · exact fr_some rfl
      · exact fr_some rfl
set_option maxHeartbeats 4000000 in
set_option maxRecDepth 100000 in
theorem wX11_parts (p1 : Int32) (p2 : Int32) (M : Mem) : Fr [(197, none)] rmW M (fX11_parts p1 p2 M) := by
  unfold fX11_parts
  refine fr_ite ?_ ?_
  · exact fr_some rfl
  · refine fr_ite ?_ ?_
    · exact fr_some rfl
    · refine fr_jn (fun (J1 : (Int32) → Option (Int32 × Mem)) => ∀ (t2 : Int32), Fr [(197, none)] rmW M (J1 t2)) (fun t2 => ?_) (fun J1 hJ1 => ?_)
      · refine fr_c (wX5_chainOfParts _ _ _) (by decide) (fun r3 => ?_)
        exact fr_some rfl
      · refine fr_ite ?_ ?_
        · exact hJ1 _
        · exact hJ1 _
set_option maxHeartbeats 4000000 in
set_option maxRecDepth 100000 in
theorem wX12_parts_L31  (K51 : Mem → Option (Int32 × Mem)) (hK51 : ∀ (M : Mem), Fr [(198, some 0), (224, none)] rmW M (K51 M)) : ∀ (n : Nat) (y3 : Int32) (M : Mem), Fr [(198, some 0), (224, none)] rmW M (fX12_parts_L31 K51 n y3 M) := by
  intro n
  induction n with
  | zero => intro y3 M; exact fr_none
  | succ n ih =>
    intro y3 M
    rw [fX12_parts_L31]
    refine fr_ite ?_ ?_
    · exact hK51 _
    · refine fr_wr (by decide) (fun M2 => ?_)
      exact ih _ _
set_option maxHeartbeats 4000000 in
set_option maxRecDepth 100000 in
theorem wX12_parts_L56  (K99 : Int32 → Int32 → Mem → Option (Int32 × Mem)) (hK99 : ∀ (e3 : Int32) (e4 : Int32) (M : Mem), Fr [(198, some 0), (224, none)] rmW M (K99 e3 e4 M)) : ∀ (n : Nat) (y3 : Int32) (y4 : Int32) (M : Mem), Fr [(198, some 0), (224, none)] rmW M (fX12_parts_L56 K99 n y3 y4 M) := by
  intro n
  induction n with
  | zero => intro y3 y4 M; exact fr_none
  | succ n ih =>
    intro y3 y4 M
    rw [fX12_parts_L56]
    refine fr_ite ?_ ?_
    · exact hK99 _ _ _
    · refine fr_b (fun v4 => ?_)
      refine fr_ite ?_ ?_
      · refine fr_wr (by decide) (fun M5 => ?_)
        refine fr_b (fun v6 => ?_)
        refine fr_bnd (fun x7 => ?_)
        exact ih _ _ _
      · exact hK99 _ _ _
set_option maxHeartbeats 4000000 in
set_option maxRecDepth 100000 in
theorem wX12_parts (p1 : Int32) (p2 : Int32) (M : Mem) : Fr [(198, some 0), (224, none)] rmW M (fX12_parts p1 p2 M) := by
  unfold fX12_parts
  refine fr_mu (by decide) (fun M1 => ?_)
  refine fr_ite ?_ ?_
  · exact fr_some rfl
  · refine fr_ite ?_ ?_
    · exact fr_some rfl
    · refine wX12_parts_L31 _ (fun M3 => ?_) FU _ _
      · refine wX12_parts_L56 _ (fun e8 e9 M10 => ?_) FU _ _ _
        · refine fr_ite ?_ ?_
          · exact fr_some rfl
          · exact fr_some rfl
set_option maxHeartbeats 4000000 in
set_option maxRecDepth 100000 in
theorem wX12_lasts_L34  (K66 : Int32 → Int32 → Option (Int32 × Mem)) (z2 : Int32) (M : Mem) (hK66 : ∀ (e3 : Int32) (e4 : Int32), Fr [(198, some 0)] rmW M (K66 e3 e4)) : ∀ (n : Nat) (y3 : Int32) (y4 : Int32), Fr [(198, some 0)] rmW M (fX12_lasts_L34 K66 z2 M n y3 y4) := by
  intro n
  induction n with
  | zero => intro y3 y4; exact fr_none
  | succ n ih =>
    intro y3 y4
    rw [fX12_lasts_L34]
    refine fr_ite ?_ ?_
    · exact hK66 _ _
    · refine fr_jn (fun (J2 : (Int32) → Option (Int32 × Mem)) => ∀ (t3 : Int32), Fr [(198, some 0)] rmW M (J2 t3)) (fun t3 => ?_) (fun J2 hJ2 => ?_)
      · refine fr_b (fun v4 => ?_)
        refine fr_bnd (fun x5 => ?_)
        exact ih _ _
      · refine fr_ite ?_ ?_
        · exact hJ2 _
        · exact hJ2 _
set_option maxHeartbeats 4000000 in
set_option maxRecDepth 100000 in
theorem wX12_lasts (p1 : Int32) (p2 : Int32) (M : Mem) : Fr [(198, some 0)] rmW M (fX12_lasts p1 p2 M) := by
  unfold fX12_lasts
  refine fr_mu (by decide) (fun M1 => ?_)
  refine fr_ite ?_ ?_
  · exact fr_some rfl
  · refine fr_ite ?_ ?_
    · exact fr_some rfl
    · refine wX12_lasts_L34 _ _ _ (fun e6 e7 => ?_) FU _ _
      · refine fr_ite ?_ ?_
        · exact fr_some rfl
        · exact fr_some rfl
set_option maxHeartbeats 4000000 in
set_option maxRecDepth 100000 in
theorem wX11_turn (p1 : Int32) (M : Mem) : Fr [(43, some 0), (44, none)] rmW M (fX11_turn p1 M) := by
  unfold fX11_turn
  refine fr_c (wX7_tell _ _ _) (by decide) (fun r1 => ?_)
  exact fr_some rfl
set_option maxHeartbeats 4000000 in
set_option maxRecDepth 100000 in
theorem wX12_turn (p1 : Int32) (M : Mem) : Fr [(198, some 0), (198, some 48), (225, none)] rmW M (fX12_turn p1 M) := by
  unfold fX12_turn
  refine fr_mu (by decide) (fun M1 => ?_)
  refine fr_ite ?_ ?_
  · refine fr_mu (by decide) (fun M4 => ?_)
    exact fr_some rfl
  · refine fr_ite ?_ ?_
    · exact fr_some rfl
    · refine fr_ite ?_ ?_
      · exact fr_some rfl
      · refine fr_wr (by decide) (fun M2 => ?_)
        refine fr_mu (by decide) (fun M3 => ?_)
        exact fr_some rfl
set_option maxHeartbeats 4000000 in
set_option maxRecDepth 100000 in
theorem wX10_stand_L11  (K37 : Option (Int32 × Mem)) (z1 : Int32) (z4 : Int32) (M : Mem) (hK37 : Fr [(51, none)] rmW M (K37)) : ∀ (n : Nat) (y5 : Int32), Fr [(51, none)] rmW M (fX10_stand_L11 K37 z1 z4 M n y5) := by
  intro n
  induction n with
  | zero => intro y5; exact fr_none
  | succ n ih =>
    intro y5
    rw [fX10_stand_L11]
    refine fr_ite ?_ ?_
    · exact hK37
    · refine fr_b (fun v2 => ?_)
      refine fr_ite ?_ ?_
      · exact fr_some rfl
      · exact ih _
set_option maxHeartbeats 4000000 in
set_option maxRecDepth 100000 in
theorem wX10_stand (p1 : Int32) (p2 : Int32) (p3 : Int32) (M : Mem) : Fr [(51, none)] rmW M (fX10_stand p1 p2 p3 M) := by
  unfold fX10_stand
  refine fr_bnd (fun x1 => ?_)
  refine wX10_stand_L11 _ _ _ _ (?_) FU _
  · refine fr_ite ?_ ?_
    · refine fr_wr (by decide) (fun M3 => ?_)
      exact fr_some rfl
    · exact fr_some rfl
set_option maxHeartbeats 4000000 in
set_option maxRecDepth 100000 in
theorem wX10_turned_L25  (K133 : Int32 → Int32 → Int32 → Int32 → Mem → Option (Int32 × Mem)) (hK133 : ∀ (e2 : Int32) (e3 : Int32) (e6 : Int32) (e7 : Int32) (M : Mem), Fr [(51, none)] rmW M (K133 e2 e3 e6 e7 M)) : ∀ (n : Nat) (y2 : Int32) (y3 : Int32) (y4 : Int32) (y5 : Int32) (y6 : Int32) (y7 : Int32) (y8 : Int32) (M : Mem), Fr [(51, none)] rmW M (fX10_turned_L25 K133 n y2 y3 y4 y5 y6 y7 y8 M) := by
  intro n
  induction n with
  | zero => intro y2 y3 y4 y5 y6 y7 y8 M; exact fr_none
  | succ n ih =>
    intro y2 y3 y4 y5 y6 y7 y8 M
    rw [fX10_turned_L25]
    refine fr_ite ?_ ?_
    · exact hK133 _ _ _ _ _
    · refine fr_b (fun v2 => ?_)
      refine fr_jn (fun (J3 : (Int32) → (Int32) → (Int32) → (Int32) → (Int32) → (Int32) → (Mem) → Option (Int32 × Mem)) => ∀ (a4 : Int32) (a5 : Int32) (a6 : Int32) (a7 : Int32) (a8 : Int32) (a9 : Int32) (M10 : Mem), Fr [(51, none)] rmW M10 (J3 a4 a5 a6 a7 a8 a9 M10)) (fun a4 a5 a6 a7 a8 a9 M10 => ?_) (fun J3 hJ3 => ?_)
      · exact ih _ _ _ _ _ _ _ _
      · refine fr_ite ?_ ?_
        · refine fr_bnd (fun x15 => ?_)
          refine fr_bnd (fun x16 => ?_)
          refine fr_bnd (fun x17 => ?_)
          refine fr_c (wX10_stand _ _ _ _) (by decide) (fun r18 => ?_)
          exact hJ3 _ _ _ _ _ _ _
        · refine fr_jn (fun (J11 : (Int32) → Option (Int32 × Mem)) => ∀ (t12 : Int32), Fr [(51, none)] rmW M (J11 t12)) (fun t12 => ?_) (fun J11 hJ11 => ?_)
          · refine fr_bnd (fun x13 => ?_)
            refine fr_bnd (fun x14 => ?_)
            exact hJ3 _ _ _ _ _ _ _
          · refine fr_ite ?_ ?_
            · exact hJ11 _
            · exact hJ11 _
set_option maxHeartbeats 4000000 in
set_option maxRecDepth 100000 in
theorem wX10_turned (p1 : Int32) (M : Mem) : Fr [(51, none)] rmW M (fX10_turned p1 M) := by
  unfold fX10_turned
  refine fr_c (wX10_stand _ _ _ _) (by decide) (fun r1 => ?_)
  refine wX10_turned_L25 _ (fun e19 e20 e21 e22 M23 => ?_) FU _ _ _ _ _ _ _ _
  · refine fr_swt (fr_all ?_ (fr_all ?_ (fr_all ?_ (true_nil)))) ?_
    · exact fr_some rfl
    · exact fr_some rfl
    · exact fr_some rfl
    · refine fr_ite ?_ ?_
      · refine fr_ite ?_ ?_
        · exact fr_some rfl
        · exact fr_some rfl
      · exact fr_some rfl
set_option maxHeartbeats 4000000 in
set_option maxRecDepth 100000 in
theorem wX11_turning (p1 : Int32) (M : Mem) : Fr [(51, none)] rmW M (fX11_turning p1 M) := by
  unfold fX11_turning
  refine fr_ite ?_ ?_
  · exact fr_some rfl
  · refine fr_c (wX10_turned _ _) (by decide) (fun r1 => ?_)
    exact fr_some rfl
set_option maxHeartbeats 4000000 in
set_option maxRecDepth 100000 in
theorem wX12_turning_L190  (K237 : Int32 → Option (Int32 × Mem)) (z2 : Int32) (M : Mem) (hK237 : ∀ (e7 : Int32), Fr [(198, some 0), (226, none), (227, none)] rmW M (K237 e7)) : ∀ (n : Nat) (y7 : Int32) (y8 : Int32), Fr [(198, some 0), (226, none), (227, none)] rmW M (fX12_turning_L190 K237 z2 M n y7 y8) := by
  intro n
  induction n with
  | zero => intro y7 y8; exact fr_none
  | succ n ih =>
    intro y7 y8
    rw [fX12_turning_L190]
    refine fr_ite ?_ ?_
    · exact hK237 _
    · refine fr_b (fun v22 => ?_)
      refine fr_b (fun v23 => ?_)
      refine fr_jn (fun (J24 : (Int32) → Option (Int32 × Mem)) => ∀ (a25 : Int32), Fr [(198, some 0), (226, none), (227, none)] rmW M (J24 a25)) (fun a25 => ?_) (fun J24 hJ24 => ?_)
      · exact ih _ _
      · refine fr_ite ?_ ?_
        · refine fr_b (fun v26 => ?_)
          refine fr_b (fun v27 => ?_)
          refine fr_ite ?_ ?_
          · exact hJ24 _
          · exact hJ24 _
        · exact hJ24 _
set_option maxHeartbeats 4000000 in
set_option maxRecDepth 100000 in
theorem wX12_turning_L32  (K256 : Int32 → Int32 → Int32 → Mem → Option (Int32 × Mem)) (hK256 : ∀ (e2 : Int32) (e3 : Int32) (e5 : Int32) (M : Mem), Fr [(198, some 0), (226, none), (227, none)] rmW M (K256 e2 e3 e5 M)) : ∀ (n : Nat) (y2 : Int32) (y3 : Int32) (y4 : Int32) (y5 : Int32) (y6 : Int32) (M : Mem), Fr [(198, some 0), (226, none), (227, none)] rmW M (fX12_turning_L32 K256 n y2 y3 y4 y5 y6 M) := by
  intro n
  induction n with
  | zero => intro y2 y3 y4 y5 y6 M; exact fr_none
  | succ n ih =>
    intro y2 y3 y4 y5 y6 M
    rw [fX12_turning_L32]
    refine fr_ite ?_ ?_
    · exact hK256 _ _ _ _
    · refine fr_b (fun v2 => ?_)
      refine fr_jn (fun (J3 : (Int32) → (Int32) → (Int32) → (Int32) → (Mem) → Option (Int32 × Mem)) => ∀ (a4 : Int32) (a5 : Int32) (a6 : Int32) (a7 : Int32) (M8 : Mem), Fr [(198, some 0), (226, none), (227, none)] rmW M8 (J3 a4 a5 a6 a7 M8)) (fun a4 a5 a6 a7 M8 => ?_) (fun J3 hJ3 => ?_)
      · exact ih _ _ _ _ _ _
      · refine fr_ite ?_ ?_
        · refine fr_b (fun v9 => ?_)
          refine fr_jn (fun (J10 : (Int32) → Option (Int32 × Mem)) => ∀ (t11 : Int32), Fr [(198, some 0), (226, none), (227, none)] rmW M (J10 t11)) (fun t11 => ?_) (fun J10 hJ10 => ?_)
          · refine fr_wr (by decide) (fun M12 => ?_)
            refine fr_b (fun v13 => ?_)
            refine fr_jn (fun (J14 : (Int32) → Option (Int32 × Mem)) => ∀ (t15 : Int32), Fr [(198, some 0), (226, none), (227, none)] rmW M12 (J14 t15)) (fun t15 => ?_) (fun J14 hJ14 => ?_)
            · refine fr_wr (by decide) (fun M16 => ?_)
              refine fr_b (fun v17 => ?_)
              refine fr_b (fun v18 => ?_)
              refine fr_b (fun v19 => ?_)
              refine fr_b (fun v20 => ?_)
              refine fr_bnd (fun x21 => ?_)
              refine wX12_turning_L190 _ _ _ (fun e28 => ?_) FU _ _
              · refine fr_jn (fun (J29 : (Int32) → Option (Int32 × Mem)) => ∀ (a30 : Int32), Fr [(198, some 0), (226, none), (227, none)] rmW M16 (J29 a30)) (fun a30 => ?_) (fun J29 hJ29 => ?_)
                · refine fr_bnd (fun x31 => ?_)
                  exact hJ3 _ _ _ _ _
                · refine fr_ite ?_ ?_
                  · exact hJ29 _
                  · refine fr_bnd (fun x32 => ?_)
                    exact hJ29 _
            · refine fr_ite ?_ ?_
              · exact hJ14 _
              · refine fr_ite ?_ ?_
                · exact hJ14 _
                · exact hJ14 _
          · refine fr_ite ?_ ?_
            · exact hJ10 _
            · refine fr_ite ?_ ?_
              · exact hJ10 _
              · exact hJ10 _
        · refine fr_b (fun v33 => ?_)
          refine fr_jn (fun (J34 : (Int32) → Option (Int32 × Mem)) => ∀ (t35 : Int32), Fr [(198, some 0), (226, none), (227, none)] rmW M (J34 t35)) (fun t35 => ?_) (fun J34 hJ34 => ?_)
          · refine fr_bnd (fun x36 => ?_)
            exact hJ3 _ _ _ _ _
          · refine fr_ite ?_ ?_
            · exact hJ34 _
            · exact hJ34 _
set_option maxHeartbeats 4000000 in
set_option maxRecDepth 100000 in
theorem wX12_turning (p1 : Int32) (M : Mem) : Fr [(198, some 0), (226, none), (227, none)] rmW M (fX12_turning p1 M) := by
  unfold fX12_turning
  refine fr_mu (by decide) (fun M1 => ?_)
  refine fr_ite ?_ ?_
  · exact fr_some rfl
  · refine wX12_turning_L32 _ (fun e37 e38 e39 M40 => ?_) FU _ _ _ _ _ _
    · refine fr_b (fun v41 => ?_)
      refine fr_b (fun v42 => ?_)
      refine fr_ite ?_ ?_
      · refine fr_ite ?_ ?_
        · refine fr_ite ?_ ?_
          · exact fr_some rfl
          · exact fr_some rfl
        · exact fr_some rfl
      · refine fr_ite ?_ ?_
        · exact fr_some rfl
        · refine fr_ite ?_ ?_
          · exact fr_some rfl
          · exact fr_some rfl
set_option maxHeartbeats 4000000 in
set_option maxRecDepth 100000 in
theorem wX12_ant_L31  (K50 : Mem → Option (Int32 × Mem)) (hK50 : ∀ (M : Mem), Fr [(198, some 0), (228, none)] rmW M (K50 M)) : ∀ (n : Nat) (y3 : Int32) (M : Mem), Fr [(198, some 0), (228, none)] rmW M (fX12_ant_L31 K50 n y3 M) := by
  intro n
  induction n with
  | zero => intro y3 M; exact fr_none
  | succ n ih =>
    intro y3 M
    rw [fX12_ant_L31]
    refine fr_ite ?_ ?_
    · exact hK50 _
    · refine fr_wr (by decide) (fun M2 => ?_)
      exact ih _ _
set_option maxHeartbeats 4000000 in
set_option maxRecDepth 100000 in
theorem wX12_ant_L64  (K196 : Int32 → Int32 → Int32 → Mem → Option (Int32 × Mem)) (z1 : Int32) (hK196 : ∀ (e3 : Int32) (e4 : Int32) (e6 : Int32) (M : Mem), Fr [(198, some 0), (228, none)] rmW M (K196 e3 e4 e6 M)) : ∀ (n : Nat) (y3 : Int32) (y4 : Int32) (y5 : Int32) (y6 : Int32) (y7 : Int32) (M : Mem), Fr [(198, some 0), (228, none)] rmW M (fX12_ant_L64 K196 z1 n y3 y4 y5 y6 y7 M) := by
  intro n
  induction n with
  | zero => intro y3 y4 y5 y6 y7 M; exact fr_none
  | succ n ih =>
    intro y3 y4 y5 y6 y7 M
    rw [fX12_ant_L64]
    refine fr_ite ?_ ?_
    · exact hK196 _ _ _ _
    · refine fr_bnd (fun x4 => ?_)
      refine fr_b (fun v5 => ?_)
      refine fr_jn (fun (J6 : (Int32) → Option (Int32 × Mem)) => ∀ (t7 : Int32), Fr [(198, some 0), (228, none)] rmW M (J6 t7)) (fun t7 => ?_) (fun J6 hJ6 => ?_)
      · refine fr_bnd (fun x8 => ?_)
        refine fr_b (fun v9 => ?_)
        refine fr_wr (by decide) (fun M10 => ?_)
        refine fr_b (fun v11 => ?_)
        refine fr_bnd (fun x12 => ?_)
        refine fr_jn (fun (J13 : (Int32) → Option (Int32 × Mem)) => ∀ (t14 : Int32), Fr [(198, some 0), (228, none)] rmW M10 (J13 t14)) (fun t14 => ?_) (fun J13 hJ13 => ?_)
        · refine fr_bnd (fun x15 => ?_)
          refine fr_jn (fun (J16 : (Int32) → Option (Int32 × Mem)) => ∀ (t17 : Int32), Fr [(198, some 0), (228, none)] rmW M10 (J16 t17)) (fun t17 => ?_) (fun J16 hJ16 => ?_)
          · refine fr_bnd (fun x18 => ?_)
            exact ih _ _ _ _ _ _
          · refine fr_ite ?_ ?_
            · exact hJ16 _
            · refine fr_ite ?_ ?_
              · exact hJ16 _
              · exact hJ16 _
        · refine fr_ite ?_ ?_
          · exact hJ13 _
          · refine fr_ite ?_ ?_
            · exact hJ13 _
            · exact hJ13 _
      · refine fr_ite ?_ ?_
        · exact hJ6 _
        · exact hJ6 _
set_option maxHeartbeats 4000000 in
set_option maxRecDepth 100000 in
theorem wX12_ant (p1 : Int32) (p2 : Int32) (M : Mem) : Fr [(198, some 0), (228, none)] rmW M (fX12_ant p1 p2 M) := by
  unfold fX12_ant
  refine fr_mu (by decide) (fun M1 => ?_)
  refine fr_ite ?_ ?_
  · exact fr_some rfl
  · refine fr_ite ?_ ?_
    · exact fr_some rfl
    · refine wX12_ant_L31 _ (fun M3 => ?_) FU _ _
      · refine wX12_ant_L64 _ _ (fun e19 e20 e21 M22 => ?_) FU _ _ _ _ _ _
        · refine fr_ite ?_ ?_
          · exact fr_some rfl
          · exact fr_some rfl
set_option maxHeartbeats 4000000 in
set_option maxRecDepth 100000 in
theorem wX12_row_L63  (K139 : Int32 → Option (Int32 × Mem)) (z2 : Int32) (z4 : Int32) (M : Mem) (hK139 : ∀ (e6 : Int32), Fr [(198, some 0)] rmW M (K139 e6)) : ∀ (n : Nat) (y6 : Int32) (y7 : Int32), Fr [(198, some 0)] rmW M (fX12_row_L63 K139 z2 z4 M n y6 y7) := by
  intro n
  induction n with
  | zero => intro y6 y7; exact fr_none
  | succ n ih =>
    intro y6 y7
    rw [fX12_row_L63]
    refine fr_ite ?_ ?_
    · exact hK139 _
    · refine fr_bnd (fun x2 => ?_)
      refine fr_jn (fun (J3 : (Int32) → Option (Int32 × Mem)) => ∀ (a4 : Int32), Fr [(198, some 0)] rmW M (J3 a4)) (fun a4 => ?_) (fun J3 hJ3 => ?_)
      · exact ih _ _
      · refine fr_ite ?_ ?_
        · exact hJ3 _
        · refine fr_bnd (fun x5 => ?_)
          exact hJ3 _
set_option maxHeartbeats 4000000 in
set_option maxRecDepth 100000 in
theorem wX12_row_L47  (K149 : Int32 → Option (Int32 × Mem)) (z2 : Int32) (M : Mem) (hK149 : ∀ (e4 : Int32), Fr [(198, some 0)] rmW M (K149 e4)) : ∀ (n : Nat) (y4 : Int32) (y5 : Int32), Fr [(198, some 0)] rmW M (fX12_row_L47 K149 z2 M n y4 y5) := by
  intro n
  induction n with
  | zero => intro y4 y5; exact fr_none
  | succ n ih =>
    intro y4 y5
    rw [fX12_row_L47]
    refine fr_ite ?_ ?_
    · exact hK149 _
    · refine wX12_row_L63 _ _ _ _ (fun e6 => ?_) FU _ _
      · exact ih _ _
set_option maxHeartbeats 4000000 in
set_option maxRecDepth 100000 in
theorem wX12_row (p1 : Int32) (p2 : Int32) (p3 : Int32) (M : Mem) : Fr [(198, some 0)] rmW M (fX12_row p1 p2 p3 M) := by
  unfold fX12_row
  refine fr_mu (by decide) (fun M1 => ?_)
  refine fr_ite ?_ ?_
  · exact fr_some rfl
  · refine fr_ite ?_ ?_
    · exact fr_some rfl
    · refine fr_ite ?_ ?_
      · exact fr_some rfl
      · refine wX12_row_L47 _ _ _ (fun e7 => ?_) FU _ _
        · refine fr_ite ?_ ?_
          · exact fr_some rfl
          · refine fr_b (fun v8 => ?_)
            exact fr_some rfl
set_option maxHeartbeats 4000000 in
set_option maxRecDepth 100000 in
theorem wX12_ownOf_L2  (K21 : Mem → Option (Int32 × Mem)) (hK21 : ∀ (M : Mem), Fr [(229, none)] rmW M (K21 M)) : ∀ (n : Nat) (y2 : Int32) (M : Mem), Fr [(229, none)] rmW M (fX12_ownOf_L2 K21 n y2 M) := by
  intro n
  induction n with
  | zero => intro y2 M; exact fr_none
  | succ n ih =>
    intro y2 M
    rw [fX12_ownOf_L2]
    refine fr_ite ?_ ?_
    · exact hK21 _
    · refine fr_wr (by decide) (fun M1 => ?_)
      exact ih _ _
set_option maxHeartbeats 4000000 in
set_option maxRecDepth 100000 in
theorem wX12_ownOf_L25  (K61 : Mem → Option (Int32 × Mem)) (hK61 : ∀ (M : Mem), Fr [(229, none)] rmW M (K61 M)) : ∀ (n : Nat) (y2 : Int32) (y3 : Int32) (M : Mem), Fr [(229, none)] rmW M (fX12_ownOf_L25 K61 n y2 y3 M) := by
  intro n
  induction n with
  | zero => intro y2 y3 M; exact fr_none
  | succ n ih =>
    intro y2 y3 M
    rw [fX12_ownOf_L25]
    refine fr_ite ?_ ?_
    · exact hK61 _
    · refine fr_b (fun v3 => ?_)
      refine fr_wr (by decide) (fun M4 => ?_)
      refine fr_bnd (fun x5 => ?_)
      exact ih _ _ _
set_option maxHeartbeats 4000000 in
set_option maxRecDepth 100000 in
theorem wX12_ownOf_L79  (K105 : Int32 → Option (Int32 × Mem)) (z5 : Int32) (M : Mem) (hK105 : ∀ (e3 : Int32), Fr [(229, none)] rmW M (K105 e3)) : ∀ (n : Nat) (y3 : Int32) (y6 : Int32), Fr [(229, none)] rmW M (fX12_ownOf_L79 K105 z5 M n y3 y6) := by
  intro n
  induction n with
  | zero => intro y3 y6; exact fr_none
  | succ n ih =>
    intro y3 y6
    rw [fX12_ownOf_L79]
    refine fr_b (fun v7 => ?_)
    refine fr_ite ?_ ?_
    · exact hK105 _
    · refine fr_bnd (fun x8 => ?_)
      exact ih _ _
set_option maxHeartbeats 4000000 in
set_option maxRecDepth 100000 in
theorem wX12_ownOf_L108  (K142 : Int32 → Option (Int32 × Mem)) (z5 : Int32) (M : Mem) (hK142 : ∀ (e4 : Int32), Fr [(229, none)] rmW M (K142 e4)) : ∀ (n : Nat) (y4 : Int32) (y6 : Int32), Fr [(229, none)] rmW M (fX12_ownOf_L108 K142 z5 M n y4 y6) := by
  intro n
  induction n with
  | zero => intro y4 y6; exact fr_none
  | succ n ih =>
    intro y4 y6
    rw [fX12_ownOf_L108]
    refine fr_b (fun v10 => ?_)
    refine fr_ite ?_ ?_
    · exact hK142 _
    · refine fr_bnd (fun x11 => ?_)
      exact ih _ _
set_option maxHeartbeats 4000000 in
set_option maxRecDepth 100000 in
theorem wX12_ownOf_L69   (M : Mem)  : ∀ (n : Nat) (y3 : Int32) (y4 : Int32) (y5 : Int32), Fr [(229, none)] rmW M (fX12_ownOf_L69 M n y3 y4 y5) := by
  intro n
  induction n with
  | zero => intro y3 y4 y5; exact fr_none
  | succ n ih =>
    intro y3 y4 y5
    rw [fX12_ownOf_L69]
    refine fr_ite ?_ ?_
    · exact fr_some rfl
    · refine wX12_ownOf_L79 _ _ _ (fun e9 => ?_) FU _ _
      · refine wX12_ownOf_L108 _ _ _ (fun e12 => ?_) FU _ _
        · exact ih _ _ _
set_option maxHeartbeats 4000000 in
set_option maxRecDepth 100000 in
theorem wX12_ownOf (p1 : Int32) (M : Mem) : Fr [(229, none)] rmW M (fX12_ownOf p1 M) := by
  unfold fX12_ownOf
  refine wX12_ownOf_L2 _ (fun M2 => ?_) FU _ _
  · refine wX12_ownOf_L25 _ (fun M6 => ?_) FU _ _ _
    · refine wX12_ownOf_L69 _ FU _ _ _
set_option maxHeartbeats 4000000 in
set_option maxRecDepth 100000 in
theorem wX12_own_L37  (K72 : Int32 → Int32 → Int32 → Mem → Option (Int32 × Mem)) (hK72 : ∀ (e3 : Int32) (e4 : Int32) (e5 : Int32) (M : Mem), Fr [(198, some 0), (229, none)] rmW M (K72 e3 e4 e5 M)) : ∀ (n : Nat) (y3 : Int32) (y4 : Int32) (y5 : Int32) (M : Mem), Fr [(198, some 0), (229, none)] rmW M (fX12_own_L37 K72 n y3 y4 y5 M) := by
  intro n
  induction n with
  | zero => intro y3 y4 y5 M; exact fr_none
  | succ n ih =>
    intro y3 y4 y5 M
    rw [fX12_own_L37]
    refine fr_ite ?_ ?_
    · exact hK72 _ _ _ _
    · refine fr_ite ?_ ?_
      · exact hK72 _ _ _ _
      · refine fr_c (wX12_ownOf _ _) (by decide) (fun r2 => ?_)
        refine fr_bnd (fun x3 => ?_)
        refine fr_bnd (fun x4 => ?_)
        exact ih _ _ _ _
set_option maxHeartbeats 4000000 in
set_option maxRecDepth 100000 in
theorem wX12_own (p1 : Int32) (p2 : Int32) (M : Mem) : Fr [(198, some 0), (229, none)] rmW M (fX12_own p1 p2 M) := by
  unfold fX12_own
  refine fr_mu (by decide) (fun M1 => ?_)
  refine fr_ite ?_ ?_
  · exact fr_some rfl
  · refine fr_ite ?_ ?_
    · exact fr_some rfl
    · refine wX12_own_L37 _ (fun e5 e6 e7 M8 => ?_) FU _ _ _ _
      · refine fr_ite ?_ ?_
        · exact fr_some rfl
        · refine fr_ite ?_ ?_
          · exact fr_some rfl
          · exact fr_some rfl
set_option maxHeartbeats 4000000 in
set_option maxRecDepth 100000 in
theorem wX12_round_L106   (z1 : Int32) (z2 : Int32) (z3 : Int32) (M : Mem)  : ∀ (n : Nat) (y5 : Int32) (y6 : Int32), Fr [(198, some 0)] rmW M (fX12_round_L106 z1 z2 z3 M n y5 y6) := by
  intro n
  induction n with
  | zero => intro y5 y6; exact fr_none
  | succ n ih =>
    intro y5 y6
    rw [fX12_round_L106]
    refine fr_ite ?_ ?_
    · exact fr_some rfl
    · refine fr_b (fun v3 => ?_)
      refine fr_ite ?_ ?_
      · exact fr_some rfl
      · exact ih _ _
set_option maxHeartbeats 4000000 in
set_option maxRecDepth 100000 in
theorem wX12_round_L77   (z1 : Int32) (z2 : Int32) (z4 : Int32) (M : Mem)  : ∀ (n : Nat) (y5 : Int32) (y6 : Int32), Fr [(198, some 0)] rmW M (fX12_round_L77 z1 z2 z4 M n y5 y6) := by
  intro n
  induction n with
  | zero => intro y5 y6; exact fr_none
  | succ n ih =>
    intro y5 y6
    rw [fX12_round_L77]
    refine fr_ite ?_ ?_
    · exact fr_some rfl
    · refine fr_b (fun v4 => ?_)
      exact ih _ _
set_option maxHeartbeats 4000000 in
set_option maxRecDepth 100000 in
theorem wX12_round (p1 : Int32) (p2 : Int32) (p3 : Int32) (p4 : Int32) (M : Mem) : Fr [(198, some 0)] rmW M (fX12_round p1 p2 p3 p4 M) := by
  unfold fX12_round
  refine fr_mu (by decide) (fun M1 => ?_)
  refine fr_ite ?_ ?_
  · exact fr_some rfl
  · refine fr_ite ?_ ?_
    · exact fr_some rfl
    · refine fr_ite ?_ ?_
      · exact fr_some rfl
      · refine fr_jn (fun (J2 : Option (Int32 × Mem)) => Fr [(198, some 0)] rmW M1 (J2)) ( ?_) (fun J2 hJ2 => ?_)
        · refine fr_ite ?_ ?_
          · refine wX12_round_L106 _ _ _ _ FU _ _
          · refine wX12_round_L77 _ _ _ _ FU _ _
        · refine fr_ite ?_ ?_
          · exact hJ2
          · refine fr_ite ?_ ?_
            · exact fr_some rfl
            · exact hJ2
set_option maxHeartbeats 4000000 in
set_option maxRecDepth 100000 in
theorem wX11_nine (p1 : Int32) (p2 : Int32) (M : Mem) : Fr [(49, none)] rmW M (fX11_nine p1 p2 M) := by
  unfold fX11_nine
  refine fr_ite ?_ ?_
  · exact fr_some rfl
  · refine fr_ite ?_ ?_
    · exact fr_some rfl
    · refine fr_wr (by decide) (fun M1 => ?_)
      exact fr_some rfl
set_option maxHeartbeats 4000000 in
set_option maxRecDepth 100000 in
theorem wX12_nine (p1 : Int32) (p2 : Int32) (M : Mem) : Fr [(198, some 0), (230, none)] rmW M (fX12_nine p1 p2 M) := by
  unfold fX12_nine
  refine fr_mu (by decide) (fun M1 => ?_)
  refine fr_ite ?_ ?_
  · exact fr_some rfl
  · refine fr_ite ?_ ?_
    · exact fr_some rfl
    · refine fr_wr (by decide) (fun M2 => ?_)
      exact fr_some rfl
set_option maxHeartbeats 4000000 in
set_option maxRecDepth 100000 in
theorem wX10_waysToEven_L20  (K64 : Int32 → Mem → Option (Int32 × Mem)) (z2 : Int32) (z3 : Int32) (hK64 : ∀ (e1 : Int32) (M : Mem), Fr [(49, none)] rmW M (K64 e1 M)) : ∀ (n : Nat) (y1 : Int32) (y4 : Int32) (M : Mem), Fr [(49, none)] rmW M (fX10_waysToEven_L20 K64 z2 z3 n y1 y4 M) := by
  intro n
  induction n with
  | zero => intro y1 y4 M; exact fr_none
  | succ n ih =>
    intro y1 y4 M
    rw [fX10_waysToEven_L20]
    refine fr_ite ?_ ?_
    · exact hK64 _ _
    · refine fr_wr (by decide) (fun M2 => ?_)
      refine fr_jn (fun (J3 : (Int32) → Option (Int32 × Mem)) => ∀ (a4 : Int32), Fr [(49, none)] rmW M2 (J3 a4)) (fun a4 => ?_) (fun J3 hJ3 => ?_)
      · exact ih _ _ _
      · refine fr_ite ?_ ?_
        · exact hJ3 _
        · refine fr_b (fun v5 => ?_)
          refine fr_b (fun v6 => ?_)
          refine fr_ite ?_ ?_
          · exact hJ3 _
          · exact hJ3 _
set_option maxHeartbeats 4000000 in
set_option maxRecDepth 100000 in
theorem wX10_waysToEven_L4    : ∀ (n : Nat) (y1 : Int32) (y2 : Int32) (M : Mem), Fr [(49, none)] rmW M (fX10_waysToEven_L4 n y1 y2 M) := by
  intro n
  induction n with
  | zero => intro y1 y2 M; exact fr_none
  | succ n ih =>
    intro y1 y2 M
    rw [fX10_waysToEven_L4]
    refine fr_ite ?_ ?_
    · exact fr_some rfl
    · refine fr_b (fun v1 => ?_)
      refine wX10_waysToEven_L20 _ _ _ (fun e7 M8 => ?_) FU _ _ _
      · refine fr_wr (by decide) (fun M9 => ?_)
        exact ih _ _ _
set_option maxHeartbeats 4000000 in
set_option maxRecDepth 100000 in
theorem wX10_waysToEven  (M : Mem) : Fr [(49, none)] rmW M (fX10_waysToEven M) := by
  unfold fX10_waysToEven
  refine wX10_waysToEven_L4  FU _ _ _
set_option maxHeartbeats 4000000 in
set_option maxRecDepth 100000 in
theorem wX11_even (p1 : Int32) (M : Mem) : Fr [(49, none)] rmW M (fX11_even p1 M) := by
  unfold fX11_even
  refine fr_ite ?_ ?_
  · refine fr_c (wX10_waysToEven _) (by decide) (fun r2 => ?_)
    exact fr_some rfl
  · refine fr_ite ?_ ?_
    · exact fr_some rfl
    · refine fr_b (fun v1 => ?_)
      exact fr_some rfl
set_option maxHeartbeats 4000000 in
set_option maxRecDepth 100000 in
theorem wX12_even_L52  (K98 : Int32 → Mem → Option (Int32 × Mem)) (z3 : Int32) (z4 : Int32) (hK98 : ∀ (e2 : Int32) (M : Mem), Fr [(198, some 0), (230, none)] rmW M (K98 e2 M)) : ∀ (n : Nat) (y2 : Int32) (y5 : Int32) (M : Mem), Fr [(198, some 0), (230, none)] rmW M (fX12_even_L52 K98 z3 z4 n y2 y5 M) := by
  intro n
  induction n with
  | zero => intro y2 y5 M; exact fr_none
  | succ n ih =>
    intro y2 y5 M
    rw [fX12_even_L52]
    refine fr_ite ?_ ?_
    · exact hK98 _ _
    · refine fr_wr (by decide) (fun M3 => ?_)
      refine fr_jn (fun (J4 : (Int32) → Option (Int32 × Mem)) => ∀ (a5 : Int32), Fr [(198, some 0), (230, none)] rmW M3 (J4 a5)) (fun a5 => ?_) (fun J4 hJ4 => ?_)
      · exact ih _ _ _
      · refine fr_ite ?_ ?_
        · exact hJ4 _
        · refine fr_b (fun v6 => ?_)
          refine fr_b (fun v7 => ?_)
          refine fr_ite ?_ ?_
          · refine fr_bnd (fun x8 => ?_)
            exact hJ4 _
          · exact hJ4 _
set_option maxHeartbeats 4000000 in
set_option maxRecDepth 100000 in
theorem wX12_even_L35    : ∀ (n : Nat) (y2 : Int32) (y3 : Int32) (M : Mem), Fr [(198, some 0), (230, none)] rmW M (fX12_even_L35 n y2 y3 M) := by
  intro n
  induction n with
  | zero => intro y2 y3 M; exact fr_none
  | succ n ih =>
    intro y2 y3 M
    rw [fX12_even_L35]
    refine fr_ite ?_ ?_
    · exact fr_some rfl
    · refine fr_b (fun v2 => ?_)
      refine wX12_even_L52 _ _ _ (fun e9 M10 => ?_) FU _ _ _
      · refine fr_wr (by decide) (fun M11 => ?_)
        exact ih _ _ _
set_option maxHeartbeats 4000000 in
set_option maxRecDepth 100000 in
theorem wX12_even (p1 : Int32) (M : Mem) : Fr [(198, some 0), (230, none)] rmW M (fX12_even p1 M) := by
  unfold fX12_even
  refine fr_mu (by decide) (fun M1 => ?_)
  refine fr_ite ?_ ?_
  · refine wX12_even_L35  FU _ _ _
  · refine fr_ite ?_ ?_
    · exact fr_some rfl
    · refine fr_b (fun v12 => ?_)
      exact fr_some rfl
set_option maxHeartbeats 4000000 in
set_option maxRecDepth 100000 in
theorem wX11_rule (p1 : Int32) (p2 : Int32) (M : Mem) : Fr [(45, some 0), (46, none), (47, some 0), (48, none)] rmW M (fX11_rule p1 p2 M) := by
  unfold fX11_rule
  refine fr_ite ?_ ?_
  · refine fr_c (wX7_tell _ _ _) (by decide) (fun r2 => ?_)
    exact fr_some rfl
  · refine fr_ite ?_ ?_
    · refine fr_c (wX7_tell _ _ _) (by decide) (fun r1 => ?_)
      exact fr_some rfl
    · exact fr_some rfl
set_option maxHeartbeats 4000000 in
set_option maxRecDepth 100000 in
theorem wX12_rule_L77  (K110 : Option (Int32 × Mem)) (z1 : Int32) (z2 : Int32) (M : Mem) (hK110 : Fr [(198, some 0), (231, none), (232, none)] rmW M (K110)) : ∀ (n : Nat) (y3 : Int32), Fr [(198, some 0), (231, none), (232, none)] rmW M (fX12_rule_L77 K110 z1 z2 M n y3) := by
  intro n
  induction n with
  | zero => intro y3; exact fr_none
  | succ n ih =>
    intro y3
    rw [fX12_rule_L77]
    refine fr_b (fun v7 => ?_)
    refine fr_ite ?_ ?_
    · exact hK110
    · refine fr_b (fun v8 => ?_)
      refine fr_ite ?_ ?_
      · exact fr_some rfl
      · exact ih _
set_option maxHeartbeats 4000000 in
set_option maxRecDepth 100000 in
theorem wX12_rule (p1 : Int32) (p2 : Int32) (M : Mem) : Fr [(198, some 0), (231, none), (232, none)] rmW M (fX12_rule p1 p2 M) := by
  unfold fX12_rule
  refine fr_mu (by decide) (fun M1 => ?_)
  refine fr_ite ?_ ?_
  · exact fr_some rfl
  · refine fr_ite ?_ ?_
    · refine fr_wr (by decide) (fun M14 => ?_)
      exact fr_some rfl
    · refine fr_jn (fun (J2 : (Int32) → Option (Int32 × Mem)) => ∀ (t3 : Int32), Fr [(198, some 0), (231, none), (232, none)] rmW M1 (J2 t3)) (fun t3 => ?_) (fun J2 hJ2 => ?_)
      · refine fr_ite ?_ ?_
        · exact fr_some rfl
        · refine fr_b (fun v4 => ?_)
          refine fr_jn (fun (J5 : (Int32) → Option (Int32 × Mem)) => ∀ (t6 : Int32), Fr [(198, some 0), (231, none), (232, none)] rmW M1 (J5 t6)) (fun t6 => ?_) (fun J5 hJ5 => ?_)
          · refine fr_ite ?_ ?_
            · exact fr_some rfl
            · refine wX12_rule_L77 _ _ _ _ (?_) FU _
              · refine fr_b (fun v9 => ?_)
                refine fr_wr (by decide) (fun M10 => ?_)
                refine fr_b (fun v11 => ?_)
                refine fr_wr (by decide) (fun M12 => ?_)
                refine fr_b (fun v13 => ?_)
                exact fr_some rfl
          · refine fr_ite ?_ ?_
            · exact hJ5 _
            · exact hJ5 _
      · refine fr_ite ?_ ?_
        · exact hJ2 _
        · exact hJ2 _
set_option maxHeartbeats 4000000 in
set_option maxRecDepth 100000 in
theorem wX10_workWins_L2  (K51 : Mem → Option (Mem)) (z1 : Int32) (hK51 : ∀ (M : Mem), Fr [(52, none)] rmU M (K51 M)) : ∀ (n : Nat) (y2 : Int32) (M : Mem), Fr [(52, none)] rmU M (fX10_workWins_L2 K51 z1 n y2 M) := by
  intro n
  induction n with
  | zero => intro y2 M; exact fr_none
  | succ n ih =>
    intro y2 M
    rw [fX10_workWins_L2]
    refine fr_ite ?_ ?_
    · exact hK51 _
    · refine fr_ite ?_ ?_
      · exact hK51 _
      · refine fr_b (fun v1 => ?_)
        refine fr_jn (fun (J2 : (Int32) → Option (Mem)) => ∀ (t3 : Int32), Fr [(52, none)] rmU M (J2 t3)) (fun t3 => ?_) (fun J2 hJ2 => ?_)
        · refine fr_wr (by decide) (fun M4 => ?_)
          exact ih _ _
        · refine fr_jn (fun (J5 : Option (Mem)) => Fr [(52, none)] rmU M (J5)) ( ?_) (fun J5 hJ5 => ?_)
          · exact hJ2 _
          · refine fr_ite ?_ ?_
            · refine fr_b (fun v6 => ?_)
              refine fr_ite ?_ ?_
              · exact hJ5
              · exact hJ2 _
            · exact hJ5
set_option maxHeartbeats 4000000 in
set_option maxRecDepth 100000 in
theorem wX10_workWins (p1 : Int32) (M : Mem) : Fr [(52, none)] rmU M (fX10_workWins p1 M) := by
  unfold fX10_workWins
  refine wX10_workWins_L2 _ _ (fun M7 => ?_) FU _ _
  · exact fr_some rfl
set_option maxHeartbeats 4000000 in
set_option maxRecDepth 100000 in
theorem wX10_winningStep (p1 : Int32) (M : Mem) : Fr [(52, none)] rmW M (fX10_winningStep p1 M) := by
  unfold fX10_winningStep
  refine fr_c (wX10_workWins _ _) (by decide) (fun M1 => ?_)
  refine fr_b (fun v2 => ?_)
  refine fr_ite ?_ ?_
  · refine fr_b (fun v3 => ?_)
    exact fr_some rfl
  · exact fr_some rfl
set_option maxHeartbeats 4000000 in
set_option maxRecDepth 100000 in
theorem wX10_winningSquares_L9  (K39 : Int32 → Option (Int32 × Mem)) (z1 : Int32) (M : Mem) (hK39 : ∀ (e2 : Int32), Fr [(52, none)] rmW M (K39 e2)) : ∀ (n : Nat) (y2 : Int32) (y3 : Int32), Fr [(52, none)] rmW M (fX10_winningSquares_L9 K39 z1 M n y2 y3) := by
  intro n
  induction n with
  | zero => intro y2 y3; exact fr_none
  | succ n ih =>
    intro y2 y3
    rw [fX10_winningSquares_L9]
    refine fr_ite ?_ ?_
    · exact hK39 _
    · refine fr_ite ?_ ?_
      · exact hK39 _
      · refine fr_b (fun v2 => ?_)
        refine fr_jn (fun (J3 : (Int32) → Option (Int32 × Mem)) => ∀ (a4 : Int32), Fr [(52, none)] rmW M (J3 a4)) (fun a4 => ?_) (fun J3 hJ3 => ?_)
        · exact ih _ _
        · refine fr_ite ?_ ?_
          · exact hJ3 _
          · exact hJ3 _
set_option maxHeartbeats 4000000 in
set_option maxRecDepth 100000 in
theorem wX10_winningSquares (p1 : Int32) (M : Mem) : Fr [(52, none)] rmW M (fX10_winningSquares p1 M) := by
  unfold fX10_winningSquares
  refine fr_c (wX10_workWins _ _) (by decide) (fun M1 => ?_)
  refine wX10_winningSquares_L9 _ _ _ (fun e5 => ?_) FU _ _
  · exact fr_some rfl
set_option maxHeartbeats 4000000 in
set_option maxRecDepth 100000 in
theorem wX11_game (p1 : Int32) (p2 : Int32) (M : Mem) : Fr [(52, none)] rmW M (fX11_game p1 p2 M) := by
  unfold fX11_game
  refine fr_ite ?_ ?_
  · exact fr_some rfl
  · refine fr_ite ?_ ?_
    · refine fr_c (wX10_winningStep _ _) (by decide) (fun r2 => ?_)
      exact fr_some rfl
    · refine fr_ite ?_ ?_
      · refine fr_c (wX10_winningSquares _ _) (by decide) (fun r1 => ?_)
        exact fr_some rfl
      · exact fr_some rfl
set_option maxHeartbeats 4000000 in
set_option maxRecDepth 100000 in
theorem wX12_game_L34  (K87 : Int32 → Mem → Option (Int32 × Mem)) (z1 : Int32) (hK87 : ∀ (e3 : Int32) (M : Mem), Fr [(198, some 0), (233, none)] rmW M (K87 e3 M)) : ∀ (n : Nat) (y3 : Int32) (y4 : Int32) (M : Mem), Fr [(198, some 0), (233, none)] rmW M (fX12_game_L34 K87 z1 n y3 y4 M) := by
  intro n
  induction n with
  | zero => intro y3 y4 M; exact fr_none
  | succ n ih =>
    intro y3 y4 M
    rw [fX12_game_L34]
    refine fr_ite ?_ ?_
    · exact hK87 _ _
    · refine fr_b (fun v2 => ?_)
      refine fr_jn (fun (J3 : (Int32) → Option (Int32 × Mem)) => ∀ (t4 : Int32), Fr [(198, some 0), (233, none)] rmW M (J3 t4)) (fun t4 => ?_) (fun J3 hJ3 => ?_)
      · refine fr_wr (by decide) (fun M5 => ?_)
        refine fr_b (fun v6 => ?_)
        refine fr_jn (fun (J7 : (Int32) → Option (Int32 × Mem)) => ∀ (a8 : Int32), Fr [(198, some 0), (233, none)] rmW M5 (J7 a8)) (fun a8 => ?_) (fun J7 hJ7 => ?_)
        · exact ih _ _ _
        · refine fr_ite ?_ ?_
          · refine fr_b (fun v9 => ?_)
            refine fr_bnd (fun x10 => ?_)
            exact hJ7 _
          · exact hJ7 _
      · refine fr_ite ?_ ?_
        · exact hJ3 _
        · exact hJ3 _
set_option maxHeartbeats 4000000 in
set_option maxRecDepth 100000 in
theorem wX12_game (p1 : Int32) (p2 : Int32) (M : Mem) : Fr [(198, some 0), (233, none)] rmW M (fX12_game p1 p2 M) := by
  unfold fX12_game
  refine fr_mu (by decide) (fun M1 => ?_)
  refine fr_ite ?_ ?_
  · exact fr_some rfl
  · refine fr_ite ?_ ?_
    · exact fr_some rfl
    · refine wX12_game_L34 _ _ (fun e11 M12 => ?_) FU _ _ _
      · refine fr_ite ?_ ?_
        · exact fr_some rfl
        · refine fr_b (fun v13 => ?_)
          refine fr_ite ?_ ?_
          · refine fr_b (fun v14 => ?_)
            exact fr_some rfl
          · exact fr_some rfl
set_option maxHeartbeats 4000000 in
set_option maxRecDepth 100000 in
theorem wX6_goBack  (M : Mem) : Fr [(2, some 0), (2, some 1), (2, some 2), (2, some 3), (2, some 4), (2, some 5), (3, none), (4, none), (5, none), (6, none), (7, none), (8, none), (9, none), (10, none), (11, none), (12, some 0), (105, some 0), (105, some 1)] rmW M (fX6_goBack M) := by
  unfold fX6_goBack
  refine fr_ite ?_ ?_
  · refine fr_jn (fun (J1 : (Int32) → Option (Int32 × Mem)) => ∀ (t2 : Int32), Fr [(2, some 0), (2, some 1), (2, some 2), (2, some 3), (2, some 4), (2, some 5), (3, none), (4, none), (5, none), (6, none), (7, none), (8, none), (9, none), (10, none), (11, none), (12, some 0), (105, some 0), (105, some 1)] rmW M (J1 t2)) (fun t2 => ?_) (fun J1 hJ1 => ?_)
    · refine fr_mu (by decide) (fun M3 => ?_)
      refine fr_mu (by decide) (fun M4 => ?_)
      refine fr_bm (fun q5 eq5 => ?_)
      have mq5 : q5 ∈ [108, 118, 128, 138, 148, 158] := rdt_mem eq5 (by decide +kernel)
      refine fr_ite ?_ fr_none
      refine fr_c (wX9_copyFrom _ _ _) (by decide) (fun M6 => ?_)
      refine fr_b (fun v7 => ?_)
      refine fr_mu (by decide) (fun M8 => ?_)
      exact fr_some rfl
    · refine fr_ite ?_ ?_
      · exact hJ1 _
      · exact hJ1 _
  · exact fr_some rfl
set_option maxHeartbeats 4000000 in
set_option maxRecDepth 100000 in
theorem wX11_undo  (M : Mem) : Fr [(2, some 0), (2, some 1), (2, some 2), (2, some 3), (2, some 4), (2, some 5), (3, none), (4, none), (5, none), (6, none), (7, none), (8, none), (9, none), (10, none), (11, none), (12, some 0), (105, some 0), (105, some 1)] rmW M (fX11_undo M) := by
  unfold fX11_undo
  refine fr_c (wX6_goBack _) (by decide) (fun r1 => ?_)
  exact fr_ite (fr_some rfl) fr_none
set_option maxHeartbeats 4000000 in
set_option maxRecDepth 100000 in
theorem wX12_undo_L26    : ∀ (n : Nat) (y1 : Int32) (M : Mem), Fr [(198, some 0), (198, some 3), (199, none)] rmW M (fX12_undo_L26 n y1 M) := by
  intro n
  induction n with
  | zero => intro y1 M; exact fr_none
  | succ n ih =>
    intro y1 M
    rw [fX12_undo_L26]
    refine fr_ite ?_ ?_
    · exact fr_some rfl
    · refine fr_b (fun v3 => ?_)
      refine fr_wr (by decide) (fun M4 => ?_)
      exact ih _ _
set_option maxHeartbeats 4000000 in
set_option maxRecDepth 100000 in
theorem wX12_undo  (M : Mem) : Fr [(198, some 0), (198, some 3), (199, none)] rmW M (fX12_undo M) := by
  unfold fX12_undo
  refine fr_mu (by decide) (fun M1 => ?_)
  refine fr_ite ?_ ?_
  · exact fr_some rfl
  · refine fr_mu (by decide) (fun M2 => ?_)
    refine wX12_undo_L26  FU _ _
set_option maxHeartbeats 4000000 in
set_option maxRecDepth 100000 in
theorem wX7_copyFrom (k0 : Nat) (k1 : Nat) (M : Mem) : Fr [((k0 + 1), none), (k0, some 0)] rmU M (fX7_copyFrom k0 k1 M) := by
  unfold fX7_copyFrom
  refine fr_mu (by simp) (fun M1 => ?_)
  refine fr_cpy (by simp) (fun M2 => ?_)
  exact fr_some rfl
set_option maxHeartbeats 4000000 in
set_option maxRecDepth 100000 in
theorem wX10_copyFrom (k0 : Nat) (k1 : Nat) (M : Mem) : Fr [((k0 + 1), some 0), ((k0 + 2), none), ((k0 + 3), some 0), ((k0 + 4), none), ((k0 + 5), some 0), ((k0 + 6), none), ((k0 + 7), some 0), ((k0 + 8), none), ((k0 + 9), none)] rmU M (fX10_copyFrom k0 k1 M) := by
  unfold fX10_copyFrom
  refine fr_c (wX7_copyFrom _ _ _) (by simp) (fun M1 => ?_)
  refine fr_c (wX7_copyFrom _ _ _) (by simp) (fun M2 => ?_)
  refine fr_c (wX7_copyFrom _ _ _) (by simp) (fun M3 => ?_)
  refine fr_c (wX7_copyFrom _ _ _) (by simp) (fun M4 => ?_)
  refine fr_cpy (by simp) (fun M5 => ?_)
  exact fr_some rfl
set_option maxHeartbeats 4000000 in
set_option maxRecDepth 100000 in
theorem wX0_copyFrom (k0 : Nat) (k1 : Nat) (M : Mem) : Fr [((k0 + 1), some 0), ((k0 + 1), some 1), ((k0 + 1), some 2), ((k0 + 1), some 3), ((k0 + 1), some 4), ((k0 + 1), some 5), ((k0 + 10), none), ((k0 + 11), some 0), ((k0 + 12), none), ((k0 + 13), none), ((k0 + 14), none), ((k0 + 15), none), ((k0 + 16), some 0), ((k0 + 16), some 1), ((k0 + 17), none), ((k0 + 18), none), ((k0 + 19), none), ((k0 + 2), none), ((k0 + 20), none), ((k0 + 21), none), ((k0 + 24), some 0), ((k0 + 25), none), ((k0 + 26), none), ((k0 + 27), none), ((k0 + 28), none), ((k0 + 29), some 0), ((k0 + 3), none), ((k0 + 30), none), ((k0 + 31), none), ((k0 + 32), none), ((k0 + 33), none), ((k0 + 34), some 0), ((k0 + 35), none), ((k0 + 36), none), ((k0 + 37), none), ((k0 + 38), none), ((k0 + 4), none), ((k0 + 40), some 0), ((k0 + 41), none), ((k0 + 42), some 0), ((k0 + 43), none), ((k0 + 44), some 0), ((k0 + 45), none), ((k0 + 46), some 0), ((k0 + 47), none), ((k0 + 48), none), ((k0 + 5), none), ((k0 + 6), none), ((k0 + 7), none), ((k0 + 8), none), ((k0 + 9), none)] rmU M (fX0_copyFrom k0 k1 M) := by
  unfold fX0_copyFrom
  refine fr_c (wX9_copyFrom _ _ _) (by simp) (fun M1 => ?_)
  refine fr_c (wX3_copyFrom _ _ _) (by simp) (fun M2 => ?_)
  refine fr_c (wX1_copyFrom _ _ _) (by simp) (fun M3 => ?_)
  refine fr_c (wX3_copyFrom _ _ _) (by simp) (fun M4 => ?_)
  refine fr_c (wX3_copyFrom _ _ _) (by simp) (fun M5 => ?_)
  refine fr_c (wX3_copyFrom _ _ _) (by simp) (fun M6 => ?_)
  refine fr_c (wX10_copyFrom _ _ _) (by simp) (fun M7 => ?_)
  exact fr_some rfl
set_option maxHeartbeats 4000000 in
set_option maxRecDepth 100000 in
theorem wX11_image (p1 : Int32) (M : Mem) : Fr [(0, some 2), (2, some 0), (2, some 1), (2, some 2), (2, some 3), (2, some 4), (2, some 5), (3, none), (4, none), (5, none), (6, none), (7, none), (8, none), (9, none), (10, none), (11, none), (12, some 0), (13, none), (14, none), (15, none), (16, none), (17, some 0), (17, some 1), (18, none), (19, none), (20, none), (21, none), (22, none), (25, some 0), (26, none), (27, none), (28, none), (29, none), (30, some 0), (31, none), (32, none), (33, none), (34, none), (35, some 0), (36, none), (37, none), (38, none), (39, none), (41, some 0), (42, none), (43, some 0), (44, none), (45, some 0), (46, none), (47, some 0), (48, none), (49, none), (54, some 0), (54, some 1), (54, some 2), (54, some 3), (54, some 4), (54, some 5), (55, none), (56, none), (57, none), (58, none), (59, none), (60, none), (61, none), (62, none), (63, none), (64, some 0), (65, none), (66, none), (67, none), (68, none), (69, some 0), (69, some 1), (70, none), (71, none), (72, none), (73, none), (74, none), (77, some 0), (78, none), (79, none), (80, none), (81, none), (82, some 0), (83, none), (84, none), (85, none), (86, none), (87, some 0), (88, none), (89, none), (90, none), (91, none), (93, some 0), (94, none), (95, some 0), (96, none), (97, some 0), (98, none), (99, some 0), (100, none), (101, none), (105, some 0)] rmW M (fX11_image p1 M) := by
  unfold fX11_image
  refine fr_ite ?_ ?_
  · refine fr_ite ?_ ?_
    · exact fr_ite (fr_some rfl) fr_none
    · refine fr_c (wX0_copyFrom _ _ _) (by decide) (fun M1 => ?_)
      refine fr_c (wX6_forget _) (by decide) (fun M2 => ?_)
      exact fr_ite (fr_some rfl) fr_none
  · refine fr_c (wX0_copyFrom _ _ _) (by decide) (fun M3 => ?_)
    refine fr_mu (by decide) (fun M4 => ?_)
    exact fr_ite (fr_some rfl) fr_none
set_option maxHeartbeats 4000000 in
set_option maxRecDepth 100000 in
theorem wX12_keeps (p1 : Int32) (M : Mem) : Fr [(198, some 60), (234, none)] rmW M (fX12_keeps p1 M) := by
  unfold fX12_keeps
  refine fr_mu (by decide) (fun M1 => ?_)
  refine fr_ite ?_ ?_
  · refine fr_b (fun v3 => ?_)
    exact fr_some rfl
  · refine fr_wr (by decide) (fun M2 => ?_)
    exact fr_some rfl
set_option maxHeartbeats 4000000 in
set_option maxRecDepth 100000 in
theorem wX12_keepsTold_L118  (K210 : Mem → Option (Mem)) (hK210 : ∀ (M : Mem), Fr [(198, some 6), (198, some 7), (198, some 35), (198, some 37), (198, some 39), (198, some 43), (198, some 48), (198, some 60), (202, none), (203, none), (204, none), (216, none), (217, none), (218, none), (221, none), (225, none), (230, none), (231, none), (232, none), (234, none)] rmU M (K210 M)) : ∀ (n : Nat) (y1 : Int32) (M : Mem), Fr [(198, some 6), (198, some 7), (198, some 35), (198, some 37), (198, some 39), (198, some 43), (198, some 48), (198, some 60), (202, none), (203, none), (204, none), (216, none), (217, none), (218, none), (221, none), (225, none), (230, none), (231, none), (232, none), (234, none)] rmU M (fX12_keepsTold_L118 K210 n y1 M) := by
  intro n
  induction n with
  | zero => intro y1 M; exact fr_none
  | succ n ih =>
    intro y1 M
    rw [fX12_keepsTold_L118]
    refine fr_ite ?_ ?_
    · exact hK210 _
    · refine fr_b (fun v21 => ?_)
      refine fr_c (wX12_keeps _ _) (by decide) (fun r22 => ?_)
      refine fr_wr (by decide) (fun M23 => ?_)
      refine fr_b (fun v24 => ?_)
      refine fr_c (wX12_keeps _ _) (by decide) (fun r25 => ?_)
      refine fr_wr (by decide) (fun M26 => ?_)
      refine fr_b (fun v27 => ?_)
      refine fr_c (wX12_keeps _ _) (by decide) (fun r28 => ?_)
      refine fr_wr (by decide) (fun M29 => ?_)
      refine fr_b (fun v30 => ?_)
      refine fr_c (wX12_keeps _ _) (by decide) (fun r31 => ?_)
      refine fr_wr (by decide) (fun M32 => ?_)
      refine fr_b (fun v33 => ?_)
      refine fr_c (wX12_keeps _ _) (by decide) (fun r34 => ?_)
      refine fr_wr (by decide) (fun M35 => ?_)
      exact ih _ _
set_option maxHeartbeats 4000000 in
set_option maxRecDepth 100000 in
theorem wX12_keepsTold_L212  (K240 : Mem → Option (Mem)) (hK240 : ∀ (M : Mem), Fr [(198, some 6), (198, some 7), (198, some 35), (198, some 37), (198, some 39), (198, some 43), (198, some 48), (198, some 60), (202, none), (203, none), (204, none), (216, none), (217, none), (218, none), (221, none), (225, none), (230, none), (231, none), (232, none), (234, none)] rmU M (K240 M)) : ∀ (n : Nat) (y1 : Int32) (M : Mem), Fr [(198, some 6), (198, some 7), (198, some 35), (198, some 37), (198, some 39), (198, some 43), (198, some 48), (198, some 60), (202, none), (203, none), (204, none), (216, none), (217, none), (218, none), (221, none), (225, none), (230, none), (231, none), (232, none), (234, none)] rmU M (fX12_keepsTold_L212 K240 n y1 M) := by
  intro n
  induction n with
  | zero => intro y1 M; exact fr_none
  | succ n ih =>
    intro y1 M
    rw [fX12_keepsTold_L212]
    refine fr_ite ?_ ?_
    · exact hK240 _
    · refine fr_b (fun v37 => ?_)
      refine fr_c (wX12_keeps _ _) (by decide) (fun r38 => ?_)
      refine fr_wr (by decide) (fun M39 => ?_)
      exact ih _ _
set_option maxHeartbeats 4000000 in
set_option maxRecDepth 100000 in
theorem wX12_keepsTold_L242  (K270 : Mem → Option (Mem)) (hK270 : ∀ (M : Mem), Fr [(198, some 6), (198, some 7), (198, some 35), (198, some 37), (198, some 39), (198, some 43), (198, some 48), (198, some 60), (202, none), (203, none), (204, none), (216, none), (217, none), (218, none), (221, none), (225, none), (230, none), (231, none), (232, none), (234, none)] rmU M (K270 M)) : ∀ (n : Nat) (y1 : Int32) (M : Mem), Fr [(198, some 6), (198, some 7), (198, some 35), (198, some 37), (198, some 39), (198, some 43), (198, some 48), (198, some 60), (202, none), (203, none), (204, none), (216, none), (217, none), (218, none), (221, none), (225, none), (230, none), (231, none), (232, none), (234, none)] rmU M (fX12_keepsTold_L242 K270 n y1 M) := by
  intro n
  induction n with
  | zero => intro y1 M; exact fr_none
  | succ n ih =>
    intro y1 M
    rw [fX12_keepsTold_L242]
    refine fr_ite ?_ ?_
    · exact hK270 _
    · refine fr_b (fun v41 => ?_)
      refine fr_c (wX12_keeps _ _) (by decide) (fun r42 => ?_)
      refine fr_wr (by decide) (fun M43 => ?_)
      exact ih _ _
set_option maxHeartbeats 4000000 in
set_option maxRecDepth 100000 in
theorem wX12_keepsTold_L272  (K316 : Mem → Option (Mem)) (hK316 : ∀ (M : Mem), Fr [(198, some 6), (198, some 7), (198, some 35), (198, some 37), (198, some 39), (198, some 43), (198, some 48), (198, some 60), (202, none), (203, none), (204, none), (216, none), (217, none), (218, none), (221, none), (225, none), (230, none), (231, none), (232, none), (234, none)] rmU M (K316 M)) : ∀ (n : Nat) (y1 : Int32) (M : Mem), Fr [(198, some 6), (198, some 7), (198, some 35), (198, some 37), (198, some 39), (198, some 43), (198, some 48), (198, some 60), (202, none), (203, none), (204, none), (216, none), (217, none), (218, none), (221, none), (225, none), (230, none), (231, none), (232, none), (234, none)] rmU M (fX12_keepsTold_L272 K316 n y1 M) := by
  intro n
  induction n with
  | zero => intro y1 M; exact fr_none
  | succ n ih =>
    intro y1 M
    rw [fX12_keepsTold_L272]
    refine fr_ite ?_ ?_
    · exact hK316 _
    · refine fr_b (fun v45 => ?_)
      refine fr_c (wX12_keeps _ _) (by decide) (fun r46 => ?_)
      refine fr_wr (by decide) (fun M47 => ?_)
      refine fr_b (fun v48 => ?_)
      refine fr_c (wX12_keeps _ _) (by decide) (fun r49 => ?_)
      refine fr_wr (by decide) (fun M50 => ?_)
      exact ih _ _
set_option maxHeartbeats 4000000 in
set_option maxRecDepth 100000 in
theorem wX12_keepsTold_L318    : ∀ (n : Nat) (y1 : Int32) (M : Mem), Fr [(198, some 6), (198, some 7), (198, some 35), (198, some 37), (198, some 39), (198, some 43), (198, some 48), (198, some 60), (202, none), (203, none), (204, none), (216, none), (217, none), (218, none), (221, none), (225, none), (230, none), (231, none), (232, none), (234, none)] rmU M (fX12_keepsTold_L318 n y1 M) := by
  intro n
  induction n with
  | zero => intro y1 M; exact fr_none
  | succ n ih =>
    intro y1 M
    rw [fX12_keepsTold_L318]
    refine fr_ite ?_ ?_
    · exact fr_some rfl
    · refine fr_b (fun v52 => ?_)
      refine fr_c (wX12_keeps _ _) (by decide) (fun r53 => ?_)
      refine fr_wr (by decide) (fun M54 => ?_)
      exact ih _ _
set_option maxHeartbeats 4000000 in
set_option maxRecDepth 100000 in
theorem wX12_keepsTold  (M : Mem) : Fr [(198, some 6), (198, some 7), (198, some 35), (198, some 37), (198, some 39), (198, some 43), (198, some 48), (198, some 60), (202, none), (203, none), (204, none), (216, none), (217, none), (218, none), (221, none), (225, none), (230, none), (231, none), (232, none), (234, none)] rmU M (fX12_keepsTold M) := by
  unfold fX12_keepsTold
  refine fr_c (wX12_keeps _ _) (by decide) (fun r1 => ?_)
  refine fr_mu (by decide) (fun M2 => ?_)
  refine fr_c (wX12_keeps _ _) (by decide) (fun r3 => ?_)
  refine fr_mu (by decide) (fun M4 => ?_)
  refine fr_c (wX12_keeps _ _) (by decide) (fun r5 => ?_)
  refine fr_mu (by decide) (fun M6 => ?_)
  refine fr_c (wX12_keeps _ _) (by decide) (fun r7 => ?_)
  refine fr_mu (by decide) (fun M8 => ?_)
  refine fr_c (wX12_keeps _ _) (by decide) (fun r9 => ?_)
  refine fr_mu (by decide) (fun M10 => ?_)
  refine fr_c (wX12_keeps _ _) (by decide) (fun r11 => ?_)
  refine fr_mu (by decide) (fun M12 => ?_)
  refine fr_c (wX12_keeps _ _) (by decide) (fun r13 => ?_)
  refine fr_mu (by decide) (fun M14 => ?_)
  refine fr_b (fun v15 => ?_)
  refine fr_c (wX12_keeps _ _) (by decide) (fun r16 => ?_)
  refine fr_wr (by decide) (fun M17 => ?_)
  refine fr_b (fun v18 => ?_)
  refine fr_c (wX12_keeps _ _) (by decide) (fun r19 => ?_)
  refine fr_wr (by decide) (fun M20 => ?_)
  refine wX12_keepsTold_L118 _ (fun M36 => ?_) FU _ _
  · refine wX12_keepsTold_L212 _ (fun M40 => ?_) FU _ _
    · refine wX12_keepsTold_L242 _ (fun M44 => ?_) FU _ _
      · refine wX12_keepsTold_L272 _ (fun M51 => ?_) FU _ _
        · refine wX12_keepsTold_L318  FU _ _
set_option maxHeartbeats 4000000 in
set_option maxRecDepth 100000 in
theorem wX12_keepsLaw_L18  (K94 : Mem → Option (Mem)) (hK94 : ∀ (M : Mem), Fr [(198, some 60), (208, none), (209, none), (210, none), (211, none), (212, none), (213, none), (214, none), (234, none)] rmU M (K94 M)) : ∀ (n : Nat) (y1 : Int32) (M : Mem), Fr [(198, some 60), (208, none), (209, none), (210, none), (211, none), (212, none), (213, none), (214, none), (234, none)] rmU M (fX12_keepsLaw_L18 K94 n y1 M) := by
  intro n
  induction n with
  | zero => intro y1 M; exact fr_none
  | succ n ih =>
    intro y1 M
    rw [fX12_keepsLaw_L18]
    refine fr_ite ?_ ?_
    · exact hK94 _
    · refine fr_b (fun v4 => ?_)
      refine fr_c (wX12_keeps _ _) (by decide) (fun r5 => ?_)
      refine fr_wr (by decide) (fun M6 => ?_)
      refine fr_b (fun v7 => ?_)
      refine fr_c (wX12_keeps _ _) (by decide) (fun r8 => ?_)
      refine fr_wr (by decide) (fun M9 => ?_)
      refine fr_b (fun v10 => ?_)
      refine fr_c (wX12_keeps _ _) (by decide) (fun r11 => ?_)
      refine fr_wr (by decide) (fun M12 => ?_)
      refine fr_b (fun v13 => ?_)
      refine fr_c (wX12_keeps _ _) (by decide) (fun r14 => ?_)
      refine fr_wr (by decide) (fun M15 => ?_)
      exact ih _ _
set_option maxHeartbeats 4000000 in
set_option maxRecDepth 100000 in
theorem wX12_keepsLaw_L96    : ∀ (n : Nat) (y1 : Int32) (M : Mem), Fr [(198, some 60), (208, none), (209, none), (210, none), (211, none), (212, none), (213, none), (214, none), (234, none)] rmU M (fX12_keepsLaw_L96 n y1 M) := by
  intro n
  induction n with
  | zero => intro y1 M; exact fr_none
  | succ n ih =>
    intro y1 M
    rw [fX12_keepsLaw_L96]
    refine fr_ite ?_ ?_
    · exact fr_some rfl
    · refine fr_b (fun v17 => ?_)
      refine fr_c (wX12_keeps _ _) (by decide) (fun r18 => ?_)
      refine fr_wr (by decide) (fun M19 => ?_)
      refine fr_b (fun v20 => ?_)
      refine fr_c (wX12_keeps _ _) (by decide) (fun r21 => ?_)
      refine fr_wr (by decide) (fun M22 => ?_)
      exact ih _ _
set_option maxHeartbeats 4000000 in
set_option maxRecDepth 100000 in
theorem wX12_keepsLaw  (M : Mem) : Fr [(198, some 60), (208, none), (209, none), (210, none), (211, none), (212, none), (213, none), (214, none), (234, none)] rmU M (fX12_keepsLaw M) := by
  unfold fX12_keepsLaw
  refine fr_b (fun v1 => ?_)
  refine fr_c (wX12_keeps _ _) (by decide) (fun r2 => ?_)
  refine fr_wr (by decide) (fun M3 => ?_)
  refine wX12_keepsLaw_L18 _ (fun M16 => ?_) FU _ _
  · refine wX12_keepsLaw_L96  FU _ _
set_option maxHeartbeats 4000000 in
set_option maxRecDepth 100000 in
theorem wX12_image_L35  (K63 : Mem → Option (Int32 × Mem)) (hK63 : ∀ (M : Mem), Fr [(198, some 0), (198, some 3), (198, some 6), (198, some 7), (198, some 35), (198, some 37), (198, some 39), (198, some 43), (198, some 48), (198, some 58), (198, some 59), (198, some 60), (199, none), (202, none), (203, none), (204, none), (205, none), (208, none), (209, none), (210, none), (211, none), (212, none), (213, none), (214, none), (216, none), (217, none), (218, none), (221, none), (225, none), (230, none), (231, none), (232, none), (234, none)] rmW M (K63 M)) : ∀ (n : Nat) (y2 : Int32) (M : Mem), Fr [(198, some 0), (198, some 3), (198, some 6), (198, some 7), (198, some 35), (198, some 37), (198, some 39), (198, some 43), (198, some 48), (198, some 58), (198, some 59), (198, some 60), (199, none), (202, none), (203, none), (204, none), (205, none), (208, none), (209, none), (210, none), (211, none), (212, none), (213, none), (214, none), (216, none), (217, none), (218, none), (221, none), (225, none), (230, none), (231, none), (232, none), (234, none)] rmW M (fX12_image_L35 K63 n y2 M) := by
  intro n
  induction n with
  | zero => intro y2 M; exact fr_none
  | succ n ih =>
    intro y2 M
    rw [fX12_image_L35]
    refine fr_ite ?_ ?_
    · exact hK63 _
    · refine fr_b (fun v6 => ?_)
      refine fr_c (wX12_keeps _ _) (by decide) (fun r7 => ?_)
      refine fr_wr (by decide) (fun M8 => ?_)
      exact ih _ _
set_option maxHeartbeats 4000000 in
set_option maxRecDepth 100000 in
theorem wX12_image_L69  (K98 : Mem → Option (Int32 × Mem)) (hK98 : ∀ (M : Mem), Fr [(198, some 0), (198, some 3), (198, some 6), (198, some 7), (198, some 35), (198, some 37), (198, some 39), (198, some 43), (198, some 48), (198, some 58), (198, some 59), (198, some 60), (199, none), (202, none), (203, none), (204, none), (205, none), (208, none), (209, none), (210, none), (211, none), (212, none), (213, none), (214, none), (216, none), (217, none), (218, none), (221, none), (225, none), (230, none), (231, none), (232, none), (234, none)] rmW M (K98 M)) : ∀ (n : Nat) (y2 : Int32) (M : Mem), Fr [(198, some 0), (198, some 3), (198, some 6), (198, some 7), (198, some 35), (198, some 37), (198, some 39), (198, some 43), (198, some 48), (198, some 58), (198, some 59), (198, some 60), (199, none), (202, none), (203, none), (204, none), (205, none), (208, none), (209, none), (210, none), (211, none), (212, none), (213, none), (214, none), (216, none), (217, none), (218, none), (221, none), (225, none), (230, none), (231, none), (232, none), (234, none)] rmW M (fX12_image_L69 K98 n y2 M) := by
  intro n
  induction n with
  | zero => intro y2 M; exact fr_none
  | succ n ih =>
    intro y2 M
    rw [fX12_image_L69]
    refine fr_ite ?_ ?_
    · exact hK98 _
    · refine fr_b (fun v11 => ?_)
      refine fr_c (wX12_keeps _ _) (by decide) (fun r12 => ?_)
      refine fr_wr (by decide) (fun M13 => ?_)
      exact ih _ _
set_option maxHeartbeats 4000000 in
set_option maxRecDepth 100000 in
theorem wX12_image (p1 : Int32) (M : Mem) : Fr [(198, some 0), (198, some 3), (198, some 6), (198, some 7), (198, some 35), (198, some 37), (198, some 39), (198, some 43), (198, some 48), (198, some 58), (198, some 59), (198, some 60), (199, none), (202, none), (203, none), (204, none), (205, none), (208, none), (209, none), (210, none), (211, none), (212, none), (213, none), (214, none), (216, none), (217, none), (218, none), (221, none), (225, none), (230, none), (231, none), (232, none), (234, none)] rmW M (fX12_image p1 M) := by
  unfold fX12_image
  refine fr_mu (by decide) (fun M1 => ?_)
  refine fr_jn (fun (J2 : Option (Int32 × Mem)) => Fr [(198, some 0), (198, some 3), (198, some 6), (198, some 7), (198, some 35), (198, some 37), (198, some 39), (198, some 43), (198, some 48), (198, some 58), (198, some 59), (198, some 60), (199, none), (202, none), (203, none), (204, none), (205, none), (208, none), (209, none), (210, none), (211, none), (212, none), (213, none), (214, none), (216, none), (217, none), (218, none), (221, none), (225, none), (230, none), (231, none), (232, none), (234, none)] rmW M1 (J2)) ( ?_) (fun J2 hJ2 => ?_)
  · refine fr_ite ?_ fr_none
    refine fr_mu (by decide) (fun M3 => ?_)
    refine fr_mu (by decide) (fun M4 => ?_)
    refine fr_mu (by decide) (fun M5 => ?_)
    refine wX12_image_L35 _ (fun M9 => ?_) FU _ _
    · refine fr_c (wX12_keepsTold _) (by decide) (fun M10 => ?_)
      refine wX12_image_L69 _ (fun M14 => ?_) FU _ _
      · refine fr_c (wX12_keepsLaw _) (by decide) (fun M15 => ?_)
        refine fr_ite ?_ ?_
        · refine fr_mu (by decide) (fun M16 => ?_)
          exact fr_some rfl
        · exact fr_some rfl
  · refine fr_ite ?_ ?_
    · refine fr_ite ?_ ?_
      · exact fr_some rfl
      · exact hJ2
    · exact hJ2
set_option maxHeartbeats 4000000 in
set_option maxRecDepth 100000 in
theorem wX12_look (p1 : Int32) (M : Mem) : Fr [(198, some 0)] rmW M (fX12_look p1 M) := by
  unfold fX12_look
  refine fr_mu (by decide) (fun M1 => ?_)
  refine fr_ite ?_ ?_
  · exact fr_some rfl
  · refine fr_ite ?_ ?_
    · exact fr_some rfl
    · refine fr_jn (fun (J2 : Option (Int32 × Mem)) => Fr [(198, some 0)] rmW M1 (J2)) ( ?_) (fun J2 hJ2 => ?_)
      · refine fr_b (fun v3 => ?_)
        exact fr_some rfl
      · refine fr_ite ?_ ?_
        · exact hJ2
        · refine fr_ite ?_ ?_
          · exact hJ2
          · refine fr_jn (fun (J4 : Option (Int32 × Mem)) => Fr [(198, some 0)] rmW M1 (J4)) ( ?_) (fun J4 hJ4 => ?_)
            · refine fr_b (fun v5 => ?_)
              exact fr_some rfl
            · refine fr_ite ?_ ?_
              · exact hJ4
              · refine fr_ite ?_ ?_
                · exact hJ4
                · refine fr_ite ?_ ?_
                  · refine fr_b (fun v9 => ?_)
                    exact fr_some rfl
                  · refine fr_ite ?_ ?_
                    · refine fr_b (fun v8 => ?_)
                      exact fr_some rfl
                    · refine fr_ite ?_ ?_
                      · refine fr_b (fun v7 => ?_)
                        exact fr_some rfl
                      · refine fr_ite ?_ ?_
                        · refine fr_b (fun v6 => ?_)
                          exact fr_some rfl
                        · refine fr_ite ?_ ?_
                          · exact fr_some rfl
                          · refine fr_ite ?_ ?_
                            · exact fr_some rfl
                            · refine fr_ite ?_ ?_
                              · exact fr_some rfl
                              · refine fr_ite ?_ ?_
                                · exact fr_some rfl
                                · exact fr_some rfl
set_option maxHeartbeats 4000000 in
set_option maxRecDepth 100000 in
theorem wL_law_L18 (g : G)    : ∀ (n : Nat) (y3 : Int32) (M : Mem), Fr [(0, some 2), (2, some 0), (2, some 1), (2, some 2), (2, some 3), (2, some 4), (2, some 5), (3, none), (4, none), (5, none), (6, none), (7, none), (8, none), (9, none), (10, none), (11, none), (12, some 0), (13, none), (14, none), (15, none), (16, none), (17, some 0), (17, some 1), (18, none), (19, none), (20, none), (21, none), (22, none), (23, none), (24, none), (25, some 0), (26, none), (27, none), (28, none), (29, none), (30, some 0), (31, none), (32, none), (33, none), (34, none), (35, some 0), (36, none), (37, none), (38, none), (39, none), (41, some 0), (42, none), (43, some 0), (44, none), (45, some 0), (46, none), (47, some 0), (48, none), (49, none), (50, none), (51, none), (52, none), (54, some 0), (54, some 1), (54, some 2), (54, some 3), (54, some 4), (54, some 5), (55, none), (56, none), (57, none), (58, none), (59, none), (60, none), (61, none), (62, none), (63, none), (64, some 0), (65, none), (66, none), (67, none), (68, none), (69, some 0), (69, some 1), (70, none), (71, none), (72, none), (73, none), (74, none), (77, some 0), (78, none), (79, none), (80, none), (81, none), (82, some 0), (83, none), (84, none), (85, none), (86, none), (87, some 0), (88, none), (89, none), (90, none), (91, none), (93, some 0), (94, none), (95, some 0), (96, none), (97, some 0), (98, none), (99, some 0), (100, none), (101, none), (105, some 0), (105, some 1), (107, none), (108, some 0), (108, some 1), (108, some 2), (108, some 3), (108, some 4), (108, some 5), (109, none), (110, none), (111, none), (112, none), (113, none), (114, none), (115, none), (116, none), (117, none), (118, some 0), (118, some 1), (118, some 2), (118, some 3), (118, some 4), (118, some 5), (119, none), (120, none), (121, none), (122, none), (123, none), (124, none), (125, none), (126, none), (127, none), (128, some 0), (128, some 1), (128, some 2), (128, some 3), (128, some 4), (128, some 5), (129, none), (130, none), (131, none), (132, none), (133, none), (134, none), (135, none), (136, none), (137, none), (138, some 0), (138, some 1), (138, some 2), (138, some 3), (138, some 4), (138, some 5), (139, none), (140, none), (141, none), (142, none), (143, none), (144, none), (145, none), (146, none), (147, none), (148, some 0), (148, some 1), (148, some 2), (148, some 3), (148, some 4), (148, some 5), (149, none), (150, none), (151, none), (152, none), (153, none), (154, none), (155, none), (156, none), (157, none), (158, some 0), (158, some 1), (158, some 2), (158, some 3), (158, some 4), (158, some 5), (159, none), (160, none), (161, none), (162, none), (163, none), (164, none), (165, none), (166, none), (167, none), (168, some 0), (168, some 1), (168, some 2), (168, some 3), (168, some 4), (168, some 5), (169, none), (170, none), (171, none), (172, none), (173, none), (174, none), (175, none), (176, none), (177, none), (178, some 1), (178, some 2), (178, some 3), (178, some 4), (178, some 5), (178, some 6), (178, some 7), (178, some 8), (179, none), (181, some 0), (181, some 1), (182, none), (183, none), (184, none), (185, none), (186, none), (189, some 1), (189, some 2), (189, some 3), (189, some 4), (190, some 0), (191, none), (192, none), (193, none), (194, none), (196, none), (197, none), (198, some 0), (198, some 3), (198, some 5), (198, some 6), (198, some 7), (198, some 13), (198, some 14), (198, some 15), (198, some 16), (198, some 17), (198, some 26), (198, some 27), (198, some 28), (198, some 30), (198, some 31), (198, some 32), (198, some 33), (198, some 34), (198, some 35), (198, some 37), (198, some 39), (198, some 43), (198, some 48), (198, some 58), (198, some 59), (198, some 60), (199, none), (200, none), (201, none), (202, none), (203, none), (204, none), (205, none), (206, none), (208, none), (209, none), (210, none), (211, none), (212, none), (213, none), (214, none), (215, none), (216, none), (217, none), (218, none), (219, none), (220, none), (221, none), (222, none), (223, none), (224, none), (225, none), (226, none), (227, none), (228, none), (229, none), (230, none), (231, none), (232, none), (233, none), (234, none)] rmW M (fL_law_L18 g n y3 M) := by
  intro n
  induction n with
  | zero => intro y3 M; exact fr_none
  | succ n ih =>
    intro y3 M
    rw [fL_law_L18]
    refine fr_ite ?_ ?_
    · exact fr_some rfl
    · refine fr_b (fun v1 => ?_)
      refine fr_jn (fun (J2 : (Mem) → Option (Int32 × Mem)) => ∀ (M3 : Mem), Fr [(0, some 2), (2, some 0), (2, some 1), (2, some 2), (2, some 3), (2, some 4), (2, some 5), (3, none), (4, none), (5, none), (6, none), (7, none), (8, none), (9, none), (10, none), (11, none), (12, some 0), (13, none), (14, none), (15, none), (16, none), (17, some 0), (17, some 1), (18, none), (19, none), (20, none), (21, none), (22, none), (23, none), (24, none), (25, some 0), (26, none), (27, none), (28, none), (29, none), (30, some 0), (31, none), (32, none), (33, none), (34, none), (35, some 0), (36, none), (37, none), (38, none), (39, none), (41, some 0), (42, none), (43, some 0), (44, none), (45, some 0), (46, none), (47, some 0), (48, none), (49, none), (50, none), (51, none), (52, none), (54, some 0), (54, some 1), (54, some 2), (54, some 3), (54, some 4), (54, some 5), (55, none), (56, none), (57, none), (58, none), (59, none), (60, none), (61, none), (62, none), (63, none), (64, some 0), (65, none), (66, none), (67, none), (68, none), (69, some 0), (69, some 1), (70, none), (71, none), (72, none), (73, none), (74, none), (77, some 0), (78, none), (79, none), (80, none), (81, none), (82, some 0), (83, none), (84, none), (85, none), (86, none), (87, some 0), (88, none), (89, none), (90, none), (91, none), (93, some 0), (94, none), (95, some 0), (96, none), (97, some 0), (98, none), (99, some 0), (100, none), (101, none), (105, some 0), (105, some 1), (107, none), (108, some 0), (108, some 1), (108, some 2), (108, some 3), (108, some 4), (108, some 5), (109, none), (110, none), (111, none), (112, none), (113, none), (114, none), (115, none), (116, none), (117, none), (118, some 0), (118, some 1), (118, some 2), (118, some 3), (118, some 4), (118, some 5), (119, none), (120, none), (121, none), (122, none), (123, none), (124, none), (125, none), (126, none), (127, none), (128, some 0), (128, some 1), (128, some 2), (128, some 3), (128, some 4), (128, some 5), (129, none), (130, none), (131, none), (132, none), (133, none), (134, none), (135, none), (136, none), (137, none), (138, some 0), (138, some 1), (138, some 2), (138, some 3), (138, some 4), (138, some 5), (139, none), (140, none), (141, none), (142, none), (143, none), (144, none), (145, none), (146, none), (147, none), (148, some 0), (148, some 1), (148, some 2), (148, some 3), (148, some 4), (148, some 5), (149, none), (150, none), (151, none), (152, none), (153, none), (154, none), (155, none), (156, none), (157, none), (158, some 0), (158, some 1), (158, some 2), (158, some 3), (158, some 4), (158, some 5), (159, none), (160, none), (161, none), (162, none), (163, none), (164, none), (165, none), (166, none), (167, none), (168, some 0), (168, some 1), (168, some 2), (168, some 3), (168, some 4), (168, some 5), (169, none), (170, none), (171, none), (172, none), (173, none), (174, none), (175, none), (176, none), (177, none), (178, some 1), (178, some 2), (178, some 3), (178, some 4), (178, some 5), (178, some 6), (178, some 7), (178, some 8), (179, none), (181, some 0), (181, some 1), (182, none), (183, none), (184, none), (185, none), (186, none), (189, some 1), (189, some 2), (189, some 3), (189, some 4), (190, some 0), (191, none), (192, none), (193, none), (194, none), (196, none), (197, none), (198, some 0), (198, some 3), (198, some 5), (198, some 6), (198, some 7), (198, some 13), (198, some 14), (198, some 15), (198, some 16), (198, some 17), (198, some 26), (198, some 27), (198, some 28), (198, some 30), (198, some 31), (198, some 32), (198, some 33), (198, some 34), (198, some 35), (198, some 37), (198, some 39), (198, some 43), (198, some 48), (198, some 58), (198, some 59), (198, some 60), (199, none), (200, none), (201, none), (202, none), (203, none), (204, none), (205, none), (206, none), (208, none), (209, none), (210, none), (211, none), (212, none), (213, none), (214, none), (215, none), (216, none), (217, none), (218, none), (219, none), (220, none), (221, none), (222, none), (223, none), (224, none), (225, none), (226, none), (227, none), (228, none), (229, none), (230, none), (231, none), (232, none), (233, none), (234, none)] rmW M3 (J2 M3)) (fun M3 => ?_) (fun J2 hJ2 => ?_)
      · exact ih _ _
      · refine fr_swt (fr_all ?_ (fr_all ?_ (fr_all ?_ (fr_all ?_ (fr_all ?_ (fr_all ?_ (fr_all ?_ (fr_all ?_ (fr_all ?_ (fr_all ?_ (fr_all ?_ (fr_all ?_ (fr_all ?_ (fr_all ?_ (fr_all ?_ (fr_all ?_ (fr_all ?_ (fr_all ?_ (fr_all ?_ (fr_all ?_ (fr_all ?_ (fr_all ?_ (fr_all ?_ (fr_all ?_ (fr_all ?_ (fr_all ?_ (fr_all ?_ (fr_all ?_ (fr_all ?_ (fr_all ?_ (fr_all ?_ (fr_all ?_ (fr_all ?_ (fr_all ?_ (fr_all ?_ (fr_all ?_ (true_nil))))))))))))))))))))))))))))))))))))) ?_
        · refine fr_b (fun v4 => ?_)
          refine fr_c (wX11_state _ _) (by decide) (fun r5 => ?_)
          refine fr_b (fun v6 => ?_)
          refine fr_c (wX12_state _ _) (by decide) (fun r7 => ?_)
          refine fr_ite ?_ ?_
          · exact hJ2 _
          · exact fr_some rfl
        · refine fr_b (fun v8 => ?_)
          refine fr_c (wX11_person _ _) (by decide) (fun r9 => ?_)
          refine fr_b (fun v10 => ?_)
          refine fr_c (wX12_person _ _) (by decide) (fun r11 => ?_)
          refine fr_ite ?_ ?_
          · exact hJ2 _
          · exact fr_some rfl
        · refine fr_b (fun v12 => ?_)
          refine fr_b (fun v13 => ?_)
          refine fr_b (fun v14 => ?_)
          refine fr_c (wX11_bargain _ _ _ _) (by decide) (fun r15 => ?_)
          refine fr_b (fun v16 => ?_)
          refine fr_b (fun v17 => ?_)
          refine fr_b (fun v18 => ?_)
          refine fr_c (wX12_bargain _ _ _ _) (by decide) (fun r19 => ?_)
          refine fr_ite ?_ ?_
          · exact hJ2 _
          · exact fr_some rfl
        · refine fr_b (fun v20 => ?_)
          refine fr_b (fun v21 => ?_)
          refine fr_b (fun v22 => ?_)
          refine fr_c (wX11_set _ _ _ _) (by decide) (fun r23 => ?_)
          refine fr_b (fun v24 => ?_)
          refine fr_b (fun v25 => ?_)
          refine fr_b (fun v26 => ?_)
          refine fr_c (wX12_set _ _ _ _) (by decide) (fun r27 => ?_)
          refine fr_ite ?_ ?_
          · exact hJ2 _
          · exact fr_some rfl
        · refine fr_b (fun v28 => ?_)
          refine fr_b (fun v29 => ?_)
          refine fr_c (wX11_act _ _ _) (by decide) (fun r30 => ?_)
          refine fr_b (fun v31 => ?_)
          refine fr_b (fun v32 => ?_)
          refine fr_c (wX12_act _ _ _) (by decide) (fun r33 => ?_)
          refine fr_ite ?_ ?_
          · exact hJ2 _
          · exact fr_some rfl
        · refine fr_b (fun v34 => ?_)
          refine fr_c (wX11_days _ _) (by decide) (fun r35 => ?_)
          refine fr_b (fun v36 => ?_)
          refine fr_c (wX12_days _ _) (by decide) (fun r37 => ?_)
          refine fr_ite ?_ ?_
          · exact hJ2 _
          · exact fr_some rfl
        · refine fr_b (fun v38 => ?_)
          refine fr_b (fun v39 => ?_)
          refine fr_b (fun v40 => ?_)
          refine fr_b (fun v41 => ?_)
          refine fr_b (fun v42 => ?_)
          refine fr_c (wX11_feed _ _ _ _ _ _) (by decide) (fun r43 => ?_)
          refine fr_b (fun v44 => ?_)
          refine fr_b (fun v45 => ?_)
          refine fr_b (fun v46 => ?_)
          refine fr_b (fun v47 => ?_)
          refine fr_b (fun v48 => ?_)
          refine fr_c (wX12_feed _ _ _ _ _ _) (by decide) (fun r49 => ?_)
          refine fr_ite ?_ ?_
          · exact hJ2 _
          · exact fr_some rfl
        · refine fr_b (fun v50 => ?_)
          refine fr_c (wX11_end _ _) (by decide) (fun r51 => ?_)
          refine fr_b (fun v52 => ?_)
          refine fr_c (wX12_end _ _) (by decide) (fun r53 => ?_)
          refine fr_ite ?_ ?_
          · exact hJ2 _
          · exact fr_some rfl
        · refine fr_b (fun v54 => ?_)
          refine fr_c (wX11_text _ _) (by decide) (fun r55 => ?_)
          refine fr_b (fun v56 => ?_)
          refine fr_c (wX12_text _ _) (by decide) (fun r57 => ?_)
          refine fr_ite ?_ ?_
          · exact hJ2 _
          · exact fr_some rfl
        · refine fr_b (fun v58 => ?_)
          refine fr_b (fun v59 => ?_)
          refine fr_c (wX12_fault _ _) (by decide) (fun r60 => ?_)
          refine fr_ite ?_ ?_
          · exact hJ2 _
          · exact fr_some rfl
        · refine fr_b (fun v61 => ?_)
          refine fr_b (fun v62 => ?_)
          refine fr_b (fun v63 => ?_)
          refine fr_b (fun v64 => ?_)
          refine fr_b (fun v65 => ?_)
          refine fr_c (wX12_of _ _ _) (by decide) (fun r66 => ?_)
          refine fr_ite ?_ ?_
          · exact hJ2 _
          · exact fr_some rfl
        · refine fr_b (fun v67 => ?_)
          refine fr_b (fun v68 => ?_)
          refine fr_c (wX11_deal _ _ _) (by decide) (fun r69 => ?_)
          refine fr_b (fun v70 => ?_)
          refine fr_b (fun v71 => ?_)
          refine fr_c (wX12_deal _ _ _) (by decide) (fun r72 => ?_)
          refine fr_ite ?_ ?_
          · exact hJ2 _
          · exact fr_some rfl
        · refine fr_b (fun v73 => ?_)
          refine fr_b (fun v74 => ?_)
          refine fr_b (fun v75 => ?_)
          refine fr_b (fun v76 => ?_)
          refine fr_b (fun v77 => ?_)
          refine fr_c (wX12_book _ _ _) (by decide) (fun r78 => ?_)
          refine fr_ite ?_ ?_
          · exact hJ2 _
          · exact fr_some rfl
        · refine fr_b (fun v79 => ?_)
          refine fr_b (fun v80 => ?_)
          refine fr_c (wX11_goes _ _ _) (by decide) (fun r81 => ?_)
          refine fr_b (fun v82 => ?_)
          refine fr_b (fun v83 => ?_)
          refine fr_c (wX12_goes _ _ _) (by decide) (fun r84 => ?_)
          refine fr_ite ?_ ?_
          · exact hJ2 _
          · exact fr_some rfl
        · refine fr_b (fun v85 => ?_)
          refine fr_c (wX11_holds _ _) (by decide) (fun r86 => ?_)
          refine fr_b (fun v87 => ?_)
          refine fr_c (wX12_holds _ _) (by decide) (fun r88 => ?_)
          refine fr_ite ?_ ?_
          · exact hJ2 _
          · exact fr_some rfl
        · refine fr_b (fun v89 => ?_)
          refine fr_b (fun v90 => ?_)
          refine fr_b (fun v91 => ?_)
          refine fr_b (fun v92 => ?_)
          refine fr_b (fun v93 => ?_)
          refine fr_c (wX12_deals _ _ _) (by decide) (fun r94 => ?_)
          refine fr_ite ?_ ?_
          · exact hJ2 _
          · exact fr_some rfl
        · refine fr_b (fun v95 => ?_)
          refine fr_c (wX11_jump _ _) (by decide) (fun r96 => ?_)
          refine fr_b (fun v97 => ?_)
          refine fr_c (wX12_jump _ _) (by decide) (fun r98 => ?_)
          refine fr_ite ?_ ?_
          · exact hJ2 _
          · exact fr_some rfl
        · refine fr_b (fun v99 => ?_)
          refine fr_c (wX11_jumps _ _) (by decide) (fun r100 => ?_)
          refine fr_b (fun v101 => ?_)
          refine fr_c (wX12_jumps _ _) (by decide) (fun r102 => ?_)
          refine fr_ite ?_ ?_
          · exact hJ2 _
          · exact fr_some rfl
        · refine fr_b (fun v103 => ?_)
          refine fr_b (fun v104 => ?_)
          refine fr_b (fun v105 => ?_)
          refine fr_c (wX11_walks _ _ _ _) (by decide) (fun r106 => ?_)
          refine fr_b (fun v107 => ?_)
          refine fr_b (fun v108 => ?_)
          refine fr_b (fun v109 => ?_)
          refine fr_c (wX12_walks _ _ _ _) (by decide) (fun r110 => ?_)
          refine fr_ite ?_ ?_
          · exact hJ2 _
          · exact fr_some rfl
        · refine fr_b (fun v111 => ?_)
          refine fr_b (fun v112 => ?_)
          refine fr_b (fun v113 => ?_)
          refine fr_b (fun v114 => ?_)
          refine fr_b (fun v115 => ?_)
          refine fr_c (wX12_apart _ _ _) (by decide) (fun r116 => ?_)
          refine fr_ite ?_ ?_
          · exact hJ2 _
          · exact fr_some rfl
        · refine fr_b (fun v117 => ?_)
          refine fr_b (fun v118 => ?_)
          refine fr_b (fun v119 => ?_)
          refine fr_b (fun v120 => ?_)
          refine fr_b (fun v121 => ?_)
          refine fr_c (wX12_corners _ _ _) (by decide) (fun r122 => ?_)
          refine fr_ite ?_ ?_
          · exact hJ2 _
          · exact fr_some rfl
        · refine fr_b (fun v123 => ?_)
          refine fr_b (fun v124 => ?_)
          refine fr_c (wX11_parts _ _ _) (by decide) (fun r125 => ?_)
          refine fr_b (fun v126 => ?_)
          refine fr_b (fun v127 => ?_)
          refine fr_c (wX12_parts _ _ _) (by decide) (fun r128 => ?_)
          refine fr_ite ?_ ?_
          · exact hJ2 _
          · exact fr_some rfl
        · refine fr_b (fun v129 => ?_)
          refine fr_b (fun v130 => ?_)
          refine fr_b (fun v131 => ?_)
          refine fr_b (fun v132 => ?_)
          refine fr_b (fun v133 => ?_)
          refine fr_c (wX12_lasts _ _ _) (by decide) (fun r134 => ?_)
          refine fr_ite ?_ ?_
          · exact hJ2 _
          · exact fr_some rfl
        · refine fr_b (fun v135 => ?_)
          refine fr_c (wX11_turn _ _) (by decide) (fun r136 => ?_)
          refine fr_b (fun v137 => ?_)
          refine fr_c (wX12_turn _ _) (by decide) (fun r138 => ?_)
          refine fr_ite ?_ ?_
          · exact hJ2 _
          · exact fr_some rfl
        · refine fr_b (fun v139 => ?_)
          refine fr_c (wX11_turning _ _) (by decide) (fun r140 => ?_)
          refine fr_b (fun v141 => ?_)
          refine fr_c (wX12_turning _ _) (by decide) (fun r142 => ?_)
          refine fr_ite ?_ ?_
          · exact hJ2 _
          · exact fr_some rfl
        · refine fr_b (fun v143 => ?_)
          refine fr_b (fun v144 => ?_)
          refine fr_b (fun v145 => ?_)
          refine fr_b (fun v146 => ?_)
          refine fr_b (fun v147 => ?_)
          refine fr_c (wX12_ant _ _ _) (by decide) (fun r148 => ?_)
          refine fr_ite ?_ ?_
          · exact hJ2 _
          · exact fr_some rfl
        · refine fr_b (fun v149 => ?_)
          refine fr_b (fun v150 => ?_)
          refine fr_b (fun v151 => ?_)
          refine fr_b (fun v152 => ?_)
          refine fr_b (fun v153 => ?_)
          refine fr_b (fun v154 => ?_)
          refine fr_b (fun v155 => ?_)
          refine fr_c (wX12_row _ _ _ _) (by decide) (fun r156 => ?_)
          refine fr_ite ?_ ?_
          · exact hJ2 _
          · exact fr_some rfl
        · refine fr_b (fun v157 => ?_)
          refine fr_b (fun v158 => ?_)
          refine fr_b (fun v159 => ?_)
          refine fr_b (fun v160 => ?_)
          refine fr_b (fun v161 => ?_)
          refine fr_c (wX12_own _ _ _) (by decide) (fun r162 => ?_)
          refine fr_ite ?_ ?_
          · exact hJ2 _
          · exact fr_some rfl
        · refine fr_b (fun v163 => ?_)
          refine fr_b (fun v164 => ?_)
          refine fr_b (fun v165 => ?_)
          refine fr_b (fun v166 => ?_)
          refine fr_b (fun v167 => ?_)
          refine fr_b (fun v168 => ?_)
          refine fr_b (fun v169 => ?_)
          refine fr_b (fun v170 => ?_)
          refine fr_b (fun v171 => ?_)
          refine fr_c (wX12_round _ _ _ _ _) (by decide) (fun r172 => ?_)
          refine fr_ite ?_ ?_
          · exact hJ2 _
          · exact fr_some rfl
        · refine fr_b (fun v173 => ?_)
          refine fr_b (fun v174 => ?_)
          refine fr_c (wX11_nine _ _ _) (by decide) (fun r175 => ?_)
          refine fr_b (fun v176 => ?_)
          refine fr_b (fun v177 => ?_)
          refine fr_c (wX12_nine _ _ _) (by decide) (fun r178 => ?_)
          refine fr_ite ?_ ?_
          · exact hJ2 _
          · exact fr_some rfl
        · refine fr_b (fun v179 => ?_)
          refine fr_c (wX11_even _ _) (by decide) (fun r180 => ?_)
          refine fr_b (fun v181 => ?_)
          refine fr_c (wX12_even _ _) (by decide) (fun r182 => ?_)
          refine fr_ite ?_ ?_
          · exact hJ2 _
          · exact fr_some rfl
        · refine fr_b (fun v183 => ?_)
          refine fr_b (fun v184 => ?_)
          refine fr_c (wX11_rule _ _ _) (by decide) (fun r185 => ?_)
          refine fr_b (fun v186 => ?_)
          refine fr_b (fun v187 => ?_)
          refine fr_c (wX12_rule _ _ _) (by decide) (fun r188 => ?_)
          refine fr_ite ?_ ?_
          · exact hJ2 _
          · exact fr_some rfl
        · refine fr_b (fun v189 => ?_)
          refine fr_b (fun v190 => ?_)
          refine fr_c (wX11_game _ _ _) (by decide) (fun r191 => ?_)
          refine fr_b (fun v192 => ?_)
          refine fr_b (fun v193 => ?_)
          refine fr_c (wX12_game _ _ _) (by decide) (fun r194 => ?_)
          refine fr_ite ?_ ?_
          · exact hJ2 _
          · exact fr_some rfl
        · refine fr_c (wX11_undo _) (by decide) (fun r195 => ?_)
          refine fr_c (wX12_undo _) (by decide) (fun r196 => ?_)
          refine fr_ite ?_ ?_
          · exact hJ2 _
          · exact fr_some rfl
        · refine fr_b (fun v197 => ?_)
          refine fr_jn (fun (J198 : (Int32) → Option (Int32 × Mem)) => ∀ (t199 : Int32), Fr [(0, some 2), (2, some 0), (2, some 1), (2, some 2), (2, some 3), (2, some 4), (2, some 5), (3, none), (4, none), (5, none), (6, none), (7, none), (8, none), (9, none), (10, none), (11, none), (12, some 0), (13, none), (14, none), (15, none), (16, none), (17, some 0), (17, some 1), (18, none), (19, none), (20, none), (21, none), (22, none), (23, none), (24, none), (25, some 0), (26, none), (27, none), (28, none), (29, none), (30, some 0), (31, none), (32, none), (33, none), (34, none), (35, some 0), (36, none), (37, none), (38, none), (39, none), (41, some 0), (42, none), (43, some 0), (44, none), (45, some 0), (46, none), (47, some 0), (48, none), (49, none), (50, none), (51, none), (52, none), (54, some 0), (54, some 1), (54, some 2), (54, some 3), (54, some 4), (54, some 5), (55, none), (56, none), (57, none), (58, none), (59, none), (60, none), (61, none), (62, none), (63, none), (64, some 0), (65, none), (66, none), (67, none), (68, none), (69, some 0), (69, some 1), (70, none), (71, none), (72, none), (73, none), (74, none), (77, some 0), (78, none), (79, none), (80, none), (81, none), (82, some 0), (83, none), (84, none), (85, none), (86, none), (87, some 0), (88, none), (89, none), (90, none), (91, none), (93, some 0), (94, none), (95, some 0), (96, none), (97, some 0), (98, none), (99, some 0), (100, none), (101, none), (105, some 0), (105, some 1), (107, none), (108, some 0), (108, some 1), (108, some 2), (108, some 3), (108, some 4), (108, some 5), (109, none), (110, none), (111, none), (112, none), (113, none), (114, none), (115, none), (116, none), (117, none), (118, some 0), (118, some 1), (118, some 2), (118, some 3), (118, some 4), (118, some 5), (119, none), (120, none), (121, none), (122, none), (123, none), (124, none), (125, none), (126, none), (127, none), (128, some 0), (128, some 1), (128, some 2), (128, some 3), (128, some 4), (128, some 5), (129, none), (130, none), (131, none), (132, none), (133, none), (134, none), (135, none), (136, none), (137, none), (138, some 0), (138, some 1), (138, some 2), (138, some 3), (138, some 4), (138, some 5), (139, none), (140, none), (141, none), (142, none), (143, none), (144, none), (145, none), (146, none), (147, none), (148, some 0), (148, some 1), (148, some 2), (148, some 3), (148, some 4), (148, some 5), (149, none), (150, none), (151, none), (152, none), (153, none), (154, none), (155, none), (156, none), (157, none), (158, some 0), (158, some 1), (158, some 2), (158, some 3), (158, some 4), (158, some 5), (159, none), (160, none), (161, none), (162, none), (163, none), (164, none), (165, none), (166, none), (167, none), (168, some 0), (168, some 1), (168, some 2), (168, some 3), (168, some 4), (168, some 5), (169, none), (170, none), (171, none), (172, none), (173, none), (174, none), (175, none), (176, none), (177, none), (178, some 1), (178, some 2), (178, some 3), (178, some 4), (178, some 5), (178, some 6), (178, some 7), (178, some 8), (179, none), (181, some 0), (181, some 1), (182, none), (183, none), (184, none), (185, none), (186, none), (189, some 1), (189, some 2), (189, some 3), (189, some 4), (190, some 0), (191, none), (192, none), (193, none), (194, none), (196, none), (197, none), (198, some 0), (198, some 3), (198, some 5), (198, some 6), (198, some 7), (198, some 13), (198, some 14), (198, some 15), (198, some 16), (198, some 17), (198, some 26), (198, some 27), (198, some 28), (198, some 30), (198, some 31), (198, some 32), (198, some 33), (198, some 34), (198, some 35), (198, some 37), (198, some 39), (198, some 43), (198, some 48), (198, some 58), (198, some 59), (198, some 60), (199, none), (200, none), (201, none), (202, none), (203, none), (204, none), (205, none), (206, none), (208, none), (209, none), (210, none), (211, none), (212, none), (213, none), (214, none), (215, none), (216, none), (217, none), (218, none), (219, none), (220, none), (221, none), (222, none), (223, none), (224, none), (225, none), (226, none), (227, none), (228, none), (229, none), (230, none), (231, none), (232, none), (233, none), (234, none)] rmW M (J198 t199)) (fun t199 => ?_) (fun J198 hJ198 => ?_)
          · refine fr_c (wX11_image _ _) (by decide) (fun r200 => ?_)
            refine fr_b (fun v201 => ?_)
            refine fr_jn (fun (J202 : (Int32) → Option (Int32 × Mem)) => ∀ (t203 : Int32), Fr [(0, some 2), (2, some 0), (2, some 1), (2, some 2), (2, some 3), (2, some 4), (2, some 5), (3, none), (4, none), (5, none), (6, none), (7, none), (8, none), (9, none), (10, none), (11, none), (12, some 0), (13, none), (14, none), (15, none), (16, none), (17, some 0), (17, some 1), (18, none), (19, none), (20, none), (21, none), (22, none), (23, none), (24, none), (25, some 0), (26, none), (27, none), (28, none), (29, none), (30, some 0), (31, none), (32, none), (33, none), (34, none), (35, some 0), (36, none), (37, none), (38, none), (39, none), (41, some 0), (42, none), (43, some 0), (44, none), (45, some 0), (46, none), (47, some 0), (48, none), (49, none), (50, none), (51, none), (52, none), (54, some 0), (54, some 1), (54, some 2), (54, some 3), (54, some 4), (54, some 5), (55, none), (56, none), (57, none), (58, none), (59, none), (60, none), (61, none), (62, none), (63, none), (64, some 0), (65, none), (66, none), (67, none), (68, none), (69, some 0), (69, some 1), (70, none), (71, none), (72, none), (73, none), (74, none), (77, some 0), (78, none), (79, none), (80, none), (81, none), (82, some 0), (83, none), (84, none), (85, none), (86, none), (87, some 0), (88, none), (89, none), (90, none), (91, none), (93, some 0), (94, none), (95, some 0), (96, none), (97, some 0), (98, none), (99, some 0), (100, none), (101, none), (105, some 0), (105, some 1), (107, none), (108, some 0), (108, some 1), (108, some 2), (108, some 3), (108, some 4), (108, some 5), (109, none), (110, none), (111, none), (112, none), (113, none), (114, none), (115, none), (116, none), (117, none), (118, some 0), (118, some 1), (118, some 2), (118, some 3), (118, some 4), (118, some 5), (119, none), (120, none), (121, none), (122, none), (123, none), (124, none), (125, none), (126, none), (127, none), (128, some 0), (128, some 1), (128, some 2), (128, some 3), (128, some 4), (128, some 5), (129, none), (130, none), (131, none), (132, none), (133, none), (134, none), (135, none), (136, none), (137, none), (138, some 0), (138, some 1), (138, some 2), (138, some 3), (138, some 4), (138, some 5), (139, none), (140, none), (141, none), (142, none), (143, none), (144, none), (145, none), (146, none), (147, none), (148, some 0), (148, some 1), (148, some 2), (148, some 3), (148, some 4), (148, some 5), (149, none), (150, none), (151, none), (152, none), (153, none), (154, none), (155, none), (156, none), (157, none), (158, some 0), (158, some 1), (158, some 2), (158, some 3), (158, some 4), (158, some 5), (159, none), (160, none), (161, none), (162, none), (163, none), (164, none), (165, none), (166, none), (167, none), (168, some 0), (168, some 1), (168, some 2), (168, some 3), (168, some 4), (168, some 5), (169, none), (170, none), (171, none), (172, none), (173, none), (174, none), (175, none), (176, none), (177, none), (178, some 1), (178, some 2), (178, some 3), (178, some 4), (178, some 5), (178, some 6), (178, some 7), (178, some 8), (179, none), (181, some 0), (181, some 1), (182, none), (183, none), (184, none), (185, none), (186, none), (189, some 1), (189, some 2), (189, some 3), (189, some 4), (190, some 0), (191, none), (192, none), (193, none), (194, none), (196, none), (197, none), (198, some 0), (198, some 3), (198, some 5), (198, some 6), (198, some 7), (198, some 13), (198, some 14), (198, some 15), (198, some 16), (198, some 17), (198, some 26), (198, some 27), (198, some 28), (198, some 30), (198, some 31), (198, some 32), (198, some 33), (198, some 34), (198, some 35), (198, some 37), (198, some 39), (198, some 43), (198, some 48), (198, some 58), (198, some 59), (198, some 60), (199, none), (200, none), (201, none), (202, none), (203, none), (204, none), (205, none), (206, none), (208, none), (209, none), (210, none), (211, none), (212, none), (213, none), (214, none), (215, none), (216, none), (217, none), (218, none), (219, none), (220, none), (221, none), (222, none), (223, none), (224, none), (225, none), (226, none), (227, none), (228, none), (229, none), (230, none), (231, none), (232, none), (233, none), (234, none)] rmW r200.2 (J202 t203)) (fun t203 => ?_) (fun J202 hJ202 => ?_)
            · refine fr_c (wX12_image _ _) (by decide) (fun r204 => ?_)
              refine fr_ite ?_ ?_
              · exact hJ2 _
              · exact fr_some rfl
            · refine fr_ite ?_ ?_
              · exact hJ202 _
              · exact hJ202 _
          · refine fr_ite ?_ ?_
            · exact hJ198 _
            · exact hJ198 _
        · refine fr_b (fun v205 => ?_)
          refine fr_b (fun v206 => ?_)
          refine fr_b (fun v207 => ?_)
          refine fr_c (wX12_look _ _) (by decide) (fun r208 => ?_)
          refine fr_ite ?_ ?_
          · exact hJ2 _
          · exact fr_some rfl
        · exact hJ2 _
set_option maxHeartbeats 4000000 in
set_option maxRecDepth 100000 in
theorem wL_law (g : G) (p3 : Int32) (M : Mem) : Fr [(0, some 2), (2, some 0), (2, some 1), (2, some 2), (2, some 3), (2, some 4), (2, some 5), (3, none), (4, none), (5, none), (6, none), (7, none), (8, none), (9, none), (10, none), (11, none), (12, some 0), (13, none), (14, none), (15, none), (16, none), (17, some 0), (17, some 1), (18, none), (19, none), (20, none), (21, none), (22, none), (23, none), (24, none), (25, some 0), (26, none), (27, none), (28, none), (29, none), (30, some 0), (31, none), (32, none), (33, none), (34, none), (35, some 0), (36, none), (37, none), (38, none), (39, none), (41, some 0), (42, none), (43, some 0), (44, none), (45, some 0), (46, none), (47, some 0), (48, none), (49, none), (50, none), (51, none), (52, none), (54, some 0), (54, some 1), (54, some 2), (54, some 3), (54, some 4), (54, some 5), (55, none), (56, none), (57, none), (58, none), (59, none), (60, none), (61, none), (62, none), (63, none), (64, some 0), (65, none), (66, none), (67, none), (68, none), (69, some 0), (69, some 1), (70, none), (71, none), (72, none), (73, none), (74, none), (77, some 0), (78, none), (79, none), (80, none), (81, none), (82, some 0), (83, none), (84, none), (85, none), (86, none), (87, some 0), (88, none), (89, none), (90, none), (91, none), (93, some 0), (94, none), (95, some 0), (96, none), (97, some 0), (98, none), (99, some 0), (100, none), (101, none), (105, some 0), (105, some 1), (107, none), (108, some 0), (108, some 1), (108, some 2), (108, some 3), (108, some 4), (108, some 5), (109, none), (110, none), (111, none), (112, none), (113, none), (114, none), (115, none), (116, none), (117, none), (118, some 0), (118, some 1), (118, some 2), (118, some 3), (118, some 4), (118, some 5), (119, none), (120, none), (121, none), (122, none), (123, none), (124, none), (125, none), (126, none), (127, none), (128, some 0), (128, some 1), (128, some 2), (128, some 3), (128, some 4), (128, some 5), (129, none), (130, none), (131, none), (132, none), (133, none), (134, none), (135, none), (136, none), (137, none), (138, some 0), (138, some 1), (138, some 2), (138, some 3), (138, some 4), (138, some 5), (139, none), (140, none), (141, none), (142, none), (143, none), (144, none), (145, none), (146, none), (147, none), (148, some 0), (148, some 1), (148, some 2), (148, some 3), (148, some 4), (148, some 5), (149, none), (150, none), (151, none), (152, none), (153, none), (154, none), (155, none), (156, none), (157, none), (158, some 0), (158, some 1), (158, some 2), (158, some 3), (158, some 4), (158, some 5), (159, none), (160, none), (161, none), (162, none), (163, none), (164, none), (165, none), (166, none), (167, none), (168, some 0), (168, some 1), (168, some 2), (168, some 3), (168, some 4), (168, some 5), (169, none), (170, none), (171, none), (172, none), (173, none), (174, none), (175, none), (176, none), (177, none), (178, some 1), (178, some 2), (178, some 3), (178, some 4), (178, some 5), (178, some 6), (178, some 7), (178, some 8), (179, none), (181, some 0), (181, some 1), (182, none), (183, none), (184, none), (185, none), (186, none), (189, some 1), (189, some 2), (189, some 3), (189, some 4), (190, some 0), (191, none), (192, none), (193, none), (194, none), (196, none), (197, none), (198, some 0), (198, some 3), (198, some 5), (198, some 6), (198, some 7), (198, some 13), (198, some 14), (198, some 15), (198, some 16), (198, some 17), (198, some 26), (198, some 27), (198, some 28), (198, some 30), (198, some 31), (198, some 32), (198, some 33), (198, some 34), (198, some 35), (198, some 37), (198, some 39), (198, some 43), (198, some 48), (198, some 58), (198, some 59), (198, some 60), (199, none), (200, none), (201, none), (202, none), (203, none), (204, none), (205, none), (206, none), (208, none), (209, none), (210, none), (211, none), (212, none), (213, none), (214, none), (215, none), (216, none), (217, none), (218, none), (219, none), (220, none), (221, none), (222, none), (223, none), (224, none), (225, none), (226, none), (227, none), (228, none), (229, none), (230, none), (231, none), (232, none), (233, none), (234, none)] rmW M (fL_law g p3 M) := by
  unfold fL_law
  refine wL_law_L18 g FU _ _
