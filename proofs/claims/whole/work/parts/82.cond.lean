/-! ===== text: conditions ===== -/
def cmpC (M : Mem) : Option (Int32 × Mem) :=
  ((fX2_readSum M).bind fun r9 =>
  if r9.1 = 0 then
  (some (0, r9.2))
  else
  (jn (bnd (r9.2 178 7 : Int32) fun x11 =>
  (fX8_advance r9.2).bind fun M12 =>
  (fX2_readSum M12).bind fun r13 =>
  if r13.1 = 0 then
  (some (0, r13.2))
  else
  ((fX1_put (20000 + x11) r13.2).bind fun M14 =>
  some (1, M14))) fun (J10 : Option (Int32 × Mem)) =>
  if (fX8_isSign 60 r9.2) = 0 then
  (if (fX8_isSign 61 r9.2) = 0 then
  (if (fX8_isSign 62 r9.2) = 0 then
  ((fX8_refuse 1 r9.2).bind fun r15 =>
  if r15.1 = 0 ∨ r15.1 = 1 then some (r15.1, r15.2) else none)
  else
  (J10))
  else
  (J10))
  else
  (J10)))
theorem hm_val {τ p e c : Nat} {Mm : Mem} (h : HandM τ p e Mm) (hc : mk c = true) (q : τ = 100 + c) : Mm 198 17 = nI c := by
  have := mk_all c hc
  rcases h.2.2 with ⟨a, b⟩ | ⟨a, b⟩ | ⟨w', w1, a, b, d⟩ | ⟨c', w1, a, b, d⟩ | ⟨v', w1, a, b, d⟩
  · omega
  · omega
  · have := (mk_lt c this hc).2.1; omega
  · rw [d, show c' = c by omega]
  · omega
section COND
variable {L : Nat} {b : Nat → Nat}
theorem cmp_eq {d τ p e z : Nat} {Mc Mm : Mem} (h : PS L b τ p e z Mc Mm) (hp1 : 1 ≤ p) (hz : z + d ≤ p) :
    (∃ Mc' Mm', cmpC Mc = some (0, Mc') ∧ fX12_readCompared Mm = some (-1, Mm') ∧ FR Mc' Mm' ∧ Df z Mm Mm') ∨
    (∃ τ' p' e' z' Mc' Mm', cmpC Mc = some (1, Mc') ∧ fX12_readCompared Mm = some (0, Mm') ∧ p < p' ∧ z < z' ∧ z' + d ≤ p' ∧ PS L b τ' p' e' z' Mc' Mm' ∧ Df z Mm Mm' ∧ ∀ s : List Bool, s.length ≤ 26 → tck (dop Mm') (dar Mm') z (z' - z) s = some (true :: s)) := by
  have hL := h.1.1
  unfold cmpC fX12_readCompared
  rcases sum_eq h hp1 hz with ⟨Mc', Mm', a1, a2, a3, a4⟩ | ⟨τ1, p1, e1, z1, Mc1, Mm1, a1, a2, a3, a4, a5, a6, a7, a8⟩
  · left
    exact ⟨Mc', Mm', by rw [a1, Option.bind_some, if_pos rfl], by rw [a2, Option.bind_some, if_pos rfl], a3, a4⟩
  · have n01 : ¬ (0 : Int32) = -1 := by decide
    have hC := a6.2.2.2.2.2.1
    have hM := a6.2.2.2.2.2.2.1
    have c60 : fX8_isSign 60 Mc1 = if τ1 = 160 then 1 else 0 := hc_sign (c := 60) hC (by decide)
    have c61 : fX8_isSign 61 Mc1 = if τ1 = 161 then 1 else 0 := hc_sign (c := 61) hC (by decide)
    have c62 : fX8_isSign 62 Mc1 = if τ1 = 162 then 1 else 0 := hc_sign (c := 62) hC (by decide)
    have m60 : fX12_isSign 60 Mm1 = if τ1 = 160 then 1 else 0 := hm_sign (c := 60) hM (by decide)
    have m61 : fX12_isSign 61 Mm1 = if τ1 = 161 then 1 else 0 := hm_sign (c := 61) hM (by decide)
    have m62 : fX12_isSign 62 Mm1 = if τ1 = 162 then 1 else 0 := hm_sign (c := 62) hM (by decide)
    rw [a1, Option.bind_some, if_neg one_ne, a2, Option.bind_some, if_neg n01]
    dsimp only [jn]
    rw [c60, c61, c62, m60, m61, m62]
    by_cases q : τ1 = 160 ∨ τ1 = 161 ∨ τ1 = 162
    · obtain ⟨x, x1, x2, x3⟩ : ∃ x, (x = 6 ∨ x = 7 ∨ x = 8) ∧ τ1 = 100 + opc x ∧ mk (opc x) = true := by
        rcases q with q | q | q
        · exact ⟨6, Or.inl rfl, q, by decide⟩
        · exact ⟨7, Or.inr (Or.inl rfl), q, by decide⟩
        · exact ⟨8, Or.inr (Or.inr rfl), q, by decide⟩
      obtain ⟨τ2, p2, e2, Mc2, Mm2, n1, n2, n3, n4, n5, n6⟩ := ps_next a6
      have hp12 : p1 < p2 := by have := a6.2.2.2.1 (by omega); omega
      have df : Df z1 Mm1 Mm2 := fun j hj => ⟨n6 213 j (by simp) (by simp), n6 214 j (by simp) (by simp)⟩
      have vc : Mc1 178 7 = nI (opc x) := by rw [hc_val hC (by omega) (by omega), x2, Nat.add_sub_cancel_left]
      have vm' : Mm1 198 17 = nI (opc x) := hm_val hM x3 x2
      have cls : ∀ A : Option (Int32 × Mem), ∀ B : Option (Int32 × Mem), (if (if τ1 = 160 then (1 : Int32) else 0) = 0 then (if (if τ1 = 161 then (1 : Int32) else 0) = 0 then (if (if τ1 = 162 then (1 : Int32) else 0) = 0 then B else A) else A) else A) = A := fun A B => by
        rcases q with w | w | w
        · rw [if_pos w, if_neg one_ne]
        · rw [if_neg (show ¬ τ1 = 160 by omega), if_pos rfl, if_pos w, if_neg one_ne]
        · rw [if_neg (show ¬ τ1 = 160 by omega), if_pos rfl, if_neg (show ¬ τ1 = 161 by omega), if_pos rfl, if_pos w, if_neg one_ne]
      have opx : ∀ (J : Int32 → Option (Int32 × Mem)), (if Mm1 198 17 = 60 then J 6 else if Mm1 198 17 = 61 then J 7 else J 8) = J (nI x) := fun J => by
        rw [vm']
        rcases x1 with rfl | rfl | rfl <;> rfl
      rw [cls, cls, bnd_eq, n2, Option.bind_some, vc, n3]
      rw [opx (fun t4 => (some Mm2).bind fun M5 => (fX12_readSum M5).bind fun r6 => if r6.1 = -1 then some (-1, r6.2) else (fX12_emits t4 0 r6.2).bind fun M7 => some (0, M7))]
      rw [Option.bind_some]
      rcases sum_eq (d := d + 1) n4 (by omega) (by omega) with ⟨Mc', Mm', f1, f2, f3, f4⟩ | ⟨τ3, p3, e3, z3, Mc3, Mm3, f1, f2, f3, f4, f5, f6, f7, f8⟩
      · left
        exact ⟨Mc', Mm', by rw [f1, Option.bind_some, if_pos rfl], by rw [f2, Option.bind_some, if_pos rfl], f3, a7.trans (df.trans f4 (Nat.le_refl _)) (by omega)⟩
      · right
        have hp3 : p3 ≤ L := Nat.le_trans f6.2.1 f6.2.2.1
        obtain ⟨Mc4, Mm4, g1, g2, g3, g4, g5, g6⟩ := ps_put f6 (by omega) (c := nI (20000 + opc x)) (o := nI x) (a := 0) (Or.inr (Or.inr ⟨x, by omega, by omega, rfl, rfl⟩))
        refine ⟨τ3, p3, e3, z3 + 1, Mc4, Mm4, ?_, ?_, by omega, by omega, by omega, g3, a7.trans ((df.trans f7 (Nat.le_refl _)).trans g4 (by omega)) (by omega), fun s hs => ?_⟩
        · rw [f1, Option.bind_some, if_neg one_ne, ladd 20000 (opc x), g1]; rfl
        · rw [f2, Option.bind_some, if_neg n01, g2]; rfl
        · have s1 := a8 s (by omega)
          rw [← tck_df ((df.trans f7 (Nat.le_refl _)).trans g4 (by omega)) (show z + (z1 - z) ≤ z1 by omega)] at s1
          have s2 := f8 (false :: s) (by rw [List.length_cons]; omega)
          rw [← tck_df g4 (show z1 + (z3 - z1) ≤ z3 by omega)] at s2
          rw [show z3 + 1 - z = (z1 - z) + ((z3 - z1) + 1) by omega, tck_app _ _ z _ _ s1, show z + (z1 - z) = z1 by omega, tck_app _ _ z1 _ _ s2, show z1 + (z3 - z1) = z3 by omega]
          have ez : dop Mm4 z3 = nI x := g5
          refine tck_one (fun w => ?_) ?_
          · rw [ez] at w
            have : x = 5 := (nI_eqb (by omega) (by omega)).mp w
            omega
          · rw [ez, tst_op (by omega) (by omega), decide_eq_true (by omega)]
    · left
      obtain ⟨Mc', Mm', f1, f2, f3, f4⟩ := ps_fault a6 1
      refine ⟨Mc', Mm', ?_, ?_, f3, a7.trans f4 (by omega)⟩
      · rw [if_neg (show ¬ τ1 = 160 by omega), if_pos rfl, if_neg (show ¬ τ1 = 161 by omega), if_pos rfl, if_neg (show ¬ τ1 = 162 by omega), if_pos rfl, f1, Option.bind_some]
        exact if_pos (Or.inl rfl)
      · rw [if_neg (show ¬ τ1 = 160 by omega), if_pos rfl, if_neg (show ¬ τ1 = 161 by omega), if_pos rfl, if_neg (show ¬ τ1 = 162 by omega), if_pos rfl, f2]; rfl
end COND
/-! what waits, the newest first -/
def PQ (f : Nat → Int32) : List Nat → Prop
  | [] => True
  | q :: r => f r.length = nI q ∧ PQ f r
def PN (Q : List Nat) (Mm : Mem) : Prop := Mm 198 30 = nI Q.length ∧ PQ (Mm 215) Q
theorem PQ_up {f : Nat → Int32} {j : Nat} {v : Int32} : ∀ {Q : List Nat}, Q.length ≤ j → PQ f Q → PQ (upd f j v) Q
  | [], _, _ => trivial
  | q :: r, h1, h2 => by
    rw [List.length_cons] at h1
    exact ⟨by rw [pk_un (by omega)]; exact h2.1, PQ_up (Q := r) (by omega) h2.2⟩
theorem mu_cell (M : Mem) (k j : Nat) (v : Int32) : mu M k j v k = upd (M k) j v := by
  unfold mu; rw [mf_s]
theorem waits_eq {Q : List Nat} {Mm : Mem} (h : PN Q Mm) (hl : Q.length < 40) (q : Nat) : ∃ Mm', fX12_waits (nI q) Mm = some Mm' ∧ PN (q :: Q) Mm' ∧ ∀ a i, a ≠ 215 → ¬ (a = 198 ∧ i = 30) → Mm' a i = Mm a i := by
  unfold fX12_waits
  rw [h.1, wr_nI hl, Option.bind_some, bnd_eq, mu_o (by omega), h.1, nI_1]
  refine ⟨_, rfl, ⟨by rw [mu_s, List.length_cons], ?_, ?_⟩, fun a i q1 q2 => ?_⟩
  · rw [mu_o (by omega), mu_s]
  · rw [mu_c (by omega), mu_cell]
    exact PQ_up (Nat.le_refl _) h.2
  · by_cases e : a = 198
    · subst e; rw [mu_i (fun z => q2 ⟨rfl, z⟩), mu_o (by omega)]
    · rw [mu_o e, mu_o q1]
/-- settling: k on top come out -/
theorem settle_L {op : Nat} (hop : op = 9 ∨ op = 10 ∨ op = 11) : ∀ (k F zc oo : Nat) (Q : List Nat) (Mm : Mem), k < F → PN (List.replicate k op ++ Q) Mm → (∀ q r, Q = q :: r → q ≠ op ∧ q < 100) → k + Q.length < 40 → Mm 198 27 = nI zc → zc + k ≤ 400 → Mm 198 28 = nI oo → (op = 9 → k ≤ oo) → ∃ Mm', fX12_settles_L0 (fun M5 => some M5) (nI op) F Mm = some Mm' ∧ PN Q Mm' ∧ Mm' 198 27 = nI (zc + k) ∧ Mm' 198 28 = nI (if op = 9 then oo - k else oo) ∧ (∀ i, i < k → dop Mm' (zc + i) = nI op) ∧ Df zc Mm Mm' ∧ (∀ a i, a ≠ 213 → a ≠ 214 → ¬ (a = 198 ∧ (i = 27 ∨ i = 28 ∨ i = 30)) → Mm' a i = Mm a i)
  | k, 0, zc, oo, Q, Mm, h, _, _, _, _, _, _, _ => by omega
  | 0, F + 1, zc, oo, Q, Mm, _, h1, h2, h3, h4, h5, h6, h7 => by
    have h1 : PN Q Mm := h1
    refine ⟨Mm, ?_, h1, h4, ?_, fun i hi => by omega, Df.rfl', fun a i _ _ _ => rfl⟩
    · rw [fX12_settles_L0, h1.1]
      cases Q with
      | nil => rw [if_pos (show nI [].length ≤ (0 : Int32) by decide)]
      | cons q r =>
        obtain ⟨w1, w2⟩ := h2 q r rfl
        have hr : r.length < 40 := by rw [List.length_cons] at h3; omega
        rw [List.length_cons, if_neg (nI_nle (by omega) (by omega)), nI_pred, rd_nI (by omega), h1.2.1, Option.bind_some, if_neg (fun z => w1 ((nI_eqb (by omega) (by omega)).mp z))]
    · rw [h6]; congr 1; split <;> omega
  | k + 1, F + 1, zc, oo, Q, Mm, h0, h1, h2, h3, h4, h5, h6, h7 => by
    obtain ⟨p1, p2, p3⟩ := h1
    have hlen : (List.replicate k op ++ Q).length = k + Q.length := by simp
    have e0 : (List.replicate (k + 1) op ++ Q).length = k + Q.length + 1 := by simp; omega
    rw [e0] at p1
    have p2 : Mm 215 (List.replicate k op ++ Q).length = nI op := p2
    rw [hlen] at p2
    have em : ∀ M : Mem, M 198 27 = nI zc → fX12_emits (nI op) 0 M = some (mu (mu (mu M 213 (800 + zc) (nI op)) 214 (800 + zc) 0) 198 27 (nI (zc + 1))) := fun M hM => by
      unfold fX12_emits
      rw [hM, ladd 800 zc, wr_nI (by omega), Option.bind_some, mu_o (by omega), hM, ladd 800 zc, wr_nI (by omega), Option.bind_some, bnd_eq, mu_o (by omega), mu_o (by omega), hM, nI_1]
    obtain ⟨M1, hM1⟩ : ∃ M1, M1 = mu (mu (mu (mu Mm 198 30 (nI (k + Q.length))) 213 (800 + zc) (nI op)) 214 (800 + zc) 0) 198 27 (nI (zc + 1)) := ⟨_, rfl⟩
    have st : fX12_settles_L0 (fun M5 => some M5) (nI op) (F + 1) Mm = if nI op = 9 then fX12_settles_L0 (fun M5 => some M5) (nI op) F (mu M1 198 28 (M1 198 28 - 1)) else fX12_settles_L0 (fun M5 => some M5) (nI op) F M1 := by
      rw [fX12_settles_L0, p1, if_neg (nI_nle (by omega) (by omega)), nI_pred, rd_nI (by omega), p2, Option.bind_some, if_pos rfl, bnd_eq, em _ (by rw [mu_i (by omega)]; exact h4), Option.bind_some, ← hM1, bnd_eq]
    have pn1 : PN (List.replicate k op ++ Q) M1 := by
      refine ⟨by rw [hM1, mu_i (by omega), mu_o (by omega), mu_o (by omega), mu_s, hlen], ?_⟩
      rw [hM1, mu_c (by omega), mu_c (by omega), mu_c (by omega), mu_c (by omega)]; exact p3
    have z27 : M1 198 27 = nI (zc + 1) := by rw [hM1, mu_s]
    have z28 : M1 198 28 = nI oo := by rw [hM1, mu_i (by omega), mu_o (by omega), mu_o (by omega), mu_i (by omega)]; exact h6
    have d1 : Df zc Mm M1 := fun j hj => by
      rw [hM1]
      exact ⟨by rw [mu_o (by omega), mu_o (by omega), mu_i (by omega), mu_o (by omega)], by rw [mu_o (by omega), mu_i (by omega), mu_o (by omega), mu_o (by omega)]⟩
    have zo : M1 213 (800 + zc) = nI op := by rw [hM1, mu_o (by omega), mu_o (by omega), mu_s]
    have fr : ∀ a i, a ≠ 213 → a ≠ 214 → ¬ (a = 198 ∧ (i = 27 ∨ i = 28 ∨ i = 30)) → M1 a i = Mm a i := fun a i q1 q2 q3 => by
      rw [hM1]
      by_cases e : a = 198
      · subst e; rw [mu_i (fun z => q3 ⟨rfl, Or.inl z⟩), mu_o q2, mu_o q1, mu_i (fun z => q3 ⟨rfl, Or.inr (Or.inr z)⟩)]
      · rw [mu_o e, mu_o q2, mu_o q1, mu_o e]
    have fin : ∀ (M2 : Mem) (o2 : Nat), PN (List.replicate k op ++ Q) M2 → M2 198 27 = nI (zc + 1) → M2 198 28 = nI o2 → (op = 9 → k ≤ o2) → Df zc Mm M2 → M2 213 (800 + zc) = nI op → (∀ a i, a ≠ 213 → a ≠ 214 → ¬ (a = 198 ∧ (i = 27 ∨ i = 28 ∨ i = 30)) → M2 a i = Mm a i) → (if op = 9 then o2 - k else o2) = (if op = 9 then oo - (k + 1) else oo) → ∃ Mm', fX12_settles_L0 (fun M5 => some M5) (nI op) F M2 = some Mm' ∧ PN Q Mm' ∧ Mm' 198 27 = nI (zc + (k + 1)) ∧ Mm' 198 28 = nI (if op = 9 then oo - (k + 1) else oo) ∧ (∀ i, i < k + 1 → dop Mm' (zc + i) = nI op) ∧ Df zc Mm Mm' ∧ (∀ a i, a ≠ 213 → a ≠ 214 → ¬ (a = 198 ∧ (i = 27 ∨ i = 28 ∨ i = 30)) → Mm' a i = Mm a i) := fun M2 o2 a1 a2 a3 a4 a5 a6 a7 a8 => by
      obtain ⟨Mm', b1, b2, b3, b4, b5, b6, b7⟩ := settle_L hop k F (zc + 1) o2 Q M2 (by omega) a1 h2 (by omega) a2 (by omega) a3 a4
      refine ⟨Mm', b1, b2, by rw [b3]; congr 1; omega, by rw [b4, a8], fun i hi => ?_, a5.trans b6 (by omega), fun a i q1 q2 q3 => (b7 a i q1 q2 q3).trans (a7 a i q1 q2 q3)⟩
      by_cases e : i = 0
      · subst e
        exact (b6 (800 + zc) (by omega)).1.trans a6
      · have := b5 (i - 1) (by omega)
        rw [show zc + 1 + (i - 1) = zc + i by omega] at this
        exact this
    rw [st]
    by_cases c : op = 9
    · have hk := h7 c
      rw [if_pos (show nI op = (9 : Int32) from by rw [c]; rfl), z28, nI_sub1 (by omega)]
      refine fin _ (oo - 1) ?_ ?_ mu_s (fun _ => by omega) ?_ ?_ ?_ (by rw [if_pos c, if_pos c]; omega)
      · exact ⟨by rw [mu_i (by omega)]; exact pn1.1, by rw [mu_c (by omega)]; exact pn1.2⟩
      · rw [mu_i (by omega)]; exact z27
      · exact fun j hj => ⟨by rw [mu_o (by omega)]; exact (d1 j hj).1, by rw [mu_o (by omega)]; exact (d1 j hj).2⟩
      · rw [mu_o (by omega)]; exact zo
      · intro a i q1 q2 q3
        by_cases e : a = 198
        · subst e; rw [mu_i (fun z => q3 ⟨rfl, Or.inr (Or.inl z)⟩)]; exact fr _ _ q1 q2 q3
        · rw [mu_o e]; exact fr _ _ q1 q2 q3
    · rw [if_neg (show ¬ nI op = (9 : Int32) from fun z => c ((nI_eqb (by omega) (by omega)).mp z))]
      exact fin M1 oo pn1 z27 z28 (fun q => absurd q c) d1 zo fr (by rw [if_neg c, if_neg c])
