/-! ===== what codes of THE LAW come to: the loops ===== -/
theorem tst9 {s s1 : List Bool} (h : tst (nI 9) s = some s1) : ∃ r, s = true :: r ∧ s1 = true :: r := by
  rcases s with _ | ⟨b1, r⟩
  · have h : (none : Option (List Bool)) = some s1 := h
    cases h
  · cases b1
    · have h : (none : Option (List Bool)) = some s1 := h
      cases h
    · have h : some (true :: r) = some s1 := h
      cases h
      exact ⟨r, rfl, rfl⟩
theorem tst2 {x : Nat} {s s1 : List Bool} (h1 : 2 ≤ x) (h2 : x ≤ 11) (h9 : x ≠ 9) (h : tst (nI x) s = some s1) : ∃ b r, s = b :: b :: r ∧ s1 = decide (6 ≤ x) :: r ∧ (x = 10 ∨ x = 11 → b = true) := by
  rcases s with _ | ⟨b1, s⟩
  · exfalso
    rcases (show x = 2 ∨ x = 3 ∨ x = 4 ∨ x = 5 ∨ x = 6 ∨ x = 7 ∨ x = 8 ∨ x = 10 ∨ x = 11 by omega) with rfl | rfl | rfl | rfl | rfl | rfl | rfl | rfl | rfl <;> exact absurd (show (none : Option (List Bool)) = some s1 from h) (by simp)
  · rcases s with _ | ⟨b2, r⟩
    · exfalso
      rcases (show x = 2 ∨ x = 3 ∨ x = 4 ∨ x = 5 ∨ x = 6 ∨ x = 7 ∨ x = 8 ∨ x = 10 ∨ x = 11 by omega) with rfl | rfl | rfl | rfl | rfl | rfl | rfl | rfl | rfl <;> cases b1 <;> exact absurd (show (none : Option (List Bool)) = some s1 from h) (by simp)
    · by_cases hx : x < 10
      · cases b1 <;> cases b2
        · refine ⟨false, r, rfl, ?_, fun q => by omega⟩
          rcases (show x = 2 ∨ x = 3 ∨ x = 4 ∨ x = 5 ∨ x = 6 ∨ x = 7 ∨ x = 8 by omega) with rfl | rfl | rfl | rfl | rfl | rfl | rfl
          · exact (Option.some.inj (show some (false :: r) = some s1 from h)).symm
          · exact (Option.some.inj (show some (false :: r) = some s1 from h)).symm
          · exact (Option.some.inj (show some (false :: r) = some s1 from h)).symm
          · exact (Option.some.inj (show some (false :: r) = some s1 from h)).symm
          · exact (Option.some.inj (show some (true :: r) = some s1 from h)).symm
          · exact (Option.some.inj (show some (true :: r) = some s1 from h)).symm
          · exact (Option.some.inj (show some (true :: r) = some s1 from h)).symm
        · exfalso
          rcases (show x = 2 ∨ x = 3 ∨ x = 4 ∨ x = 5 ∨ x = 6 ∨ x = 7 ∨ x = 8 by omega) with rfl | rfl | rfl | rfl | rfl | rfl | rfl <;> exact absurd (show (none : Option (List Bool)) = some s1 from h) (by simp)
        · exfalso
          rcases (show x = 2 ∨ x = 3 ∨ x = 4 ∨ x = 5 ∨ x = 6 ∨ x = 7 ∨ x = 8 by omega) with rfl | rfl | rfl | rfl | rfl | rfl | rfl <;> exact absurd (show (none : Option (List Bool)) = some s1 from h) (by simp)
        · exfalso
          rcases (show x = 2 ∨ x = 3 ∨ x = 4 ∨ x = 5 ∨ x = 6 ∨ x = 7 ∨ x = 8 by omega) with rfl | rfl | rfl | rfl | rfl | rfl | rfl <;> exact absurd (show (none : Option (List Bool)) = some s1 from h) (by simp)
      · cases b1 <;> cases b2
        · exfalso
          rcases (show x = 10 ∨ x = 11 by omega) with rfl | rfl <;> exact absurd (show (none : Option (List Bool)) = some s1 from h) (by simp)
        · exfalso
          rcases (show x = 10 ∨ x = 11 by omega) with rfl | rfl <;> exact absurd (show (none : Option (List Bool)) = some s1 from h) (by simp)
        · exfalso
          rcases (show x = 10 ∨ x = 11 by omega) with rfl | rfl <;> exact absurd (show (none : Option (List Bool)) = some s1 from h) (by simp)
        · refine ⟨true, r, rfl, ?_, fun _ => rfl⟩
          rcases (show x = 10 ∨ x = 11 by omega) with rfl | rfl
          · exact (Option.some.inj (show some (true :: r) = some s1 from h)).symm
          · exact (Option.some.inj (show some (true :: r) = some s1 from h)).symm
theorem tst0 {o : Int32} {s s1 : List Bool} (ho : o = 0 ∨ o = 1) (h : tst o s = some s1) : s.length < 30 ∧ s1 = false :: s := by
  unfold tst at h
  rw [if_pos ho] at h
  by_cases c : s.length < 30
  · rw [if_pos c] at h; cases h; exact ⟨c, rfl⟩
  · rw [if_neg c] at h; cases h
theorem ev_loop {Mc Mm : Mem} {m t : Nat} (hm : m ≤ 400) (h1 : Mc 17 1 = nI m) (hn : ∀ j, j < 10 → Mc 23 j = Mm 219 j) (ht : t ≤ m) (hcd : ∀ i, i < m → cdR (Mc 22 i) (Mm 213 i) (Mm 214 i)) : ∀ (n F i : Nat) (s s' : List Bool) (f h : Nat → Int32), i + n = t → n < F → s.length ≤ 30 → tck (Mm 213) (Mm 214) i n s = some s' → SR f h s → (s = [] ∨ (0 < i ∧ (Mm 213 (i - 1) = 0 → h (s.length - 1) = Mm 214 (i - 1)))) → ∃ f' h', SR f' h' s' ∧ (∀ K, fX1_worked_L5 K (nI t) F (nI s.length) (nI i) (mf Mc 24 f) = K (nI s'.length) (mf Mc 24 f')) ∧ fX12_runs_L12 0 (nI t) F (nI s.length) (nI i) (mf Mm 220 h) = some (h' 0, mf Mm 220 h')
  | n, 0, i, s, s', f, h, _, h2, _, _, _, _ => by omega
  | 0, F + 1, i, s, s', f, h, e1, e2, e3, e4, e5, e6 => by
    have e4 : some s = some s' := e4
    cases e4
    have ez : (400 : Int32) * 0 + nI t = nI t := by
      have : (400 : Int32) * 0 = nI 0 := by decide
      rw [this, nI_add, Nat.zero_add]
    have ci : nI t ≤ nI i := nI_le (by omega) (by omega)
    have r0 : rd (mf Mm 220 h) 220 420 0 = some (h 0) := (rd_nI (j := 0) (by omega)).trans (by rw [mf_s])
    exact ⟨f, h, e5, fun K => by rw [fX1_worked_L5, if_neg (nI_pos (by omega)), if_pos ci], by rw [fX12_runs_L12, ez, if_pos ci, r0]; rfl⟩
  | n + 1, F + 1, i, s, s', f, h, e1, e2, e3, e4, e5, e6 => by
    rw [tck] at e4
    have hdiv : Mm 213 i = 5 → 0 < i ∧ Mm 213 (i - 1) = 0 ∧ Mm 214 (i - 1) ≠ 0 := fun q => by
      apply Classical.byContradiction
      intro q2
      rw [if_pos ⟨q, q2⟩] at e4; cases e4
    have e4 : (tst (Mm 213 i) s).bind (fun s1 => tck (Mm 213) (Mm 214) (i + 1) n s1) = some s' := by
      by_cases q : Mm 213 i = 5 ∧ ¬ (0 < i ∧ Mm 213 (i - 1) = 0 ∧ Mm 214 (i - 1) ≠ 0)
      · rw [if_pos q] at e4; cases e4
      · rw [if_neg q] at e4; exact e4
    cases hs1 : tst (Mm 213 i) s with
    | none => rw [hs1] at e4; cases e4
    | some s1 =>
      rw [hs1, Option.bind_some] at e4
      rcases hcd i (by omega) with ⟨x, x1, x2, x3, x4⟩ | ⟨x, x1, x2, x3, x4⟩ | ⟨x, x1, x2, x3, x4⟩
      · obtain ⟨l30, rfl⟩ := tst0 (Or.inl x2) hs1
        obtain ⟨f', h', g1, g2, g3⟩ := ev_loop hm h1 hn ht hcd n F (i + 1) (false :: s) s' (upd f s.length (nI x)) (upd h s.length (nI x)) (by omega) (by omega) (by rw [List.length_cons]; omega) e4 ⟨by rw [pk_us, pk_us], fun q => (by cases q), SR_up (Nat.le_refl _) e5⟩ (Or.inr ⟨by omega, fun _ => by
          rw [show i + 1 - 1 = i by omega, List.length_cons, show s.length + 1 - 1 = s.length by omega, pk_us, x3]⟩)
        have st := fun K => ev_push (K := K) (Mc := Mc) (Mm := Mm) (f := f) (h := h) (F := F) (v := nI x) hm h1 hn (show i < t by omega) ht l30 (Or.inl ⟨x, x1, x2, x3, x4, rfl⟩)
        exact ⟨f', h', g1, fun K => by rw [(st K).1]; exact g2 K, by rw [(st (fun _ _ => none)).2]; exact g3⟩
      · obtain ⟨l30, rfl⟩ := tst0 (Or.inr x2) hs1
        obtain ⟨f', h', g1, g2, g3⟩ := ev_loop hm h1 hn ht hcd n F (i + 1) (false :: s) s' (upd f s.length (Mm 219 x)) (upd h s.length (Mm 219 x)) (by omega) (by omega) (by rw [List.length_cons]; omega) e4 ⟨by rw [pk_us, pk_us], fun q => (by cases q), SR_up (Nat.le_refl _) e5⟩ (Or.inr ⟨by omega, fun q => by
          rw [show i + 1 - 1 = i by omega, x2] at q; exact absurd q (by decide)⟩)
        have st := fun K => ev_push (K := K) (Mc := Mc) (Mm := Mm) (f := f) (h := h) (F := F) (v := Mm 219 x) hm h1 hn (show i < t by omega) ht l30 (Or.inr ⟨x, x1, x2, x3, x4, rfl⟩)
        exact ⟨f', h', g1, fun K => by rw [(st K).1]; exact g2 K, by rw [(st (fun _ _ => none)).2]; exact g3⟩
      · have nz : ¬ nI x = (0 : Int32) := nI_ne0 (by omega) (by omega)
        have q0 : ∀ (s2 : List Bool) (hh : Nat → Int32), s2 = [] ∨ (0 < i + 1 ∧ (Mm 213 (i + 1 - 1) = 0 → hh (s2.length - 1) = Mm 214 (i + 1 - 1))) := fun s2 hh => Or.inr ⟨by omega, fun q => by
          rw [show i + 1 - 1 = i by omega, x3] at q; exact absurd q nz⟩
        rw [x3] at hs1
        by_cases x9 : x = 9
        · subst x9
          obtain ⟨r, rfl, rfl⟩ := tst9 hs1
          rw [List.length_cons] at e3
          obtain ⟨p1, p2, p3⟩ := e5
          obtain ⟨f', h', g1, g2, g3⟩ := ev_loop hm h1 hn ht hcd n F (i + 1) (true :: r) s' (upd f r.length (1 - f r.length)) (upd h r.length (1 - h r.length)) (by omega) (by omega) (by rw [List.length_cons]; omega) e4 ⟨by rw [pk_us, pk_us, p1], fun _ => by
            rw [pk_us]
            rcases p2 rfl with q | q
            · rw [q]; exact Or.inr rfl
            · rw [q]; exact Or.inl rfl, SR_up (Nat.le_refl _) p3⟩ (q0 _ _)
          have st := fun K => ev_not (K := K) (Mc := Mc) (Mm := Mm) (f := f) (h := h) (F := F) hm h1 (show i < t by omega) ht (show r.length < 30 by omega) x3 x4
          exact ⟨f', h', g1, fun K => by rw [List.length_cons, (st K).1]; exact g2 K, by rw [List.length_cons, (st (fun _ _ => none)).2]; exact g3⟩
        · obtain ⟨b, r, rfl, rfl, hb⟩ := tst2 x1 x2 x9 hs1
          rw [List.length_cons, List.length_cons] at e3
          obtain ⟨p1, p2, p3, p4, p5⟩ := e5
          rw [List.length_cons] at p1 p2
          have h5 : x = 5 → ¬ h (r.length + 1) = 0 := fun q => by
            subst q
            obtain ⟨d1, d2, d3⟩ := hdiv x3
            rcases e6 with q | ⟨-, q⟩
            · cases q
            · have := q d2
              rw [List.length_cons, List.length_cons, show r.length + 1 + 1 - 1 = r.length + 1 by omega] at this
              rw [this]; exact d3
          obtain ⟨v, v1, v2, v3⟩ := two_eq (a := h r.length) (b := h (r.length + 1)) x1 x2 x9 h5 (fun q => ⟨p4 (hb q), p2 (hb q)⟩)
          obtain ⟨f', h', g1, g2, g3⟩ := ev_loop hm h1 hn ht hcd n F (i + 1) (decide (6 ≤ x) :: r) s' (upd f r.length v) (upd h r.length v) (by omega) (by omega) (by rw [List.length_cons]; omega) e4 ⟨by rw [pk_us, pk_us], fun q => by rw [pk_us]; exact v3 (of_decide_eq_true q), SR_up (Nat.le_refl _) p5⟩ (q0 _ _)
          have st := fun K => ev_two (K := K) (Mc := Mc) (Mm := Mm) (f := f) (h := h) (F := F) (v := v) hm h1 (show i < t by omega) ht (show r.length < 30 by omega) x1 x2 x9 x3 x4 (by rw [p1, p3]; exact v1) v2
          exact ⟨f', h', g1, fun K => by rw [List.length_cons, List.length_cons, (st K).1]; exact g2 K, by rw [List.length_cons, List.length_cons, (st (fun _ _ => none)).2]; exact g3⟩
/-- THE LAW with its names, where it stands in both memories -/
def LwR (Mc Mm : Mem) (m N : Nat) : Prop := m ≤ 400 ∧ N ≤ 16 ∧ Mc 17 1 = nI m ∧ Mc 17 0 = nI N ∧ Mm 208 0 = nI N ∧ (∀ j, j < 10 → Mc 23 j = Mm 219 j) ∧ (∀ i, i < m → cdR (Mc 22 i) (Mm 213 i) (Mm 214 i)) ∧
  ∀ l, l < N → ∃ w e b t, w ≤ 2 ∧ e ≤ b ∧ b ≤ t ∧ t ≤ m ∧ Mc 18 l = nI w ∧ Mm 209 l = nI w ∧ Mc 19 l = nI e ∧ Mm 210 l = nI e ∧ Mc 20 l = nI b ∧ Mm 211 l = nI b ∧ Mc 21 l = nI t ∧ Mm 212 l = nI t ∧
    tck (Mm 213) (Mm 214) e (b - e) [] = some [false] ∧ (b < t → tck (Mm 213) (Mm 214) b (t - b) [] = some [true])
theorem LwR_mf {Mc Mm : Mem} {m N : Nat} {f h : Nat → Int32} (H : LwR Mc Mm m N) : LwR (mf Mc 24 f) (mf Mm 220 h) m N := by
  unfold LwR at *
  simpa (disch := omega) only [mf_o] using H
theorem mf_mf (M : Mem) (k : Nat) (f g : Nat → Int32) : mf (mf M k f) k g = mf M k g := by
  funext a i
  rw [mf_apply, mf_apply, mf_apply]
  by_cases h : a = k
  · rw [if_pos h, if_pos h]
  · rw [if_neg h, if_neg h, if_neg h]
theorem ev_run {Mc Mm : Mem} {m N e t : Nat} {c : Bool} (H : LwR Mc Mm m N) (he : e ≤ t) (ht : t ≤ m) (hk : tck (Mm 213) (Mm 214) e (t - e) [] = some [c]) (f h : Nat → Int32) : ∃ v f' h', fX1_worked (nI e) (nI t) (mf Mc 24 f) = some (v, mf Mc 24 f') ∧ fX12_runs 0 (nI e) (nI t) (mf Mm 220 h) = some (v, mf Mm 220 h') := by
  obtain ⟨a1, a2, a3, a4, a5, a6, a7, a8⟩ := H
  obtain ⟨f', h', g1, g2, g3⟩ := ev_loop a1 a3 a6 ht a7 (t - e) FU e [] [c] f h (by omega) (FU_gt (by omega)) (by simp) hk trivial (Or.inl rfl)
  refine ⟨h' 0, f', h', ?_, ?_⟩
  · unfold fX1_worked
    have g2 := g2 (fun (e15 : Int32) (M16 : Mem) => if e15 ≤ 0 then (some (0, M16)) else ((rd M16 24 32 0).bind fun v17 => some (v17, M16)))
    have c1 : ¬ nI [c].length ≤ (0 : Int32) := by show ¬ nI 1 ≤ 0; decide
    have r0 : rd (mf Mc 24 f') 24 32 0 = some (f' 0) := (rd_nI (j := 0) (by omega)).trans (by rw [mf_s])
    rw [if_neg c1, r0, Option.bind_some, show f' 0 = h' 0 from g1.1] at g2
    exact g2
  · unfold fX12_runs
    have ez : (400 : Int32) * 0 + nI e = nI e := by
      have : (400 : Int32) * 0 = nI 0 := by decide
      rw [this, nI_add, Nat.zero_add]
    rw [ez, bnd_eq]
    exact g3
def lI (r : Option Nat) : Int32 := match r with
  | none => -1
  | some x => nI x
theorem ln_loop {Mc Mm : Mem} {m N w : Nat} (H : LwR Mc Mm m N) (hw : w ≤ 2) : ∀ (k F l : Nat) (f h : Nat → Int32), l + k = N → k < F → ∃ r f' h', (∀ x, r = some x → x < N) ∧ fX1_lineFor_L2 (fun (e9 : Int32) (M10 : Mem) => some (e9, M10)) (nI w) F (nI l) (mf Mc 24 f) = some (lI r, mf Mc 24 f') ∧ fX12_lineOf_L2 (fun (e10 : Int32) (M11 : Mem) => some (e10, M11)) (nI w) F (nI l) (mf Mm 220 h) = some (lI r, mf Mm 220 h')
  | k, 0, l, f, h, _, q => by omega
  | k, F + 1, l, f, h, e1, e2 => by
    obtain ⟨a1, a2, a3, a4, a5, a6, a7, a8⟩ := id H
    have b17 : mf Mc 24 f 17 0 = nI N := by rw [mf_o (by omega)]; exact a4
    have r208 : rd (mf Mm 220 h) 208 2 0 = some (nI N) := (rd_nI (j := 0) (by omega)).trans (by rw [mf_o (by omega), a5])
    cases k with
    | zero =>
      have c : nI N ≤ nI l := nI_le (by omega) (by omega)
      exact ⟨none, f, h, fun x q => (by cases q), by rw [fX1_lineFor_L2, b17, if_pos c]; rfl, by rw [fX12_lineOf_L2, r208, Option.bind_some, if_pos c]; rfl⟩
    | succ k =>
      have c : ¬ nI N ≤ nI l := nI_ge (by omega) (by omega)
      obtain ⟨w', e, b, t, w1, w2, w3, w4, u1, u2, u3, u4, u5, u6, u7, u8, u9, u10⟩ := a8 l (by omega)
      have d18 : rd (mf Mc 24 f) 18 16 (nI l) = some (nI w') := by rw [rd_nI (by omega), mf_o (by omega), u1]
      have d20 : rd (mf Mc 24 f) 20 16 (nI l) = some (nI b) := by rw [rd_nI (by omega), mf_o (by omega), u5]
      have d21 : rd (mf Mc 24 f) 21 16 (nI l) = some (nI t) := by rw [rd_nI (by omega), mf_o (by omega), u7]
      have d209 : rd (mf Mm 220 h) 209 48 (nI l) = some (nI w') := by rw [rd_nI (by omega), mf_o (by omega), u2]
      have d211 : rd (mf Mm 220 h) 211 48 (nI l) = some (nI b) := by rw [rd_nI (by omega), mf_o (by omega), u6]
      have d212 : rd (mf Mm 220 h) 212 48 (nI l) = some (nI t) := by rw [rd_nI (by omega), mf_o (by omega), u8]
      by_cases cw : w' = w
      · subst cw
        by_cases cb : b = t
        · refine ⟨some l, f, h, fun x q => by cases q; omega, ?_, ?_⟩
          · rw [fX1_lineFor_L2, b17, if_neg c, d18, Option.bind_some, jn_eq, if_pos rfl, d20, Option.bind_some, d21, Option.bind_some, if_pos (by rw [cb])]; rfl
          · rw [fX12_lineOf_L2, r208, Option.bind_some, if_neg c, d209, Option.bind_some, jn_eq, if_pos rfl, d211, Option.bind_some, d212, Option.bind_some, if_pos (by rw [cb])]; rfl
        · have nb : ¬ nI b = nI t := fun q => cb ((nI_eqb (by omega) (by omega)).mp q)
          obtain ⟨v, f1, h1, v1, v2⟩ := ev_run H w3 w4 (u10 (by omega)) f h
          by_cases cv : v = 0
          · obtain ⟨r, f2, h2, g1, g2, g3⟩ := ln_loop H hw k F (l + 1) f1 h1 (by omega) (by omega)
            refine ⟨r, f2, h2, g1, ?_, ?_⟩
            · rw [fX1_lineFor_L2, b17, if_neg c, d18, Option.bind_some, jn_eq, if_pos rfl, d20, Option.bind_some, d21, Option.bind_some, if_neg nb, Option.bind_some, Option.bind_some, v1, Option.bind_some, if_pos cv, nI_1]; exact g2
            · rw [fX12_lineOf_L2, r208, Option.bind_some, if_neg c, d209, Option.bind_some, jn_eq, if_pos rfl, d211, Option.bind_some, d212, Option.bind_some, if_neg nb, Option.bind_some, Option.bind_some, v2, Option.bind_some, if_pos cv, nI_1]; exact g3
          · refine ⟨some l, f1, h1, fun x q => by cases q; omega, ?_, ?_⟩
            · rw [fX1_lineFor_L2, b17, if_neg c, d18, Option.bind_some, jn_eq, if_pos rfl, d20, Option.bind_some, d21, Option.bind_some, if_neg nb, Option.bind_some, Option.bind_some, v1, Option.bind_some, if_neg cv]; rfl
            · rw [fX12_lineOf_L2, r208, Option.bind_some, if_neg c, d209, Option.bind_some, jn_eq, if_pos rfl, d211, Option.bind_some, d212, Option.bind_some, if_neg nb, Option.bind_some, Option.bind_some, v2, Option.bind_some, if_neg cv]; rfl
      · have nw : ¬ nI w' = nI w := fun q => cw ((nI_eqb (by omega) (by omega)).mp q)
        obtain ⟨r, f2, h2, g1, g2, g3⟩ := ln_loop H hw k F (l + 1) f h (by omega) (by omega)
        refine ⟨r, f2, h2, g1, ?_, ?_⟩
        · rw [fX1_lineFor_L2, b17, if_neg c, d18, Option.bind_some, jn_eq, if_neg nw, nI_1]; exact g2
        · rw [fX12_lineOf_L2, r208, Option.bind_some, if_neg c, d209, Option.bind_some, jn_eq, if_neg nw, nI_1]; exact g3
