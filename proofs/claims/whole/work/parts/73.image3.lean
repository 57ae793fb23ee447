/-! ===== image: the class's copies ===== -/
theorem cpy_mf {M : Mem} {k0 k1 c : Nat} (a i : Nat) : mf M k1 (va_cpy (M k0) (M k1) 0 0 c) a i = if a = k1 ∧ i < c then M k0 i else M a i := by
  rw [mf_apply]
  by_cases h : a = k1
  · subst h
    rw [if_pos rfl, cpy_apply]
    by_cases q : i < c
    · rw [if_pos q, if_pos ⟨rfl, q⟩]
    · rw [if_neg q, if_neg (fun z => q z.2)]
  · rw [if_neg h, if_neg (fun z => h z.1)]
theorem lines_copy {M : Mem} {d s cap n : Nat} (hk : ∀ j, 1 ≤ j → j ≤ 4 → kn (d + j) = cap ∧ kn (s + j) = cap) (h1 : M d 1 = nI cap) (h0 : M s 0 = nI n) (hn : n ≤ cap) (hcap : cap ≤ 150) (ap : d + 4 < s ∨ s + 4 < d) : ∃ M', fX3_copyFrom d s M = some M' ∧ M' d 0 = nI n ∧ (∀ i, i ≠ 0 → M' d i = M d i) ∧ (∀ j, 1 ≤ j → j ≤ 4 → ∀ i, i < n → M' (d + j) i = M (s + j) i) ∧ ∀ a i, (a < d ∨ d + 4 < a) → M' a i = M a i := by
  obtain ⟨a1, b1⟩ := hk 1 (by omega) (by omega)
  obtain ⟨a2, b2⟩ := hk 2 (by omega) (by omega)
  obtain ⟨a3, b3⟩ := hk 3 (by omega) (by omega)
  obtain ⟨a4, b4⟩ := hk 4 (by omega) (by omega)
  have c : ∀ (M : Mem) x y, M d 0 = nI n → cpy M x cap y cap 0 0 (M d 0) = some (mf M y (va_cpy (M x) (M y) 0 0 n)) := fun M x y h => by rw [h]; exact cpy_nI hn hn (by omega)
  unfold fX3_copyFrom
  rw [bnd_eq, h1, h0, jmin_nI (by omega) (by omega), Nat.min_eq_right hn, a1, b1, a2, b2, a3, b3, a4, b4]
  obtain ⟨M1, hM1⟩ : ∃ M1, M1 = mu M d 0 (nI n) := ⟨_, rfl⟩
  have z1 : M1 d 0 = nI n := by rw [hM1, mu_s]
  rw [← hM1, c M1 _ _ z1, Option.bind_some]
  obtain ⟨M2, hM2⟩ : ∃ M2, M2 = mf M1 (d + 1) (va_cpy (M1 (s + 1)) (M1 (d + 1)) 0 0 n) := ⟨_, rfl⟩
  have z2 : M2 d 0 = nI n := by rw [hM2, mf_o (by omega)]; exact z1
  rw [← hM2, c M2 _ _ z2, Option.bind_some]
  obtain ⟨M3, hM3⟩ : ∃ M3, M3 = mf M2 (d + 2) (va_cpy (M2 (s + 2)) (M2 (d + 2)) 0 0 n) := ⟨_, rfl⟩
  have z3 : M3 d 0 = nI n := by rw [hM3, mf_o (by omega)]; exact z2
  rw [← hM3, c M3 _ _ z3, Option.bind_some]
  obtain ⟨M4, hM4⟩ : ∃ M4, M4 = mf M3 (d + 3) (va_cpy (M3 (s + 3)) (M3 (d + 3)) 0 0 n) := ⟨_, rfl⟩
  have z4 : M4 d 0 = nI n := by rw [hM4, mf_o (by omega)]; exact z3
  rw [← hM4, c M4 _ _ z4, Option.bind_some]
  subst hM4; subst hM3; subst hM2; subst hM1
  refine ⟨_, rfl, ?_, fun i hi => ?_, fun j j1 j2 i hi => ?_, fun a i ha => ?_⟩
  · simp (disch := omega) only [mf_o, mu_s]
  · simp (disch := omega) only [mf_o, mu_i]
  · rcases (show j = 1 ∨ j = 2 ∨ j = 3 ∨ j = 4 by omega) with rfl | rfl | rfl | rfl
    · simp (disch := omega) only [mf_o, mf_s, cpy_apply, if_pos hi, mu_o]
    · simp (disch := omega) only [mf_o, mf_s, cpy_apply, if_pos hi, mu_o]
    · simp (disch := omega) only [mf_o, mf_s, cpy_apply, if_pos hi, mu_o]
    · simp (disch := omega) only [mf_o, mf_s, cpy_apply, if_pos hi, mu_o]
  · simp (disch := omega) only [mf_o, mu_o]
theorem law_copy {M : Mem} {d s : Nat} (ap : d + 7 < s ∨ s + 7 < d) : ∃ M', fX1_copyFrom d s M = some M' ∧ M' d 0 = M s 0 ∧ M' d 1 = M s 1 ∧ (∀ i, i < 16 → M' (d + 1) i = M (s + 1) i ∧ M' (d + 2) i = M (s + 2) i ∧ M' (d + 3) i = M (s + 3) i ∧ M' (d + 4) i = M (s + 4) i) ∧ (∀ i, i < 400 → M' (d + 5) i = M (s + 5) i) ∧ ∀ a i, (a < d ∨ d + 5 < a) → M' a i = M a i := by
  have c16 : ∀ (M : Mem) a b, cpy M a 16 b 16 0 0 16 = some (mf M b (va_cpy (M a) (M b) 0 0 16)) := fun M a b => cpy_nI (c := 16) (by decide) (by decide) (by decide)
  have c400 : ∀ (M : Mem) a b, cpy M a 400 b 400 0 0 400 = some (mf M b (va_cpy (M a) (M b) 0 0 400)) := fun M a b => cpy_nI (c := 400) (by decide) (by decide) (by decide)
  unfold fX1_copyFrom
  rw [bnd_eq, bnd_eq, c16, Option.bind_some, c16, Option.bind_some, c16, Option.bind_some, c16, Option.bind_some, c400, Option.bind_some]
  refine ⟨_, rfl, ?_, ?_, fun i hi => ⟨?_, ?_, ?_, ?_⟩, fun i hi => ?_, fun a i ha => ?_⟩
  · simp (disch := omega) only [mf_o, mu_i, mu_s]
  · simp (disch := omega) only [mf_o, mu_s, mu_o]
  · simp (disch := omega) only [mf_o, mf_s, cpy_apply, if_pos hi, mu_o]
  · simp (disch := omega) only [mf_o, mf_s, cpy_apply, if_pos hi, mu_o]
  · simp (disch := omega) only [mf_o, mf_s, cpy_apply, if_pos hi, mu_o]
  · simp (disch := omega) only [mf_o, mf_s, cpy_apply, if_pos hi, mu_o]
  · simp (disch := omega) only [mf_o, mf_s, cpy_apply, if_pos hi, mu_o]
  · simp (disch := omega) only [mf_o, mu_o]
theorem row_copy {M : Mem} {d s cap n : Nat} (hk : kn (d + 1) = cap ∧ kn (s + 1) = cap) (h0 : M s 0 = nI n) (hn : n ≤ cap) (hcap : cap ≤ 150) (ap : d + 1 < s ∨ s + 1 < d) : ∃ M', fX7_copyFrom d s M = some M' ∧ M' d 0 = nI n ∧ (∀ i, i ≠ 0 → M' d i = M d i) ∧ (∀ i, i < n → M' (d + 1) i = M (s + 1) i) ∧ ∀ a i, (a < d ∨ d + 1 < a) → M' a i = M a i := by
  unfold fX7_copyFrom
  rw [bnd_eq, h0, hk.1, hk.2, jmin_nI (by omega) (by omega), Nat.min_eq_right hn, mu_s, cpy_nI hn hn (by omega), Option.bind_some]
  refine ⟨_, rfl, ?_, fun i hi => ?_, fun i hi => ?_, fun a i ha => ?_⟩
  · simp (disch := omega) only [mf_o, mu_s]
  · simp (disch := omega) only [mf_o, mu_i]
  · simp (disch := omega) only [mf_s, cpy_apply, if_pos hi, mu_o]
  · simp (disch := omega) only [mf_o, mu_o]
theorem told_copy {M : Mem} {d s n1 n2 n3 n4 : Nat} (hds : (d = 92 ∧ s = 40) ∨ (d = 40 ∧ s = 92)) (h1 : M (s + 1) 0 = nI n1) (h2 : M (s + 3) 0 = nI n2) (h3 : M (s + 5) 0 = nI n3) (h4 : M (s + 7) 0 = nI n4) (l1 : n1 ≤ 14) (l2 : n2 ≤ 16) (l3 : n3 ≤ 5) (l4 : n4 ≤ 8) : ∃ M', fX10_copyFrom d s M = some M' ∧ (M' (d + 1) 0 = nI n1 ∧ M' (d + 3) 0 = nI n2 ∧ M' (d + 5) 0 = nI n3 ∧ M' (d + 7) 0 = nI n4) ∧ (∀ j i, (j = 1 ∨ j = 3 ∨ j = 5 ∨ j = 7) → i ≠ 0 → M' (d + j) i = M (d + j) i) ∧ (∀ i, i < n1 → M' (d + 2) i = M (s + 2) i) ∧ (∀ i, i < n2 → M' (d + 4) i = M (s + 4) i) ∧ (∀ i, i < n3 → M' (d + 6) i = M (s + 6) i) ∧ (∀ i, i < n4 → M' (d + 8) i = M (s + 8) i) ∧ (∀ i, i < 9 → M' (d + 9) i = M (s + 9) i) ∧ ∀ a i, (a < d + 1 ∨ d + 9 < a) → M' a i = M a i := by
  obtain ⟨M1, a1, a2, a3, a4, a5⟩ := row_copy (M := M) (d := d + 1) (s := s + 1) (cap := 14) (by rcases hds with ⟨rfl, rfl⟩ | ⟨rfl, rfl⟩ <;> exact ⟨rfl, rfl⟩) h1 l1 (by omega) (by omega)
  obtain ⟨M2, b1, b2, b3, b4, b5⟩ := row_copy (M := M1) (d := d + 3) (s := s + 3) (cap := 16) (by rcases hds with ⟨rfl, rfl⟩ | ⟨rfl, rfl⟩ <;> exact ⟨rfl, rfl⟩) (by rw [a5 _ _ (by omega)]; exact h2) l2 (by omega) (by omega)
  obtain ⟨M3, c1, c2, c3, c4, c5⟩ := row_copy (M := M2) (d := d + 5) (s := s + 5) (cap := 5) (by rcases hds with ⟨rfl, rfl⟩ | ⟨rfl, rfl⟩ <;> exact ⟨rfl, rfl⟩) (by rw [b5 _ _ (by omega), a5 _ _ (by omega)]; exact h3) l3 (by omega) (by omega)
  obtain ⟨M4, d1, d2, d3, d4, d5⟩ := row_copy (M := M3) (d := d + 7) (s := s + 7) (cap := 8) (by rcases hds with ⟨rfl, rfl⟩ | ⟨rfl, rfl⟩ <;> exact ⟨rfl, rfl⟩) (by rw [c5 _ _ (by omega), b5 _ _ (by omega), a5 _ _ (by omega)]; exact h4) l4 (by omega) (by omega)
  have c9 : ∀ (M : Mem) a b, cpy M a 9 b 9 0 0 9 = some (mf M b (va_cpy (M a) (M b) 0 0 9)) := fun M a b => cpy_nI (c := 9) (by decide) (by decide) (by decide)
  unfold fX10_copyFrom
  rw [a1, Option.bind_some, b1, Option.bind_some, c1, Option.bind_some, d1, Option.bind_some, c9, Option.bind_some]
  refine ⟨_, rfl, ⟨?_, ?_, ?_, ?_⟩, fun j i hj hi => ?_, fun i hi => ?_, fun i hi => ?_, fun i hi => ?_, fun i hi => ?_, fun i hi => ?_, fun a i ha => ?_⟩
  · rw [mf_o (by omega), d5 _ _ (by omega), c5 _ _ (by omega), b5 _ _ (by omega)]; exact a2
  · rw [mf_o (by omega), d5 _ _ (by omega), c5 _ _ (by omega)]; exact b2
  · rw [mf_o (by omega), d5 _ _ (by omega)]; exact c2
  · rw [mf_o (by omega)]; exact d2
  · rcases hj with rfl | rfl | rfl | rfl
    · rw [mf_o (by omega), d5 _ _ (by omega), c5 _ _ (by omega), b5 _ _ (by omega), a3 i hi]
    · rw [mf_o (by omega), d5 _ _ (by omega), c5 _ _ (by omega), b3 i hi, a5 _ _ (by omega)]
    · rw [mf_o (by omega), d5 _ _ (by omega), c3 i hi, b5 _ _ (by omega), a5 _ _ (by omega)]
    · rw [mf_o (by omega), d3 i hi, c5 _ _ (by omega), b5 _ _ (by omega), a5 _ _ (by omega)]
  · rw [mf_o (by omega), d5 _ _ (by omega), c5 _ _ (by omega), b5 _ _ (by omega)]; exact a4 i hi
  · rw [mf_o (by omega), d5 _ _ (by omega), c5 _ _ (by omega)]; exact (b4 i hi).trans (a5 _ _ (by omega))
  · rw [mf_o (by omega), d5 _ _ (by omega)]; exact (c4 i hi).trans ((b5 _ _ (by omega)).trans (a5 _ _ (by omega)))
  · rw [mf_o (by omega)]; exact (d4 i hi).trans ((c5 _ _ (by omega)).trans ((b5 _ _ (by omega)).trans (a5 _ _ (by omega))))
  · rw [mf_s, cpy_apply, if_pos hi, d5 _ _ (by omega), c5 _ _ (by omega), b5 _ _ (by omega), a5 _ _ (by omega)]
  · rw [mf_o (by omega), d5 _ _ (by omega), c5 _ _ (by omega), b5 _ _ (by omega), a5 _ _ (by omega)]
/-- a Court copied: what held of one holds of the other -/
theorem CR_copy {Mc Mm : Mem} {d s : Nat} (hds : (d = 53 ∧ s = 1) ∨ (d = 1 ∧ s = 53)) (hC : CR s Mc Mm) (hw : Mc (d + 11) 1 = nI 150) (ht : Mc (d + 24) 1 = nI 16) (he : Mc (d + 29) 1 = nI 16) (hh : Mc (d + 34) 1 = nI 16) (hr : ∀ j, j = 1 ∨ j = 3 ∨ j = 5 ∨ j = 7 → ∀ i, i ≠ 0 → i ≠ 1 → Mc (d + 39 + j) i = Mc (s + 39 + j) i ∨ 4 < i) : ∃ Mc', fX0_copyFrom d s Mc = some Mc' ∧ CR d Mc' Mm ∧ ∀ a i, (a < d ∨ d + 51 < a) → Mc' a i = Mc a i := by
  obtain ⟨P, B, n, hBd, hTv, hFx, hBk, hLaw, hTw, hEv, hHe, hTo⟩ := hC
  obtain ⟨k1, k2, k3, k4⟩ := hBk
  obtain ⟨nt, t1, t2, t3, t4⟩ := hTw
  obtain ⟨ne, e1, e2, e3, e4⟩ := hEv
  obtain ⟨nh, h1, h2, h3, h4, h5⟩ := hHe
  obtain ⟨⟨q1, q2, q3, n1, r1, r2, r3, r4⟩, ⟨q4, q5, q6, n2, s1, s2, s3, s4⟩, ⟨q7, q8, q9, n3, u1, u2, u3, u4⟩, ⟨q10, q11, q12, n4, v1, v2, v3, v4⟩, hnine⟩ := hTo
  obtain ⟨M1, a1, a2, a3, a4, a5⟩ := copy_is (M := Mc) (d := d + 1) (s := s + 1) (by omega)
  obtain ⟨M2, b1, b2, b3, b4, b5⟩ := lines_copy (M := M1) (d := d + 11) (s := s + 11) (cap := 150) (n := n) (by
    intro j j1 j2
    rcases hds with ⟨rfl, rfl⟩ | ⟨rfl, rfl⟩ <;> rcases (show j = 1 ∨ j = 2 ∨ j = 3 ∨ j = 4 by omega) with rfl | rfl | rfl | rfl <;> exact ⟨rfl, rfl⟩) (by rw [a5 _ _ (by omega)]; exact hw) (by rw [a5 _ _ (by omega)]; exact k2) k1 (by omega) (by omega)
  obtain ⟨M3, c1, c2, c3, c4, c5, c6⟩ := law_copy (M := M2) (d := d + 16) (s := s + 16) (by omega)
  obtain ⟨M4, d1, d2, d3, d4, d5⟩ := lines_copy (M := M3) (d := d + 24) (s := s + 24) (cap := 16) (n := nt) (by
    intro j j1 j2
    rcases hds with ⟨rfl, rfl⟩ | ⟨rfl, rfl⟩ <;> rcases (show j = 1 ∨ j = 2 ∨ j = 3 ∨ j = 4 by omega) with rfl | rfl | rfl | rfl <;> exact ⟨rfl, rfl⟩) (by rw [c6 _ _ (by omega), b5 _ _ (by omega), a5 _ _ (by omega)]; exact ht) (by rw [c6 _ _ (by omega), b5 _ _ (by omega), a5 _ _ (by omega)]; exact t2) t1 (by omega) (by omega)
  obtain ⟨M5, f1, f2, f3, f4, f5⟩ := lines_copy (M := M4) (d := d + 29) (s := s + 29) (cap := 16) (n := ne) (by
    intro j j1 j2
    rcases hds with ⟨rfl, rfl⟩ | ⟨rfl, rfl⟩ <;> rcases (show j = 1 ∨ j = 2 ∨ j = 3 ∨ j = 4 by omega) with rfl | rfl | rfl | rfl <;> exact ⟨rfl, rfl⟩) (by rw [d5 _ _ (by omega), c6 _ _ (by omega), b5 _ _ (by omega), a5 _ _ (by omega)]; exact he) (by rw [d5 _ _ (by omega), c6 _ _ (by omega), b5 _ _ (by omega), a5 _ _ (by omega)]; exact e2) e1 (by omega) (by omega)
  obtain ⟨M6, g1, g2, g3, g4, g5⟩ := lines_copy (M := M5) (d := d + 34) (s := s + 34) (cap := 16) (n := nh) (by
    intro j j1 j2
    rcases hds with ⟨rfl, rfl⟩ | ⟨rfl, rfl⟩ <;> rcases (show j = 1 ∨ j = 2 ∨ j = 3 ∨ j = 4 by omega) with rfl | rfl | rfl | rfl <;> exact ⟨rfl, rfl⟩) (by rw [f5 _ _ (by omega), d5 _ _ (by omega), c6 _ _ (by omega), b5 _ _ (by omega), a5 _ _ (by omega)]; exact hh) (by rw [f5 _ _ (by omega), d5 _ _ (by omega), c6 _ _ (by omega), b5 _ _ (by omega), a5 _ _ (by omega)]; exact h2) h1 (by omega) (by omega)
  have x6 : ∀ a i, (a < d + 1 ∨ d + 38 < a) → M6 a i = Mc a i := fun a i ha => by rw [g5 _ _ (by omega), f5 _ _ (by omega), d5 _ _ (by omega), c6 _ _ (by omega), b5 _ _ (by omega), a5 _ _ (by omega)]
  obtain ⟨M7, o1, ⟨o2, o3, o4, o5⟩, o6, o7, o8, o9, o10, o11, o12⟩ := told_copy (M := M6) (d := d + 39) (s := s + 39) (by omega) (by rw [x6 _ _ (by omega)]; exact r2) (by rw [x6 _ _ (by omega)]; exact s2) (by rw [x6 _ _ (by omega)]; exact u2) (by rw [x6 _ _ (by omega)]; exact v2) r1 s1 u1 v1
  refine ⟨M7, ?_, ⟨P, B, n, hBd, ?_, ?_, ⟨k1, ?_, k3, fun i hi => ?_⟩, ?_, ⟨nt, t1, ?_, t3, fun i hi => ?_⟩, ⟨ne, e1, ?_, e3, fun i hi => ?_⟩, ⟨nh, h1, ?_, h3, fun i hi => ?_, fun b hb => ?_⟩, ⟨⟨?_, ?_, ?_, n1, r1, ?_, r3, fun i hi => ?_⟩, ⟨?_, ?_, ?_, n2, s1, ?_, s3, fun i hi => ?_⟩, ⟨?_, ?_, ?_, n3, u1, ?_, u3, fun i hi => ?_⟩, ⟨?_, ?_, ?_, n4, v1, ?_, v3, fun i hi => ?_⟩, fun i hi => ?_⟩⟩, fun a i ha => ?_⟩
  · unfold fX0_copyFrom
    rw [a1, Option.bind_some, b1, Option.bind_some, c1, Option.bind_some, d1, Option.bind_some, f1, Option.bind_some, g1, Option.bind_some, o1, Option.bind_some]
  · have y : ∀ a i, (d + 1 ≤ a ∧ a ≤ d + 10) → M7 a i = M1 a i := fun a i ha => by rw [o12 _ _ (by omega), g5 _ _ (by omega), f5 _ _ (by omega), d5 _ _ (by omega), c6 _ _ (by omega), b5 _ _ (by omega)]
    exact Tv_cls (Tv_copy hTv a2 a3 a4) fun a i q1 q2 => y a i (by omega)
  · have y : ∀ a i, (d + 1 ≤ a ∧ a ≤ d + 10) → M7 a i = M1 a i := fun a i ha => by rw [o12 _ _ (by omega), g5 _ _ (by omega), f5 _ _ (by omega), d5 _ _ (by omega), c6 _ _ (by omega), b5 _ _ (by omega)]
    exact Fx_cls (Fx_copy hFx a2 a4) fun a i q1 q2 => y a i (by omega)
  · rw [o12 _ _ (by omega), g5 _ _ (by omega), f5 _ _ (by omega), d5 _ _ (by omega), c6 _ _ (by omega)]; exact b2
  · have y : ∀ j, 1 ≤ j → j ≤ 4 → M7 (d + 11 + j) i = Mc (s + 11 + j) i := fun j j1 j2 => by rw [o12 _ _ (by omega), g5 _ _ (by omega), f5 _ _ (by omega), d5 _ _ (by omega), c6 _ _ (by omega), b4 j j1 j2 i hi, a5 _ _ (by omega)]
    rw [y 1 (by omega) (by omega), y 2 (by omega) (by omega), y 3 (by omega) (by omega), y 4 (by omega) (by omega)]
    exact k4 i hi
  · have y : ∀ a i, (d + 16 ≤ a ∧ a ≤ d + 21) → M7 a i = M3 a i := fun a i ha => by rw [o12 _ _ (by omega), g5 _ _ (by omega), f5 _ _ (by omega), d5 _ _ (by omega)]
    have z : ∀ a i, (s + 16 ≤ a ∧ a ≤ s + 21) → M2 a i = Mc a i := fun a i ha => by rw [b5 _ _ (by omega), a5 _ _ (by omega)]
    obtain ⟨nl, ml, l1, l2, l3, l4, l5, l6, l7⟩ := hLaw
    refine ⟨nl, ml, l1, l2, ?_, l4, ?_, fun i hi => ?_, fun l hl => ?_⟩
    · rw [y _ _ (by omega), c2, z _ _ (by omega)]; exact l3
    · rw [y _ _ (by omega), c3, z _ _ (by omega)]; exact l5
    · rw [y _ _ (by omega), c5 i (by omega), z _ _ (by omega)]; exact l6 i hi
    · obtain ⟨w1, w2, w3, w4⟩ := c4 l (by omega)
      rw [y _ _ (by omega), y _ _ (by omega), y _ _ (by omega), y _ _ (by omega), w1, w2, w3, w4, z _ _ (by omega), z _ _ (by omega), z _ _ (by omega), z _ _ (by omega)]
      exact l7 l hl
  · rw [o12 _ _ (by omega), g5 _ _ (by omega), f5 _ _ (by omega)]; exact d2
  · have y : ∀ j, 1 ≤ j → j ≤ 4 → M7 (d + 24 + j) i = Mc (s + 24 + j) i := fun j j1 j2 => by rw [o12 _ _ (by omega), g5 _ _ (by omega), f5 _ _ (by omega), d4 j j1 j2 i hi, c6 _ _ (by omega), b5 _ _ (by omega), a5 _ _ (by omega)]
    rw [y 1 (by omega) (by omega), y 2 (by omega) (by omega), y 3 (by omega) (by omega)]
    exact t4 i hi
  · rw [o12 _ _ (by omega), g5 _ _ (by omega)]; exact f2
  · have y : ∀ j, 1 ≤ j → j ≤ 4 → M7 (d + 29 + j) i = Mc (s + 29 + j) i := fun j j1 j2 => by rw [o12 _ _ (by omega), g5 _ _ (by omega), f4 j j1 j2 i hi, d5 _ _ (by omega), c6 _ _ (by omega), b5 _ _ (by omega), a5 _ _ (by omega)]
    rw [y 1 (by omega) (by omega), y 2 (by omega) (by omega), y 3 (by omega) (by omega), y 4 (by omega) (by omega)]
    exact e4 i hi
  · rw [o12 _ _ (by omega)]; exact g2
  · have y : ∀ j, 1 ≤ j → j ≤ 4 → M7 (d + 34 + j) i = Mc (s + 34 + j) i := fun j j1 j2 => by rw [o12 _ _ (by omega), g4 j j1 j2 i hi, f5 _ _ (by omega), d5 _ _ (by omega), c6 _ _ (by omega), b5 _ _ (by omega), a5 _ _ (by omega)]
    rw [y 3 (by omega) (by omega), y 4 (by omega) (by omega)]
    exact h4 i hi
  · have y : ∀ j i, 1 ≤ j → j ≤ 4 → i < nh → M7 (d + 34 + j) i = Mc (s + 34 + j) i := fun j i j1 j2 hi => by rw [o12 _ _ (by omega), g4 j j1 j2 i hi, f5 _ _ (by omega), d5 _ _ (by omega), c6 _ _ (by omega), b5 _ _ (by omega), a5 _ _ (by omega)]
    have hm : ∀ m, m ≤ nh → hmask (M7 (d + 34 + 3)) (M7 (d + 34 + 4)) b m = hmask (Mc (s + 34 + 3)) (Mc (s + 34 + 4)) b m := by
      intro m
      induction m with
      | zero => intro _; rfl
      | succ m ih =>
        intro hm
        rw [hmask, hmask, ih (by omega), y 3 m (by omega) (by omega) (by omega), y 4 m (by omega) (by omega) (by omega)]
    rw [hm nh (Nat.le_refl _)]; exact h5 b hb
  · rw [o6 1 2 (by omega) (by omega), x6 _ _ (by omega), (hr 1 (by omega) 2 (by omega) (by omega)).resolve_right (by omega)]; exact q1
  · rw [o6 1 3 (by omega) (by omega), x6 _ _ (by omega), (hr 1 (by omega) 3 (by omega) (by omega)).resolve_right (by omega)]; exact q2
  · rw [o6 1 4 (by omega) (by omega), x6 _ _ (by omega), (hr 1 (by omega) 4 (by omega) (by omega)).resolve_right (by omega)]; exact q3
  · exact o2
  · show ∃ x, 0 ≤ x ∧ x ≤ 9 ∧ M7 (d + 39 + 2) i = nI x ∧ Mm 221 i = nI x
    rw [o7 i hi, x6 _ _ (by omega)]; exact r4 i hi
  · rw [o6 3 2 (by omega) (by omega), x6 _ _ (by omega), (hr 3 (by omega) 2 (by omega) (by omega)).resolve_right (by omega)]; exact q4
  · rw [o6 3 3 (by omega) (by omega), x6 _ _ (by omega), (hr 3 (by omega) 3 (by omega) (by omega)).resolve_right (by omega)]; exact q5
  · rw [o6 3 4 (by omega) (by omega), x6 _ _ (by omega), (hr 3 (by omega) 4 (by omega) (by omega)).resolve_right (by omega)]; exact q6
  · exact o3
  · show ∃ x, 0 ≤ x ∧ x ≤ 2 ∧ M7 (d + 39 + 4) i = nI x ∧ Mm 225 i = nI x
    rw [o8 i hi, x6 _ _ (by omega)]; exact s4 i hi
  · rw [o6 5 2 (by omega) (by omega), x6 _ _ (by omega), (hr 5 (by omega) 2 (by omega) (by omega)).resolve_right (by omega)]; exact q7
  · rw [o6 5 3 (by omega) (by omega), x6 _ _ (by omega), (hr 5 (by omega) 3 (by omega) (by omega)).resolve_right (by omega)]; exact q8
  · rw [o6 5 4 (by omega) (by omega), x6 _ _ (by omega), (hr 5 (by omega) 4 (by omega) (by omega)).resolve_right (by omega)]; exact q9
  · exact o4
  · show ∃ x, 1 ≤ x ∧ x ≤ 9 ∧ M7 (d + 39 + 6) i = nI x ∧ Mm 232 i = nI x
    rw [o9 i hi, x6 _ _ (by omega)]; exact u4 i hi
  · rw [o6 7 2 (by omega) (by omega), x6 _ _ (by omega), (hr 7 (by omega) 2 (by omega) (by omega)).resolve_right (by omega)]; exact q10
  · rw [o6 7 3 (by omega) (by omega), x6 _ _ (by omega), (hr 7 (by omega) 3 (by omega) (by omega)).resolve_right (by omega)]; exact q11
  · rw [o6 7 4 (by omega) (by omega), x6 _ _ (by omega), (hr 7 (by omega) 4 (by omega) (by omega)).resolve_right (by omega)]; exact q12
  · exact o5
  · show ∃ x, 0 ≤ x ∧ x ≤ 200 ∧ M7 (d + 39 + 8) i = nI x ∧ Mm 232 (8 + i) = nI x
    rw [o10 i hi, x6 _ _ (by omega)]; exact v4 i hi
  · rw [o11 i hi, x6 _ _ (by omega)]; exact hnine i hi
  · rw [o12 _ _ (by omega), x6 _ _ (by omega)]
