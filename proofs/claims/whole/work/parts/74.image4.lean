/-! ===== image ===== -/
theorem tck_congr {op arg op' arg' : Nat → Int32} : ∀ (n i : Nat) (s : List Bool), (∀ j, j < i + n → op' j = op j ∧ arg' j = arg j) → tck op' arg' i n s = tck op arg i n s
  | 0, i, s, _ => rfl
  | n + 1, i, s, h => by
    rw [tck, tck, (h i (by omega)).1, (h (i - 1) (by omega)).1, (h (i - 1) (by omega)).2]
    have : (fun s' => tck op' arg' (i + 1) n s') = fun s' => tck op arg (i + 1) n s' := funext fun s' => tck_congr n (i + 1) s' (fun j hj => h j (by omega))
    rw [this]
theorem CR_ext {c : Nat} {Mc Mm U : Mem} (h : CR c Mc Mm) (e : ∀ a i, ipos a i < 5000 → U a i = Mm a i) : CR c Mc U := by
  have e199 : ∀ i, i < 83 → U 199 i = Mm 199 i := fun i hi => e 199 i (by rw [ip199 i hi]; omega)
  have e202 : ∀ i, i < 14 → U 202 i = Mm 202 i := fun i hi => e 202 i (by rw [ip202 i hi]; omega)
  have e203 : ∀ i, i < 14 → U 203 i = Mm 203 i := fun i hi => e 203 i (by rw [ip203 i hi]; omega)
  have e204 : ∀ i, i < 14 → U 204 i = Mm 204 i := fun i hi => e 204 i (by rw [ip204 i hi]; omega)
  have e205 : ∀ i, i < 600 → U 205 i = Mm 205 i := fun i hi => e 205 i (by rw [ip205 i hi]; omega)
  have e209 : ∀ i, i < 16 → U 209 i = Mm 209 i := fun i hi => e 209 i (by rw [ip209 i hi]; omega)
  have e210 : ∀ i, i < 16 → U 210 i = Mm 210 i := fun i hi => e 210 i (by rw [ip210 i hi]; omega)
  have e211 : ∀ i, i < 16 → U 211 i = Mm 211 i := fun i hi => e 211 i (by rw [ip211 i hi]; omega)
  have e212 : ∀ i, i < 16 → U 212 i = Mm 212 i := fun i hi => e 212 i (by rw [ip212 i hi]; omega)
  have e213 : ∀ i, i < 400 → U 213 i = Mm 213 i := fun i hi => e 213 i (by rw [ip213 i hi]; omega)
  have e214 : ∀ i, i < 400 → U 214 i = Mm 214 i := fun i hi => e 214 i (by rw [ip214 i hi]; omega)
  have e216 : ∀ i, i < 48 → U 216 i = Mm 216 i := fun i hi => e 216 i (by rw [ip216 i hi]; omega)
  have e217 : ∀ i, i < 64 → U 217 i = Mm 217 i := fun i hi => e 217 i (by rw [ip217 i hi]; omega)
  have e218 : ∀ i, i < 14 → U 218 i = Mm 218 i := fun i hi => e 218 i (by rw [ip218 i hi]; omega)
  have e221 : ∀ i, i < 14 → U 221 i = Mm 221 i := fun i hi => e 221 i (by rw [ip221 i hi]; omega)
  have e225 : ∀ i, i < 16 → U 225 i = Mm 225 i := fun i hi => e 225 i (by rw [ip225 i hi]; omega)
  have e230 : ∀ i, i < 9 → U 230 i = Mm 230 i := fun i hi => e 230 i (by rw [ip230 i hi]; omega)
  have e231 : ∀ i, i < 2 → U 231 i = Mm 231 i := fun i hi => e 231 i (by rw [ip231 i hi]; omega)
  have e232 : ∀ i, i < 16 → U 232 i = Mm 232 i := fun i hi => e 232 i (by rw [ip232 i hi]; omega)
  have e208 : U 208 0 = Mm 208 0 := e 208 0 (by decide)
  have f6 : U 198 6 = Mm 198 6 := e 198 6 (by decide)
  have f7 : U 198 7 = Mm 198 7 := e 198 7 (by decide)
  have f35 : U 198 35 = Mm 198 35 := e 198 35 (by decide)
  have f37 : U 198 37 = Mm 198 37 := e 198 37 (by decide)
  have f39 : U 198 39 = Mm 198 39 := e 198 39 (by decide)
  have f43 : U 198 43 = Mm 198 43 := e 198 43 (by decide)
  have f48 : U 198 48 = Mm 198 48 := e 198 48 (by decide)
  obtain ⟨P, B, n, ⟨b1, b2, b3, b4, b5⟩, hTv, ⟨x1, x2, x3⟩, ⟨k1, k2, k3, k4⟩, ⟨nl, ml, l1, l2, l3, l4, l5, l6, l7⟩, ⟨nt, t1, t2, t3, t4⟩, ⟨ne, v1, v2, v3, v4⟩, ⟨nh, h1, h2, h3, h4, h5⟩, ⟨⟨q1, q2, q3, n1, r1, r2, r3, r4⟩, ⟨q4, q5, q6, n2, s1, s2, s3, s4⟩, ⟨q7, q8, q9, n3, u1, u2, u3, u4⟩, ⟨q10, q11, q12, n4, y1, y2, y3, y4⟩, hnine⟩⟩ := h
  refine ⟨P, B, n, ⟨b1, b2, f6.trans b3, f7.trans b4, fun b hb => ?_⟩, Tv_rr hTv e199, ⟨by rw [f6]; exact x1, by rw [f7]; exact x2, fun b hb => ?_⟩, ⟨k1, k2, by rw [e199 2 (by omega)]; exact k3, fun i hi => ?_⟩, ⟨nl, ml, l1, l2, l3, e208.trans l4, l5, fun i hi => ?_, fun l hl => ?_⟩, ⟨nt, t1, t2, f35.trans t3, fun i hi => ?_⟩, ⟨ne, v1, v2, f37.trans v3, fun i hi => ?_⟩, ⟨nh, h1, h2, f39.trans h3, h4, fun b hb => ?_⟩, ⟨⟨q1, q2, q3, n1, r1, r2, f43.trans r3, fun i hi => ?_⟩, ⟨q4, q5, q6, n2, s1, s2, f48.trans s3, fun i hi => ?_⟩, ⟨q7, q8, q9, n3, u1, u2, (e231 0 (by omega)).trans u3, fun i hi => ?_⟩, ⟨q10, q11, q12, n4, y1, y2, (e231 1 (by omega)).trans y3, fun i hi => ?_⟩, fun i hi => ?_⟩⟩
  · rw [e202 b (by omega), e203 b (by omega), e204 b (by omega)]; exact b5 b hb
  · rw [e202 b hb, e203 b hb, e204 b hb]; exact x3 b hb
  · rw [e205 _ (by omega), e205 _ (by omega), e205 _ (by omega), e205 _ (by omega)]; exact k4 i hi
  · rw [e213 i (by omega), e214 i (by omega)]; exact l6 i hi
  · obtain ⟨w, ee, b, t, w1, w2, w3, w4, g1, g2, g3, g4, g5, g6, g7, g8, g9, g10⟩ := l7 l hl
    refine ⟨w, ee, b, t, w1, w2, w3, w4, g1, (e209 l (by omega)).trans g2, g3, (e210 l (by omega)).trans g4, g5, (e211 l (by omega)).trans g6, g7, (e212 l (by omega)).trans g8, ?_, fun q => ?_⟩
    · rw [tck_congr (op := Mm 213) (arg := Mm 214) _ _ _ (fun j hj => ⟨e213 j (by omega), e214 j (by omega)⟩)]; exact g9
    · rw [tck_congr (op := Mm 213) (arg := Mm 214) _ _ _ (fun j hj => ⟨e213 j (by omega), e214 j (by omega)⟩)]; exact g10 q
  · rw [e216 _ (by omega), e216 _ (by omega), e216 _ (by omega)]; exact t4 i hi
  · rw [e217 _ (by omega), e217 _ (by omega), e217 _ (by omega), e217 _ (by omega)]; exact v4 i hi
  · rw [e218 b hb]; exact h5 b hb
  · rw [e221 i (by omega)]; exact r4 i hi
  · rw [e225 i (by omega)]; exact s4 i hi
  · rw [e232 i (by omega)]; exact u4 i hi
  · show ∃ x, 0 ≤ x ∧ x ≤ 200 ∧ _ ∧ U 232 (8 + i) = nI x
    rw [e232 (8 + i) (by omega)]; exact y4 i hi
  · rw [e230 i hi]; exact hnine i hi
theorem cs_rows {Mc Mm : Mem} (h : CsR Mc Mm) {d s : Nat} (hds : (d = 53 ∧ s = 1) ∨ (d = 1 ∧ s = 53)) : Mc (d + 11) 1 = nI 150 ∧ Mc (d + 24) 1 = nI 16 ∧ Mc (d + 29) 1 = nI 16 ∧ Mc (d + 34) 1 = nI 16 ∧ ∀ j, j = 1 ∨ j = 3 ∨ j = 5 ∨ j = 7 → ∀ i, i ≠ 0 → i ≠ 1 → Mc (d + 39 + j) i = Mc (s + 39 + j) i ∨ 4 < i := by
  obtain ⟨c1, c2, c3, c4, c5, c6, -⟩ := h
  have z : ∀ k k' : Nat, (Mc k 2 = Mc k' 2 ∧ Mc k 3 = Mc k' 3 ∧ Mc k 4 = Mc k' 4) → ∀ i, i ≠ 0 → i ≠ 1 → Mc k i = Mc k' i ∨ 4 < i := fun k k' hk i i0 i1 => by
    rcases (show i = 2 ∨ i = 3 ∨ i = 4 ∨ 4 < i by omega) with rfl | rfl | rfl | q
    · exact Or.inl hk.1
    · exact Or.inl hk.2.1
    · exact Or.inl hk.2.2
    · exact Or.inr q
  have r1 := c3 41 (by simp)
  have r2 := c3 93 (by simp)
  have r3 := c4 43 (by simp)
  have r4 := c4 95 (by simp)
  have r5 := c5 45 (by simp)
  have r6 := c5 97 (by simp)
  have r7 := c6 47 (by simp)
  have r8 := c6 99 (by simp)
  rcases hds with ⟨rfl, rfl⟩ | ⟨rfl, rfl⟩
  · refine ⟨c1 64 (by simp), c2 77 (by simp), c2 82 (by simp), c2 87 (by simp), fun j hj => ?_⟩
    rcases hj with rfl | rfl | rfl | rfl
    · exact z 93 41 ⟨r2.1.trans r1.1.symm, r2.2.1.trans r1.2.1.symm, r2.2.2.trans r1.2.2.symm⟩
    · exact z 95 43 ⟨r4.1.trans r3.1.symm, r4.2.1.trans r3.2.1.symm, r4.2.2.trans r3.2.2.symm⟩
    · exact z 97 45 ⟨r6.1.trans r5.1.symm, r6.2.1.trans r5.2.1.symm, r6.2.2.trans r5.2.2.symm⟩
    · exact z 99 47 ⟨r8.1.trans r7.1.symm, r8.2.1.trans r7.2.1.symm, r8.2.2.trans r7.2.2.symm⟩
  · refine ⟨c1 12 (by simp), c2 25 (by simp), c2 30 (by simp), c2 35 (by simp), fun j hj => ?_⟩
    rcases hj with rfl | rfl | rfl | rfl
    · exact z 41 93 ⟨r1.1.trans r2.1.symm, r1.2.1.trans r2.2.1.symm, r1.2.2.trans r2.2.2.symm⟩
    · exact z 43 95 ⟨r3.1.trans r4.1.symm, r3.2.1.trans r4.2.1.symm, r3.2.2.trans r4.2.2.symm⟩
    · exact z 45 97 ⟨r5.1.trans r6.1.symm, r5.2.1.trans r6.2.1.symm, r5.2.2.trans r6.2.2.symm⟩
    · exact z 47 99 ⟨r7.1.trans r8.1.symm, r7.2.1.trans r8.2.1.symm, r7.2.2.trans r8.2.2.symm⟩
theorem ip_no {a i : Nat} (h : a = 200 ∨ a = 206 ∨ a = 207 ∨ a = 226 ∨ a = 227 ∨ a = 234) : ipos a i = 5000 := by
  rcases h with rfl | rfl | rfl | rfl | rfl | rfl <;> rfl
theorem s_image (p : Int32) (hp : p = 0 ∨ p = 1) : Sm (fX11_image p) (fX12_image p) := fun Mc Mm hA => by
  have h0 := hA
  obtain ⟨hC, ⟨N, hN, hN2, hPa⟩, hTa, hFa, hIm, hCs⟩ := hA
  have hz := hCs.2.2.2.2.2.2.2.2
  rcases hp with rfl | rfl
  · -- gone back to
    rcases hIm with ⟨i1, i2⟩ | ⟨i1, i2, i3⟩
    · refine ⟨0, Mc, mu Mm 198 0 0, ?_, ?_, AR_told h0⟩
      · unfold fX11_image
        rw [if_pos rfl, if_pos i1, if_pos (Or.inl i1), i1]
      · unfold fX12_image
        rw [bnd_eq, jn_eq, if_pos rfl, mu_i (by omega), if_pos i2]
    · obtain ⟨w1, w2, w3, w4, w5⟩ := cs_rows hCs (d := 1) (s := 53) (Or.inr ⟨rfl, rfl⟩)
      obtain ⟨M', ⟨a1, a2, -, a4⟩, e2⟩ := ik_all (tk := false) (Mm := Mm) (p := 0) rfl (fun _ => by rw [i2]; exact one_ne)
      obtain ⟨g1, g2⟩ := a4 rfl
      rw [if_neg (show ¬ false = true by decide)] at e2
      -- what the reference's memory is then
      have base : ∀ a i, a ≠ 198 → mu (mu (mu (mu Mm 198 0 0) 198 58 0) 198 59 1) 198 60 0 a i = Mm a i := fun a i q => by rw [mu_o q, mu_o q, mu_o q, mu_o q]
      have b198 : ∀ i, i ≠ 0 → i ≠ 58 → i ≠ 59 → i ≠ 60 → mu (mu (mu (mu Mm 198 0 0) 198 58 0) 198 59 1) 198 60 0 198 i = Mm 198 i := fun i q1 q2 q3 q4 => by rw [mu_i q4, mu_i q3, mu_i q2, mu_i q1]
      have o1 : ∀ a i, a ≠ 198 → 5000 ≤ ipos a i → mu M' 198 3 0 a i = Mm a i := fun a i q1 q2 => by rw [mu_o q1, g1 a i (fun z => q1 z.1) (Or.inr q2), base a i q1]
      have o2 : ∀ i, i ≠ 0 → i ≠ 3 → i ≠ 58 → i ≠ 59 → i ≠ 60 → 5000 ≤ ipos 198 i → mu M' 198 3 0 198 i = Mm 198 i := fun i q1 q2 q3 q4 q5 q6 => by rw [mu_i q2, g1 198 i (fun z => q5 z.2) (Or.inr q6), b198 i q1 q3 q4 q5]
      have o3 : mu M' 198 3 0 198 59 = 1 := by rw [mu_i (by omega), g1 198 59 (by omega) (Or.inr (by decide)), mu_i (by omega), mu_s]
      have o4 : ∀ a i, ipos a i < 5000 → mu M' 198 3 0 a i = unimg Mm a i := fun a i q => by
        have n3 : ¬ (a = 198 ∧ i = 3) := fun z => by rw [z.1, z.2] at q; exact absurd q (by decide)
        have s1 : mu M' 198 3 0 a i = M' a i := by
          by_cases e : a = 198
          · subst e; exact mu_i (fun z => n3 ⟨rfl, z⟩)
          · exact mu_o e
        rw [s1, g2 a i (ipos_b a i q) q, base 234 _ (by omega), unimg_ipos q]
      -- the class
      have cC : CR 53 Mc (mu M' 198 3 0) := CR_ext i3 o4
      obtain ⟨Mc1, c1, c2, c3⟩ := CR_copy (Or.inr ⟨rfl, rfl⟩) cC w1 w2 w3 w4 w5
      have m02 : mu Mc1 105 0 0 0 2 = 1 := by rw [mu_o (by omega), c3 0 2 (by omega), i1]
      have e1 : fX11_image 0 Mc = some (1, mu Mc1 105 0 0) := by
        unfold fX11_image fX6_forget
        rw [if_pos rfl, if_neg (by rw [i1]; exact one_ne), c1, Option.bind_some, bnd_eq, Option.bind_some, if_pos (Or.inr m02), m02]
      have hc := Agr.of (wX11_image 0 Mc) e1
      have hm := Agr.of (wX12_image 0 Mm) e2
      have m234 : mu M' 198 3 0 234 = Mm 234 := funext fun i => o1 234 i (by omega) (by rw [ip_no (by omega)]; omega)
      have un : unimg (mu M' 198 3 0) = unimg Mm := by unfold unimg; rw [m234]
      obtain ⟨m, x, -, hx, -, -, x1, -⟩ := hPa
      have C1 : CR 1 (mu Mc1 105 0 0) (mu M' 198 3 0) := CR_agrc (Sc := [(105, some 0)]) (Agr.mu Agr.rfl' (Or.inl (by simp))) (by decide +kernel) c2
      have C53 : CR 53 (mu Mc1 105 0 0) (unimg (mu M' 198 3 0)) := by
        rw [un]
        refine CR_agrc (Sc := (105, some 0) :: (List.range 53).map fun a => (a, none)) (fun a i q1 q2 => ?_) (by decide +kernel) i3
        have qa : 53 ≤ a := Nat.le_of_not_lt fun q => q1 (List.mem_cons_of_mem _ (List.mem_map.mpr ⟨a, List.mem_range.mpr q, rfl⟩))
        by_cases e : a = 105
        · subst e
          rw [mu_i (fun z => q2 (by rw [z]; exact List.mem_cons_self)), c3 105 i (by omega)]
        · rw [mu_o e, c3 a i (by omega)]
      obtain ⟨P, B, n, -, -, -, hBk, -⟩ := id C1
      refine ⟨1, _, _, e1, e2, C1, ⟨n, hBk.2.2.1, hBk.1, PaR_0 hx mu_s mu_s (by rw [mu_i (by omega), c3 105 1 (by omega)]; exact x1)⟩, TaR_agr hc hm (by decide +kernel) (by decide +kernel) hTa, ?_, Or.inr ⟨m02, o3, C53⟩, CsR_agr hc hm (by decide +kernel) (by decide +kernel) (o1 226 0 (by omega) (by rw [ip_no (by omega)]; omega)) (o1 227 0 (by omega) (by rw [ip_no (by omega)]; omega)) hCs⟩
      have z1 : mu Mc1 105 0 0 178 2 = Mc 178 2 := by rw [mu_o (by omega), c3 178 2 (by omega)]
      have z2 : mu Mc1 105 0 0 178 3 = Mc 178 3 := by rw [mu_o (by omega), c3 178 3 (by omega)]
      rw [z1, z2, o2 33 (by omega) (by omega) (by omega) (by omega) (by omega) (by decide), o2 34 (by omega) (by omega) (by omega) (by omega) (by omega) (by decide)]
      exact hFa
  · -- taken
    obtain ⟨w1, w2, w3, w4, w5⟩ := cs_rows hCs (d := 53) (s := 1) (Or.inl ⟨rfl, rfl⟩)
    obtain ⟨M', ⟨a1, a2, a3, -⟩, e2⟩ := ik_all (tk := true) (Mm := Mm) (p := 1) rfl (fun e => (by cases e))
    obtain ⟨g1, g2⟩ := a3 rfl
    rw [if_pos rfl] at e2
    have base : ∀ a i, a ≠ 198 → mu (mu (mu (mu Mm 198 0 0) 198 58 1) 198 59 1) 198 60 0 a i = Mm a i := fun a i q => by rw [mu_o q, mu_o q, mu_o q, mu_o q]
    have b198 : ∀ i, i ≠ 0 → i ≠ 58 → i ≠ 59 → i ≠ 60 → mu (mu (mu (mu Mm 198 0 0) 198 58 1) 198 59 1) 198 60 0 198 i = Mm 198 i := fun i q1 q2 q3 q4 => by rw [mu_i q4, mu_i q3, mu_i q2, mu_i q1]
    have bI : ∀ a i, ipos a i < 5000 → mu (mu (mu (mu Mm 198 0 0) 198 58 1) 198 59 1) 198 60 0 a i = Mm a i := fun a i q => by
      by_cases e : a = 198
      · subst e
        exact b198 i (fun z => by rw [z] at q; exact absurd q (by decide)) (fun z => by rw [z] at q; exact absurd q (by decide)) (fun z => by rw [z] at q; exact absurd q (by decide)) (fun z => by rw [z] at q; exact absurd q (by decide))
      · exact base a i e
    have o1 : ∀ a i, a ≠ 198 → a ≠ 234 → M' a i = Mm a i := fun a i q1 q2 => by rw [g1 a i q2 (fun z => q1 z.1), base a i q1]
    have o2 : ∀ i, i ≠ 0 → i ≠ 58 → i ≠ 59 → i ≠ 60 → M' 198 i = Mm 198 i := fun i q1 q3 q4 q5 => by rw [g1 198 i (by omega) (fun z => q5 z.2), b198 i q1 q3 q4 q5]
    have o3 : M' 198 59 = 1 := by rw [g1 198 59 (by omega) (by omega), mu_i (by omega), mu_s]
    have o4 : ∀ a i, ipos a i < 5000 → M' a i = Mm a i := fun a i q => by
      rw [g1 a i (fun z => by rw [z, ip234] at q; omega) (fun z => by rw [z.1, z.2] at q; exact absurd q (by decide)), bI a i q]
    have o5 : ∀ a i, ipos a i < 5000 → unimg M' a i = Mm a i := fun a i q => by
      rw [unimg_ipos q, g2 a i (ipos_b a i q) q, bI a i q]
    obtain ⟨Mc1, c1, c2, c3⟩ := CR_copy (Or.inl ⟨rfl, rfl⟩) hC w1 w2 w3 w4 w5
    have e1 : fX11_image 1 Mc = some (1, mu Mc1 0 2 1) := by
      unfold fX11_image
      rw [if_neg one_ne, c1, Option.bind_some, bnd_eq, mu_s, if_pos (Or.inr rfl)]
    have hc := Agr.of (wX11_image 1 Mc) e1
    have hm := Agr.of (wX12_image 1 Mm) e2
    have hc2 : Agr ((0, some 2) :: (List.range 52).map fun a => (a + 53, none)) Mc (mu Mc1 0 2 1) := fun a i q1 q2 => by
      have qa : a < 53 ∨ 105 ≤ a := by
        rcases Nat.lt_or_ge a 53 with q | q
        · exact Or.inl q
        · refine Or.inr (Nat.le_of_not_lt fun q' => q1 (List.mem_cons_of_mem _ (List.mem_map.mpr ⟨a - 53, List.mem_range.mpr (by omega), ?_⟩)))
          rw [show a - 53 + 53 = a by omega]
      by_cases e : a = 0
      · subst e
        rw [mu_i (fun z => q2 (by rw [z]; exact List.mem_cons_self)), c3 0 i (by omega)]
      · rw [mu_o e, c3 a i (by omega)]
    have hm2 : Agr [(198, some 0), (198, some 58), (198, some 59), (198, some 60), (234, none)] Mm M' := fun a i q1 q2 => by
      have n234 : a ≠ 234 := fun z => q1 (by rw [z]; simp)
      by_cases e : a = 198
      · subst e
        exact o2 i (fun z => q2 (by rw [z]; simp)) (fun z => q2 (by rw [z]; simp)) (fun z => q2 (by rw [z]; simp)) (fun z => q2 (by rw [z]; simp))
      · exact o1 a i e n234
    have C1 : CR 1 (mu Mc1 0 2 1) M' := CR_ext (CR_agrc hc2 (by decide +kernel) hC) o4
    have C53 : CR 53 (mu Mc1 0 2 1) (unimg M') := CR_ext (CR_agrc (Sc := [(0, some 2)]) (Agr.mu Agr.rfl' (Or.inl (by simp))) (by decide +kernel) c2) o5
    refine ⟨1, _, _, e1, e2, C1, ⟨N, by rw [o1 199 2 (by omega) (by omega)]; exact hN, hN2, PaR_agr (Nat.le_refl _) hc2 hm2 (by decide +kernel) (by decide +kernel) hPa⟩, TaR_agr hc hm (by decide +kernel) (by decide +kernel) hTa, ?_, Or.inr ⟨mu_s, o3, C53⟩, CsR_agr hc hm (by decide +kernel) (by decide +kernel) (o1 226 0 (by omega) (by omega)) (o1 227 0 (by omega) (by omega)) hCs⟩
    have z1 : mu Mc1 0 2 1 178 2 = Mc 178 2 := by rw [mu_o (by omega), c3 178 2 (by omega)]
    have z2 : mu Mc1 0 2 1 178 3 = Mc 178 3 := by rw [mu_o (by omega), c3 178 3 (by omega)]
    rw [z1, z2, o2 33 (by omega) (by omega) (by omega) (by omega), o2 34 (by omega) (by omega) (by omega) (by omega)]
    exact hFa
