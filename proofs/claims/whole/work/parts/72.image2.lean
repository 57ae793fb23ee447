/-! ===== image: the reference's loops ===== -/
theorem ip199 : ∀ i, i < 83 → ipos 199 i = i := by decide +kernel
theorem ip231 : ∀ i, i < 2 → ipos 231 i = 90 + i := by decide +kernel
theorem ip202 : ∀ i, i < 14 → ipos 202 i = 92 + 5 * i := by decide +kernel
theorem ip203 : ∀ i, i < 14 → ipos 203 i = 93 + 5 * i := by decide +kernel
theorem ip204 : ∀ i, i < 14 → ipos 204 i = 94 + 5 * i := by decide +kernel
theorem ip218 : ∀ i, i < 14 → ipos 218 i = 95 + 5 * i := by decide +kernel
theorem ip221 : ∀ i, i < 14 → ipos 221 i = 96 + 5 * i := by decide +kernel
theorem ip216 : ∀ i, i < 48 → ipos 216 i = 162 + i := by decide +kernel
theorem ip217 : ∀ i, i < 64 → ipos 217 i = 210 + i := by decide +kernel
theorem ip225 : ∀ i, i < 16 → ipos 225 i = 274 + 2 * i := by decide +kernel
theorem ip232 : ∀ i, i < 16 → ipos 232 i = 275 + 2 * i := by decide +kernel
theorem ip230 : ∀ i, i < 9 → ipos 230 i = 306 + i := by decide +kernel
theorem ip205 : ∀ i, i < 600 → ipos 205 i = 315 + i := by decide +kernel
theorem ip209 : ∀ i, i < 16 → ipos 209 i = 916 + 4 * i := by decide +kernel
theorem ip210 : ∀ i, i < 16 → ipos 210 i = 917 + 4 * i := by decide +kernel
theorem ip211 : ∀ i, i < 16 → ipos 211 i = 918 + 4 * i := by decide +kernel
theorem ip212 : ∀ i, i < 16 → ipos 212 i = 919 + 4 * i := by decide +kernel
theorem ip213 : ∀ i, i < 400 → ipos 213 i = 980 + 2 * i := by decide +kernel
theorem ip214 : ∀ i, i < 400 → ipos 214 i = 981 + 2 * i := by decide +kernel
theorem ipos_b (a i : Nat) (h : ipos a i < 5000) : ipos a i < 1780 := by
  revert h
  unfold ipos
  repeat' (refine ite_c (P := fun c => c < 5000 → c < 1780) (fun h _ => ?_) (fun _ => ?_))
  all_goals omega
theorem il35 {tk : Bool} {M0 : Mem} : ∀ (k F y : Nat) (M : Mem), y + k = 83 → k < F → ImS tk M0 (y) M → ∃ M', ImS tk M0 83 M' ∧ ∀ K, fX12_image_L35 K F (nI y) M = K M'
  | k, 0, y, M, _, h, _ => by omega
  | 0, F + 1, y, M, h1, h2, h => by
    have c : (83 : Int32) ≤ nI y := nI_le (show 83 ≤ y by omega) (by omega)
    have e : y = 83 := by omega
    rw [e] at h
    exact ⟨M, h, fun K => by rw [fX12_image_L35, if_pos c]⟩
  | k + 1, F + 1, y, M, h1, h2, h => by
    have c : ¬ (83 : Int32) ≤ nI y := nI_ge (show y < 83 by omega) (by decide)
    obtain ⟨M1, a1, b1⟩ := ik_arr (n := 83) h (by omega) (show ipos 199 y = y by have := ip199 y (by omega); omega) (by omega) (by decide)
    obtain ⟨M', d1, d2⟩ := il35 k F (y + 1) M1 (by omega) (by omega) (by rw [show (y + 1) = y + 1 by omega]; exact a1)
    exact ⟨M', d1, fun K => by rw [fX12_image_L35, if_neg c, b1, nI_1]; exact d2 K⟩
theorem il118 {tk : Bool} {M0 : Mem} : ∀ (k F y : Nat) (M : Mem), y + k = 14 → k < F → ImS tk M0 (92 + 5 * y) M → ∃ M', ImS tk M0 162 M' ∧ ∀ K, fX12_keepsTold_L118 K F (nI y) M = K M'
  | k, 0, y, M, _, h, _ => by omega
  | 0, F + 1, y, M, h1, h2, h => by
    have c : (14 : Int32) ≤ nI y := nI_le (show 14 ≤ y by omega) (by omega)
    have e : 92 + 5 * y = 162 := by omega
    rw [e] at h
    exact ⟨M, h, fun K => by rw [fX12_keepsTold_L118, if_pos c]⟩
  | k + 1, F + 1, y, M, h1, h2, h => by
    have c : ¬ (14 : Int32) ≤ nI y := nI_ge (show y < 14 by omega) (by decide)
    obtain ⟨M1, a1, b1⟩ := ik_arr (n := 14) h (by omega) (show ipos 202 y = 92 + 5 * y by have := ip202 y (by omega); omega) (by omega) (by decide)
    obtain ⟨M2, a2, b2⟩ := ik_arr (n := 14) a1 (by omega) (show ipos 203 y = 92 + 5 * y + 1 by have := ip203 y (by omega); omega) (by omega) (by decide)
    obtain ⟨M3, a3, b3⟩ := ik_arr (n := 14) a2 (by omega) (show ipos 204 y = 92 + 5 * y + 1 + 1 by have := ip204 y (by omega); omega) (by omega) (by decide)
    obtain ⟨M4, a4, b4⟩ := ik_arr (n := 28) a3 (by omega) (show ipos 218 y = 92 + 5 * y + 1 + 1 + 1 by have := ip218 y (by omega); omega) (by omega) (by decide)
    obtain ⟨M5, a5, b5⟩ := ik_arr (n := 14) a4 (by omega) (show ipos 221 y = 92 + 5 * y + 1 + 1 + 1 + 1 by have := ip221 y (by omega); omega) (by omega) (by decide)
    obtain ⟨M', d1, d2⟩ := il118 k F (y + 1) M5 (by omega) (by omega) (by rw [show 92 + 5 * (y + 1) = 92 + 5 * y + 1 + 1 + 1 + 1 + 1 by omega]; exact a5)
    exact ⟨M', d1, fun K => by rw [fX12_keepsTold_L118, if_neg c, b1, b2, b3, b4, b5, nI_1]; exact d2 K⟩
theorem il212 {tk : Bool} {M0 : Mem} : ∀ (k F y : Nat) (M : Mem), y + k = 48 → k < F → ImS tk M0 (162 + y) M → ∃ M', ImS tk M0 210 M' ∧ ∀ K, fX12_keepsTold_L212 K F (nI y) M = K M'
  | k, 0, y, M, _, h, _ => by omega
  | 0, F + 1, y, M, h1, h2, h => by
    have c : (48 : Int32) ≤ nI y := nI_le (show 48 ≤ y by omega) (by omega)
    have e : 162 + y = 210 := by omega
    rw [e] at h
    exact ⟨M, h, fun K => by rw [fX12_keepsTold_L212, if_pos c]⟩
  | k + 1, F + 1, y, M, h1, h2, h => by
    have c : ¬ (48 : Int32) ≤ nI y := nI_ge (show y < 48 by omega) (by decide)
    obtain ⟨M1, a1, b1⟩ := ik_arr (n := 96) h (by omega) (show ipos 216 y = 162 + y by have := ip216 y (by omega); omega) (by omega) (by decide)
    obtain ⟨M', d1, d2⟩ := il212 k F (y + 1) M1 (by omega) (by omega) (by rw [show 162 + (y + 1) = 162 + y + 1 by omega]; exact a1)
    exact ⟨M', d1, fun K => by rw [fX12_keepsTold_L212, if_neg c, b1, nI_1]; exact d2 K⟩
theorem il242 {tk : Bool} {M0 : Mem} : ∀ (k F y : Nat) (M : Mem), y + k = 64 → k < F → ImS tk M0 (210 + y) M → ∃ M', ImS tk M0 274 M' ∧ ∀ K, fX12_keepsTold_L242 K F (nI y) M = K M'
  | k, 0, y, M, _, h, _ => by omega
  | 0, F + 1, y, M, h1, h2, h => by
    have c : (64 : Int32) ≤ nI y := nI_le (show 64 ≤ y by omega) (by omega)
    have e : 210 + y = 274 := by omega
    rw [e] at h
    exact ⟨M, h, fun K => by rw [fX12_keepsTold_L242, if_pos c]⟩
  | k + 1, F + 1, y, M, h1, h2, h => by
    have c : ¬ (64 : Int32) ≤ nI y := nI_ge (show y < 64 by omega) (by decide)
    obtain ⟨M1, a1, b1⟩ := ik_arr (n := 128) h (by omega) (show ipos 217 y = 210 + y by have := ip217 y (by omega); omega) (by omega) (by decide)
    obtain ⟨M', d1, d2⟩ := il242 k F (y + 1) M1 (by omega) (by omega) (by rw [show 210 + (y + 1) = 210 + y + 1 by omega]; exact a1)
    exact ⟨M', d1, fun K => by rw [fX12_keepsTold_L242, if_neg c, b1, nI_1]; exact d2 K⟩
theorem il272 {tk : Bool} {M0 : Mem} : ∀ (k F y : Nat) (M : Mem), y + k = 16 → k < F → ImS tk M0 (274 + 2 * y) M → ∃ M', ImS tk M0 306 M' ∧ ∀ K, fX12_keepsTold_L272 K F (nI y) M = K M'
  | k, 0, y, M, _, h, _ => by omega
  | 0, F + 1, y, M, h1, h2, h => by
    have c : (16 : Int32) ≤ nI y := nI_le (show 16 ≤ y by omega) (by omega)
    have e : 274 + 2 * y = 306 := by omega
    rw [e] at h
    exact ⟨M, h, fun K => by rw [fX12_keepsTold_L272, if_pos c]⟩
  | k + 1, F + 1, y, M, h1, h2, h => by
    have c : ¬ (16 : Int32) ≤ nI y := nI_ge (show y < 16 by omega) (by decide)
    obtain ⟨M1, a1, b1⟩ := ik_arr (n := 16) h (by omega) (show ipos 225 y = 274 + 2 * y by have := ip225 y (by omega); omega) (by omega) (by decide)
    obtain ⟨M2, a2, b2⟩ := ik_arr (n := 16) a1 (by omega) (show ipos 232 y = 274 + 2 * y + 1 by have := ip232 y (by omega); omega) (by omega) (by decide)
    obtain ⟨M', d1, d2⟩ := il272 k F (y + 1) M2 (by omega) (by omega) (by rw [show 274 + 2 * (y + 1) = 274 + 2 * y + 1 + 1 by omega]; exact a2)
    exact ⟨M', d1, fun K => by rw [fX12_keepsTold_L272, if_neg c, b1, b2, nI_1]; exact d2 K⟩
theorem il318 {tk : Bool} {M0 : Mem} : ∀ (k F y : Nat) (M : Mem), y + k = 9 → k < F → ImS tk M0 (306 + y) M → ∃ M', ImS tk M0 315 M' ∧ fX12_keepsTold_L318 F (nI y) M = some M'
  | k, 0, y, M, _, h, _ => by omega
  | 0, F + 1, y, M, h1, h2, h => by
    have c : (9 : Int32) ≤ nI y := nI_le (show 9 ≤ y by omega) (by omega)
    have e : 306 + y = 315 := by omega
    rw [e] at h
    exact ⟨M, h, by rw [fX12_keepsTold_L318, if_pos c]⟩
  | k + 1, F + 1, y, M, h1, h2, h => by
    have c : ¬ (9 : Int32) ≤ nI y := nI_ge (show y < 9 by omega) (by decide)
    obtain ⟨M1, a1, b1⟩ := ik_arr (n := 9) h (by omega) (show ipos 230 y = 306 + y by have := ip230 y (by omega); omega) (by omega) (by decide)
    obtain ⟨M', d1, d2⟩ := il318 k F (y + 1) M1 (by omega) (by omega) (by rw [show 306 + (y + 1) = 306 + y + 1 by omega]; exact a1)
    exact ⟨M', d1, by rw [fX12_keepsTold_L318, if_neg c, b1, nI_1]; exact d2⟩
theorem il69 {tk : Bool} {M0 : Mem} : ∀ (k F y : Nat) (M : Mem), y + k = 600 → k < F → ImS tk M0 (315 + y) M → ∃ M', ImS tk M0 915 M' ∧ ∀ K, fX12_image_L69 K F (nI y) M = K M'
  | k, 0, y, M, _, h, _ => by omega
  | 0, F + 1, y, M, h1, h2, h => by
    have c : (600 : Int32) ≤ nI y := nI_le (show 600 ≤ y by omega) (by omega)
    have e : 315 + y = 915 := by omega
    rw [e] at h
    exact ⟨M, h, fun K => by rw [fX12_image_L69, if_pos c]⟩
  | k + 1, F + 1, y, M, h1, h2, h => by
    have c : ¬ (600 : Int32) ≤ nI y := nI_ge (show y < 600 by omega) (by decide)
    obtain ⟨M1, a1, b1⟩ := ik_arr (n := 600) h (by omega) (show ipos 205 y = 315 + y by have := ip205 y (by omega); omega) (by omega) (by decide)
    obtain ⟨M', d1, d2⟩ := il69 k F (y + 1) M1 (by omega) (by omega) (by rw [show 315 + (y + 1) = 315 + y + 1 by omega]; exact a1)
    exact ⟨M', d1, fun K => by rw [fX12_image_L69, if_neg c, b1, nI_1]; exact d2 K⟩
theorem il18 {tk : Bool} {M0 : Mem} : ∀ (k F y : Nat) (M : Mem), y + k = 16 → k < F → ImS tk M0 (916 + 4 * y) M → ∃ M', ImS tk M0 980 M' ∧ ∀ K, fX12_keepsLaw_L18 K F (nI y) M = K M'
  | k, 0, y, M, _, h, _ => by omega
  | 0, F + 1, y, M, h1, h2, h => by
    have c : (16 : Int32) ≤ nI y := nI_le (show 16 ≤ y by omega) (by omega)
    have e : 916 + 4 * y = 980 := by omega
    rw [e] at h
    exact ⟨M, h, fun K => by rw [fX12_keepsLaw_L18, if_pos c]⟩
  | k + 1, F + 1, y, M, h1, h2, h => by
    have c : ¬ (16 : Int32) ≤ nI y := nI_ge (show y < 16 by omega) (by decide)
    obtain ⟨M1, a1, b1⟩ := ik_arr (n := 48) h (by omega) (show ipos 209 y = 916 + 4 * y by have := ip209 y (by omega); omega) (by omega) (by decide)
    obtain ⟨M2, a2, b2⟩ := ik_arr (n := 48) a1 (by omega) (show ipos 210 y = 916 + 4 * y + 1 by have := ip210 y (by omega); omega) (by omega) (by decide)
    obtain ⟨M3, a3, b3⟩ := ik_arr (n := 48) a2 (by omega) (show ipos 211 y = 916 + 4 * y + 1 + 1 by have := ip211 y (by omega); omega) (by omega) (by decide)
    obtain ⟨M4, a4, b4⟩ := ik_arr (n := 48) a3 (by omega) (show ipos 212 y = 916 + 4 * y + 1 + 1 + 1 by have := ip212 y (by omega); omega) (by omega) (by decide)
    obtain ⟨M', d1, d2⟩ := il18 k F (y + 1) M4 (by omega) (by omega) (by rw [show 916 + 4 * (y + 1) = 916 + 4 * y + 1 + 1 + 1 + 1 by omega]; exact a4)
    exact ⟨M', d1, fun K => by rw [fX12_keepsLaw_L18, if_neg c, b1, b2, b3, b4, nI_1]; exact d2 K⟩
theorem il96 {tk : Bool} {M0 : Mem} : ∀ (k F y : Nat) (M : Mem), y + k = 400 → k < F → ImS tk M0 (980 + 2 * y) M → ∃ M', ImS tk M0 1780 M' ∧ fX12_keepsLaw_L96 F (nI y) M = some M'
  | k, 0, y, M, _, h, _ => by omega
  | 0, F + 1, y, M, h1, h2, h => by
    have c : (400 : Int32) ≤ nI y := nI_le (show 400 ≤ y by omega) (by omega)
    have e : 980 + 2 * y = 1780 := by omega
    rw [e] at h
    exact ⟨M, h, by rw [fX12_keepsLaw_L96, if_pos c]⟩
  | k + 1, F + 1, y, M, h1, h2, h => by
    have c : ¬ (400 : Int32) ≤ nI y := nI_ge (show y < 400 by omega) (by decide)
    obtain ⟨M1, a1, b1⟩ := ik_arr (n := 1200) h (by omega) (show ipos 213 y = 980 + 2 * y by have := ip213 y (by omega); omega) (by omega) (by decide)
    obtain ⟨M2, a2, b2⟩ := ik_arr (n := 1200) a1 (by omega) (show ipos 214 y = 980 + 2 * y + 1 by have := ip214 y (by omega); omega) (by omega) (by decide)
    obtain ⟨M', d1, d2⟩ := il96 k F (y + 1) M2 (by omega) (by omega) (by rw [show 980 + 2 * (y + 1) = 980 + 2 * y + 1 + 1 by omega]; exact a2)
    exact ⟨M', d1, by rw [fX12_keepsLaw_L96, if_neg c, b1, b2, nI_1]; exact d2⟩
theorem ik_told {tk : Bool} {M0 M : Mem} (h : ImS tk M0 83 M) : ∃ M', ImS tk M0 315 M' ∧ fX12_keepsTold M = some M' := by
  obtain ⟨M1, a1, b1⟩ := ik_fld (i := 6) h (by omega) (by decide)
  obtain ⟨M2, a2, b2⟩ := ik_fld (i := 7) a1 (by omega) (by decide)
  obtain ⟨M3, a3, b3⟩ := ik_fld (i := 35) a2 (by omega) (by decide)
  obtain ⟨M4, a4, b4⟩ := ik_fld (i := 37) a3 (by omega) (by decide)
  obtain ⟨M5, a5, b5⟩ := ik_fld (i := 39) a4 (by omega) (by decide)
  obtain ⟨M6, a6, b6⟩ := ik_fld (i := 43) a5 (by omega) (by decide)
  obtain ⟨M7, a7, b7⟩ := ik_fld (i := 48) a6 (by omega) (by decide)
  obtain ⟨M8, a8, b8⟩ := ik_arr (n := 2) (i := 0) (a := 231) a7 (by omega) (by decide) (by omega) (by decide)
  obtain ⟨M9, a9, b9⟩ := ik_arr (n := 2) (i := 1) (a := 231) a8 (by omega) (by decide) (by omega) (by decide)
  obtain ⟨M10, a10, b10⟩ := il118 14 FU 0 M9 (by omega) (FU_gt (by omega)) a9
  obtain ⟨M11, a11, b11⟩ := il212 48 FU 0 M10 (by omega) (FU_gt (by omega)) a10
  obtain ⟨M12, a12, b12⟩ := il242 64 FU 0 M11 (by omega) (FU_gt (by omega)) a11
  obtain ⟨M13, a13, b13⟩ := il272 16 FU 0 M12 (by omega) (FU_gt (by omega)) a12
  obtain ⟨M14, a14, b14⟩ := il318 9 FU 0 M13 (by omega) (FU_gt (by omega)) a13
  rw [nI_0] at b8 b10 b11 b12 b13 b14
  have n1 : nI 1 = 1 := rfl
  rw [n1] at b9
  refine ⟨M14, a14, ?_⟩
  unfold fX12_keepsTold
  rw [b1, b2, b3, b4, b5, b6, b7, b8, b9, b10, b11, b12, b13, b14]
theorem ik_law {tk : Bool} {M0 M : Mem} (h : ImS tk M0 915 M) : ∃ M', ImS tk M0 1780 M' ∧ fX12_keepsLaw M = some M' := by
  obtain ⟨M1, a1, b1⟩ := ik_arr (n := 2) (i := 0) (a := 208) h (by omega) (by decide) (by omega) (by decide)
  obtain ⟨M2, a2, b2⟩ := il18 16 FU 0 M1 (by omega) (FU_gt (by omega)) a1
  obtain ⟨M3, a3, b3⟩ := il96 400 FU 0 M2 (by omega) (FU_gt (by omega)) a2
  rw [nI_0] at b1 b2 b3
  refine ⟨M3, a3, ?_⟩
  unfold fX12_keepsLaw
  rw [b1, b2, b3]
theorem ik_all {tk : Bool} {Mm : Mem} {p : Int32} (hp : p = if tk then 1 else 0) (h59 : tk = false → ¬ Mm 198 59 = 0) : ∃ M', ImS tk (mu (mu (mu (mu Mm 198 0 0) 198 58 p) 198 59 1) 198 60 0) 1780 M' ∧ fX12_image p Mm = if tk then some (1, M') else some (1, mu M' 198 3 0) := by
  have i0 : ImS tk (mu (mu (mu (mu Mm 198 0 0) 198 58 p) 198 59 1) 198 60 0) 0 (mu (mu (mu (mu Mm 198 0 0) 198 58 p) 198 59 1) 198 60 0) := by
    refine ⟨mu_s, by rw [mu_i (by omega), mu_i (by omega), mu_s]; exact hp, fun _ => ⟨fun _ _ _ _ => rfl, fun a i q => by omega⟩, fun _ => ⟨fun _ _ _ _ => rfl, fun a i q => by omega⟩⟩
  obtain ⟨M1, a1, b1⟩ := il35 83 FU 0 _ (by omega) (FU_gt (by omega)) i0
  obtain ⟨M2, a2, b2⟩ := ik_told a1
  obtain ⟨M3, a3, b3⟩ := il69 600 FU 0 M2 (by omega) (FU_gt (by omega)) a2
  obtain ⟨M4, a4, b4⟩ := ik_law a3
  rw [nI_0] at b1 b3
  have hp01 : p = 0 ∨ p = 1 := by cases tk with
    | true => exact Or.inr hp
    | false => exact Or.inl hp
  refine ⟨M4, a4, ?_⟩
  unfold fX12_image
  rw [bnd_eq, jn_eq, if_pos hp01, bnd_eq, bnd_eq, bnd_eq, b1, b2, Option.bind_some, b3, b4, Option.bind_some]
  cases tk with
  | true =>
    have n : ¬ p = 0 := by rw [hp]; exact one_ne
    rw [if_neg n, if_neg n, if_pos rfl]
  | false =>
    have n : p = 0 := hp
    rw [if_pos n, if_pos n, mu_i (by omega), if_neg (h59 rfl), if_neg (show ¬ false = true by decide), bnd_eq]
