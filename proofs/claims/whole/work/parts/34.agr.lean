/-! ===== what a change leaves: M' is M but at the places S ===== -/
def Agr (S : List (Nat × Option Nat)) (M M' : Mem) : Prop := ∀ a i, (a, none) ∉ S → (a, some i) ∉ S → M' a i = M a i
def dj1 (S : List (Nat × Option Nat)) (q : Nat × Option Nat) : Bool := match q.2 with
  | none => S.all (fun p => p.1 != q.1)
  | some i => S.all (fun p => p.1 != q.1 || (match p.2 with
    | none => false
    | some j => j != i))
def dj (S L : List (Nat × Option Nat)) : Bool := L.all (dj1 S)
theorem dj1_some {S : List (Nat × Option Nat)} {a i : Nat} (h : dj1 S (a, some i) = true) : (a, none) ∉ S ∧ (a, some i) ∉ S := by
  have h1 : ∀ p ∈ S, (p.1 != a || (match p.2 with
    | none => false
    | some j => j != i)) = true := List.all_eq_true.mp h
  refine ⟨fun q => ?_, fun q => ?_⟩
  · have := h1 _ q; simp at this
  · have := h1 _ q; simp at this
theorem dj1_none {S : List (Nat × Option Nat)} {a : Nat} (h : dj1 S (a, none) = true) : (a, none) ∉ S ∧ ∀ i, (a, some i) ∉ S := by
  have h1 : ∀ p ∈ S, (p.1 != a) = true := List.all_eq_true.mp h
  refine ⟨fun q => ?_, fun i q => ?_⟩
  · have := h1 _ q; simp at this
  · have := h1 _ q; simp at this
section AGR
variable {S Sc Sm L : List (Nat × Option Nat)} {M M' Mc Mc' Mm Mm' : Mem}
theorem Agr.f (h : Agr S M M') (hd : dj S L = true) {a i : Nat} (hL : (a, some i) ∈ L) : M' a i = M a i := by
  have := dj1_some (List.all_eq_true.mp hd _ hL)
  exact h a i this.1 this.2
theorem Agr.c (h : Agr S M M') (hd : dj S L = true) {a : Nat} (hL : (a, none) ∈ L) : M' a = M a := by
  have := dj1_none (List.all_eq_true.mp hd _ hL)
  exact funext fun i => h a i this.1 (this.2 i)
theorem Agr.of {rm : Int32 × Mem → Mem} {E : Option (Int32 × Mem)} {r : Int32 × Mem} (hf : Fr S rm M E) (he : E = some r) : Agr S M (rm r) := hf r he
theorem Agr.rfl' : Agr S M M := fun _ _ _ _ => rfl
theorem Agr.trans {M'' : Mem} (h1 : Agr S M M') (h2 : Agr S M' M'') : Agr S M M'' := fun a i q1 q2 => (h2 a i q1 q2).trans (h1 a i q1 q2)
theorem Agr.mono {S' : List (Nat × Option Nat)} (h : Agr S M M') (hs : ∀ q ∈ S, q ∈ S') : Agr S' M M' := fun a i q1 q2 => h a i (fun q => q1 (hs _ q)) (fun q => q2 (hs _ q))
theorem Agr.mu {k j : Nat} {v : Int32} (h : Agr S M M') (hk : (k, some j) ∈ S ∨ (k, none) ∈ S) : Agr S M (mu M' k j v) := fun a i q1 q2 => by
  rw [mu_apply]
  by_cases ha : a = k
  · subst ha
    rw [if_pos rfl]
    rcases hk with hk | hk
    · have hi : ¬ i = j := fun q => q2 (q ▸ hk)
      rw [if_neg hi]; exact h a i q1 q2
    · exact absurd hk q1
  · rw [if_neg ha]; exact h a i q1 q2
abbrev ftBd : List (Nat × Option Nat) := [(198, some 6), (198, some 7), (202, none), (203, none), (204, none)]
theorem Bd_agr {P B : Nat} (hm : Agr Sm Mm Mm') (dm : dj Sm ftBd = true) (h : Bd P B Mm) : Bd P B Mm' := by
  unfold Bd at *
  rw [hm.f dm (a := 198) (i := 6) (by simp), hm.f dm (a := 198) (i := 7) (by simp), hm.c dm (a := 202) (by simp), hm.c dm (a := 203) (by simp), hm.c dm (a := 204) (by simp)]
  exact h
abbrev ftTv (k : Nat) : List (Nat × Option Nat) := [(k, some 0), (k, some 1), (k, some 2), (k, some 3), (k + 1, none), (k + 2, none), (k + 3, none), (k + 7, none), (k + 8, none), (k + 9, none)]
theorem Tv_agr {k : Nat} {r : Nat → Int32} (hc : Agr Sc Mc Mc') (dc : dj Sc (ftTv k) = true) (h : Tv Mc k r) : Tv Mc' k r := by
  unfold Tv at *
  rw [hc.f dc (a := k) (i := 0) (by simp), hc.f dc (a := k) (i := 1) (by simp), hc.f dc (a := k) (i := 2) (by simp), hc.f dc (a := k) (i := 3) (by simp), hc.c dc (a := k + 1) (by simp), hc.c dc (a := k + 2) (by simp), hc.c dc (a := k + 3) (by simp), hc.c dc (a := k + 7) (by simp), hc.c dc (a := k + 8) (by simp), hc.c dc (a := k + 9) (by simp)]
  exact h
abbrev ftFx (k : Nat) : List (Nat × Option Nat) := [(k, some 4), (k, some 5), (k + 4, none), (k + 5, none), (k + 6, none)]
theorem Fx_agr {k : Nat} (hc : Agr Sc Mc Mc') (hm : Agr Sm Mm Mm') (dc : dj Sc (ftFx k) = true) (dm : dj Sm ftBd = true) (h : Fx Mc k Mm) : Fx Mc' k Mm' := by
  unfold Fx at *
  rw [hc.f dc (a := k) (i := 4) (by simp), hc.f dc (a := k) (i := 5) (by simp), hc.c dc (a := k + 4) (by simp), hc.c dc (a := k + 5) (by simp), hc.c dc (a := k + 6) (by simp), hm.f dm (a := 198) (i := 6) (by simp), hm.f dm (a := 198) (i := 7) (by simp), hm.c dm (a := 202) (by simp), hm.c dm (a := 203) (by simp), hm.c dm (a := 204) (by simp)]
  exact h
abbrev ftBk (k : Nat) : List (Nat × Option Nat) := [(k, some 0), (k + 1, none), (k + 2, none), (k + 3, none), (k + 4, none)]
theorem Bk_agr {k n : Nat} (hc : Agr Sc Mc Mc') (hm : Agr Sm Mm Mm') (dc : dj Sc (ftBk k) = true) (dm : dj Sm [(205, none)] = true) (h2 : Mm' 199 2 = Mm 199 2) (h : Bk Mc k Mm n) : Bk Mc' k Mm' n := by
  unfold Bk at *
  rw [hc.f dc (a := k) (i := 0) (by simp), hc.c dc (a := k + 1) (by simp), hc.c dc (a := k + 2) (by simp), hc.c dc (a := k + 3) (by simp), hc.c dc (a := k + 4) (by simp), hm.c dm (a := 205) (by simp), h2]
  exact h
abbrev ftLaw (k : Nat) : List (Nat × Option Nat) := [(k, some 0), (k, some 1), (k + 1, none), (k + 2, none), (k + 3, none), (k + 4, none), (k + 5, none)]
abbrev fmLaw : List (Nat × Option Nat) := [(208, none), (209, none), (210, none), (211, none), (212, none), (213, none), (214, none)]
theorem LawR_agr {k : Nat} (hc : Agr Sc Mc Mc') (hm : Agr Sm Mm Mm') (dc : dj Sc (ftLaw k) = true) (dm : dj Sm fmLaw = true) (h : LawR Mc k Mm) : LawR Mc' k Mm' := by
  unfold LawR at *
  rw [hc.f dc (a := k) (i := 0) (by simp), hc.f dc (a := k) (i := 1) (by simp), hc.c dc (a := k + 1) (by simp), hc.c dc (a := k + 2) (by simp), hc.c dc (a := k + 3) (by simp), hc.c dc (a := k + 4) (by simp), hc.c dc (a := k + 5) (by simp), hm.c dm (a := 208) (by simp), hm.c dm (a := 209) (by simp), hm.c dm (a := 210) (by simp), hm.c dm (a := 211) (by simp), hm.c dm (a := 212) (by simp), hm.c dm (a := 213) (by simp), hm.c dm (a := 214) (by simp)]
  exact h
theorem TwR_agr {k B : Nat} (hc : Agr Sc Mc Mc') (hm : Agr Sm Mm Mm') (dc : dj Sc (ftBk k) = true) (dm : dj Sm [(198, some 35), (216, none)] = true) (h : TwR Mc k Mm B) : TwR Mc' k Mm' B := by
  unfold TwR at *
  rw [hc.f dc (a := k) (i := 0) (by simp), hc.c dc (a := k + 1) (by simp), hc.c dc (a := k + 2) (by simp), hc.c dc (a := k + 3) (by simp), hm.f dm (a := 198) (i := 35) (by simp), hm.c dm (a := 216) (by simp)]
  exact h
theorem EvR_agr {k P B : Nat} (hc : Agr Sc Mc Mc') (hm : Agr Sm Mm Mm') (dc : dj Sc (ftBk k) = true) (dm : dj Sm [(198, some 37), (217, none)] = true) (h : EvR Mc k Mm P B) : EvR Mc' k Mm' P B := by
  unfold EvR at *
  rw [hc.f dc (a := k) (i := 0) (by simp), hc.c dc (a := k + 1) (by simp), hc.c dc (a := k + 2) (by simp), hc.c dc (a := k + 3) (by simp), hc.c dc (a := k + 4) (by simp), hm.f dm (a := 198) (i := 37) (by simp), hm.c dm (a := 217) (by simp)]
  exact h
theorem HeR_agr {k P B : Nat} (hc : Agr Sc Mc Mc') (hm : Agr Sm Mm Mm') (dc : dj Sc (ftBk k) = true) (dm : dj Sm [(198, some 39), (218, none)] = true) (h : HeR Mc k Mm P B) : HeR Mc' k Mm' P B := by
  unfold HeR at *
  rw [hc.f dc (a := k) (i := 0) (by simp), hc.c dc (a := k + 3) (by simp), hc.c dc (a := k + 4) (by simp), hm.f dm (a := 198) (i := 39) (by simp), hm.c dm (a := 218) (by simp)]
  exact h
abbrev ftRw (k : Nat) : List (Nat × Option Nat) := [(k, some 0), (k, some 2), (k, some 3), (k, some 4), (k + 1, none)]
theorem RwR_agr {k cap lo hi un : Nat} {many many' : Int32} {r r' : Nat → Int32} (hc : Agr Sc Mc Mc') (dc : dj Sc (ftRw k) = true) (h1 : many' = many) (h2 : r' = r) (h : RwR Mc k many r cap lo hi un) : RwR Mc' k many' r' cap lo hi un := by
  unfold RwR at *
  rw [hc.f dc (a := k) (i := 0) (by simp), hc.f dc (a := k) (i := 2) (by simp), hc.f dc (a := k) (i := 3) (by simp), hc.f dc (a := k) (i := 4) (by simp), hc.c dc (a := k + 1) (by simp), h1, h2]
  exact h
abbrev fmTo : List (Nat × Option Nat) := [(198, some 43), (221, none), (198, some 48), (225, none), (231, none), (232, none), (230, none)]
theorem dj_sub {L' : List (Nat × Option Nat)} (h : dj S L = true) (hs : ∀ q ∈ L', q ∈ L) : dj S L' = true := List.all_eq_true.mpr fun q hq => List.all_eq_true.mp h q (hs q hq)
abbrev ftTo (k : Nat) : List (Nat × Option Nat) := ftRw (k + 1) ++ (ftRw (k + 3) ++ (ftRw (k + 5) ++ (ftRw (k + 7) ++ [(k + 9, none)])))
theorem ToR_agr {k : Nat} (hc : Agr Sc Mc Mc') (hm : Agr Sm Mm Mm') (dc : dj Sc (ftTo k) = true) (dm : dj Sm fmTo = true) (h : ToR Mc k Mm) : ToR Mc' k Mm' := by
  obtain ⟨h1, h2, h3, h4, h5⟩ := h
  refine ⟨RwR_agr hc (dj_sub dc (by simp)) (hm.f dm (by simp)) (hm.c dm (by simp)) h1, RwR_agr hc (dj_sub dc (by simp)) (hm.f dm (by simp)) (hm.c dm (by simp)) h2, RwR_agr hc (dj_sub dc (by simp)) (congrFun (hm.c dm (by simp)) _) (hm.c dm (by simp)) h3, RwR_agr hc (dj_sub dc (by simp)) (congrFun (hm.c dm (by simp)) _) (by rw [hm.c dm (a := 232) (by simp)]) h4, ?_⟩
  rw [hc.c dc (a := k + 9) (by simp), hm.c dm (a := 230) (by simp)]
  exact h5
theorem TaR_agr (hc : Agr Sc Mc Mc') (hm : Agr Sm Mm Mm') (dc : dj Sc [(178, some 1), (179, none)] = true) (dm : dj Sm [(198, some 13), (206, none)] = true) (h : TaR Mc Mm) : TaR Mc' Mm' := by
  unfold TaR at *
  rw [hc.f dc (a := 178) (i := 1) (by simp), hc.c dc (a := 179) (by simp), hm.f dm (a := 198) (i := 13) (by simp), hm.c dm (a := 206) (by simp)]
  exact h
theorem unimg_agr (hm : Agr Sm Mm Mm') (dm : dj Sm [(234, none)] = true) : unimg Mm' = unimg Mm := by
  unfold unimg
  rw [hm.c dm (a := 234) (by simp)]
/-- all the Court's places -/
abbrev ftC (c : Nat) : List (Nat × Option Nat) := ftTv (c + 1) ++ (ftFx (c + 1) ++ (ftBk (c + 11) ++ (ftLaw (c + 16) ++ (ftBk (c + 24) ++ (ftBk (c + 29) ++ (ftBk (c + 34) ++ ftTo (c + 39)))))))
theorem CR_agrc {c : Nat} (hc : Agr Sc Mc Mc') (dc : dj Sc (ftC c) = true) (h : CR c Mc Mm) : CR c Mc' Mm := by
  obtain ⟨P, B, n, hBd, hTv, hFx, hBk, hLaw, hTw, hEv, hHe, hTo⟩ := h
  have ho : Agr [] Mm Mm := Agr.rfl'
  exact ⟨P, B, n, hBd, Tv_agr hc (dj_sub dc (by simp)) hTv, Fx_agr hc ho (dj_sub dc (by simp)) rfl hFx, Bk_agr hc ho (dj_sub dc (by simp)) rfl rfl hBk, LawR_agr hc ho (dj_sub dc (by simp)) rfl hLaw, TwR_agr hc ho (dj_sub dc (by simp)) rfl hTw, EvR_agr hc ho (dj_sub dc (by simp)) rfl hEv, HeR_agr hc ho (dj_sub dc (by simp)) rfl hHe, ToR_agr hc ho (dj_sub dc (by simp)) rfl hTo⟩
theorem ImR_agr (hc : Agr Sc Mc Mc') (hm : Agr Sm Mm Mm') (dc : dj Sc ((0, some 2) :: ftC 53) = true) (dm : dj Sm [(198, some 59), (234, none)] = true) (h : (Mc 0 2 = 0 ∧ Mm 198 59 = 0) ∨ (Mc 0 2 = 1 ∧ Mm 198 59 = 1 ∧ CR 53 Mc (unimg Mm))) : (Mc' 0 2 = 0 ∧ Mm' 198 59 = 0) ∨ (Mc' 0 2 = 1 ∧ Mm' 198 59 = 1 ∧ CR 53 Mc' (unimg Mm')) := by
  rw [hc.f dc (a := 0) (i := 2) (by simp), hm.f dm (a := 198) (i := 59) (by simp), unimg_agr hm (dj_sub dm (by simp))]
  rcases h with h | ⟨h1, h2, h3⟩
  · exact Or.inl h
  · exact Or.inr ⟨h1, h2, CR_agrc hc (dj_sub dc (fun q hq => List.mem_cons_of_mem _ hq)) h3⟩
abbrev ftCs : List (Nat × Option Nat) := [(12, some 1), (64, some 1), (25, some 1), (30, some 1), (35, some 1), (77, some 1), (82, some 1), (87, some 1), (190, some 1), (41, some 2), (41, some 3), (41, some 4), (93, some 2), (93, some 3), (93, some 4), (43, some 2), (43, some 3), (43, some 4), (95, some 2), (95, some 3), (95, some 4), (45, some 2), (45, some 3), (45, some 4), (97, some 2), (97, some 3), (97, some 4), (47, some 2), (47, some 3), (47, some 4), (99, some 2), (99, some 3), (99, some 4), (196, none)]
theorem CsR_agr (hc : Agr Sc Mc Mc') (hm : Agr Sm Mm Mm') (dc : dj Sc ftCs = true) (dm : dj Sm [(207, none), (198, some 5)] = true) (h6 : Mm' 226 0 = Mm 226 0) (h7 : Mm' 227 0 = Mm 227 0) (h : CsR Mc Mm) : CsR Mc' Mm' := by
  unfold CsR at *
  simp only [List.mem_cons, List.not_mem_nil, or_false, forall_eq_or_imp, forall_eq] at *
  rw [hc.c dc (a := 196) (by simp), hm.c dm (a := 207) (by simp), hm.f dm (a := 198) (i := 5) (by simp), h6, h7]
  simp only [hc.f dc (a := 12) (i := 1) (by simp), hc.f dc (a := 64) (i := 1) (by simp), hc.f dc (a := 25) (i := 1) (by simp), hc.f dc (a := 30) (i := 1) (by simp), hc.f dc (a := 35) (i := 1) (by simp), hc.f dc (a := 77) (i := 1) (by simp), hc.f dc (a := 82) (i := 1) (by simp), hc.f dc (a := 87) (i := 1) (by simp), hc.f dc (a := 190) (i := 1) (by simp), hc.f dc (a := 41) (i := 2) (by simp), hc.f dc (a := 41) (i := 3) (by simp), hc.f dc (a := 41) (i := 4) (by simp), hc.f dc (a := 93) (i := 2) (by simp), hc.f dc (a := 93) (i := 3) (by simp), hc.f dc (a := 93) (i := 4) (by simp), hc.f dc (a := 43) (i := 2) (by simp), hc.f dc (a := 43) (i := 3) (by simp), hc.f dc (a := 43) (i := 4) (by simp), hc.f dc (a := 95) (i := 2) (by simp), hc.f dc (a := 95) (i := 3) (by simp), hc.f dc (a := 95) (i := 4) (by simp), hc.f dc (a := 45) (i := 2) (by simp), hc.f dc (a := 45) (i := 3) (by simp), hc.f dc (a := 45) (i := 4) (by simp), hc.f dc (a := 97) (i := 2) (by simp), hc.f dc (a := 97) (i := 3) (by simp), hc.f dc (a := 97) (i := 4) (by simp), hc.f dc (a := 47) (i := 2) (by simp), hc.f dc (a := 47) (i := 3) (by simp), hc.f dc (a := 47) (i := 4) (by simp), hc.f dc (a := 99) (i := 2) (by simp), hc.f dc (a := 99) (i := 3) (by simp), hc.f dc (a := 99) (i := 4) (by simp)]
  exact h
end AGR
