/-! THE TABLES' CODE IS THE CODE -/
def mv_chD (cc : ByteArray) : Nat → List (Option Instr) → Bool
  | _, [] => true
  | pc, none :: l => mv_chD cc (pc + 1) l
  | pc, some i :: l => (match decode cc pc with | .ok (j, n) => decide (j = i) && ((Nat.beq (mv_ln i) 0 || Nat.beq n (mv_ln i)) && mv_okI i) | .error _ => false) && mv_chD cc (pc + 1) l
theorem mv_chD_at {cc : ByteArray} : ∀ (l : List (Option Instr)) (p pc : Nat) (i : Instr), mv_chD cc p l = true → mv_nth l pc = some (some i) → ∃ n, decode cc (p + pc) = .ok (i, n) ∧ (mv_ln i = 0 ∨ n = mv_ln i) ∧ mv_okI i = true := by
  intro l
  induction l with
  | nil => intro p pc i _ h; cases h
  | cons a l ih =>
    intro p pc i hc h
    cases pc with
    | zero =>
      simp only [mv_nth, Option.some.injEq] at h
      subst h
      simp only [mv_chD, Bool.and_eq_true] at hc
      obtain ⟨h1, -⟩ := hc
      rw [Nat.add_zero]
      split at h1
      · rename_i j n hd
        simp only [Bool.and_eq_true, decide_eq_true_eq, Bool.or_eq_true] at h1
        obtain ⟨rfl, h2, h3⟩ := h1
        refine ⟨n, hd, ?_, h3⟩
        rcases h2 with q | q
        · exact Or.inl (Nat.eq_of_beq_eq_true q)
        · exact Or.inr (Nat.eq_of_beq_eq_true q)
      · cases h1
    | succ pc =>
      have h5 : mv_chD cc (p + 1) l = true := by
        cases a with
        | none => exact hc
        | some i => simp only [mv_chD, Bool.and_eq_true] at hc; exact hc.2
      have := ih (p + 1) pc i h5 h
      rw [Nat.add_assoc, Nat.add_comm 1 pc] at this
      exact this
theorem mt_tb_eq {mi pc : Nat} {i : Instr} (h : mt_tb mi pc = some i) : ∃ l, mv_nth mt_tbs mi = some l ∧ mv_nth l pc = some (some i) := by
  unfold mt_tb at h
  cases hl : mv_nth mt_tbs mi with
  | none => rw [hl] at h; cases h
  | some l =>
    rw [hl] at h
    simp only [Option.bind_some] at h
    refine ⟨l, rfl, ?_⟩
    cases hq : mv_nth l pc with
    | none => rw [hq] at h; cases h
    | some q =>
      rw [hq] at h
      simp only [Option.join_some] at h
      rw [h]
theorem ch_D0 : (tbs_0.zip mt_ml0).all (fun q => mv_chD q.2.2.2.1 0 q.1) = true := by decide +kernel
theorem ch_L0 : tbs_0.length = mt_ml0.length := by decide +kernel
theorem ch_D1 : (tbs_1.zip mt_ml1).all (fun q => mv_chD q.2.2.2.1 0 q.1) = true := by decide +kernel
theorem ch_L1 : tbs_1.length = mt_ml1.length := by decide +kernel
theorem ch_D2 : (tbs_2.zip mt_ml2).all (fun q => mv_chD q.2.2.2.1 0 q.1) = true := by decide +kernel
theorem ch_L2 : tbs_2.length = mt_ml2.length := by decide +kernel
theorem ch_D3 : (tbs_3.zip mt_ml3).all (fun q => mv_chD q.2.2.2.1 0 q.1) = true := by decide +kernel
theorem ch_L3 : tbs_3.length = mt_ml3.length := by decide +kernel
theorem ch_D4 : (tbs_4.zip mt_ml4).all (fun q => mv_chD q.2.2.2.1 0 q.1) = true := by decide +kernel
theorem ch_L4 : tbs_4.length = mt_ml4.length := by decide +kernel
theorem ch_D5 : (tbs_5.zip mt_ml5).all (fun q => mv_chD q.2.2.2.1 0 q.1) = true := by decide +kernel
theorem ch_L5 : tbs_5.length = mt_ml5.length := by decide +kernel
theorem ch_D6 : (tbs_6.zip mt_ml6).all (fun q => mv_chD q.2.2.2.1 0 q.1) = true := by decide +kernel
theorem ch_L6 : tbs_6.length = mt_ml6.length := by decide +kernel
theorem ch_D7 : (tbs_7.zip mt_ml7).all (fun q => mv_chD q.2.2.2.1 0 q.1) = true := by decide +kernel
theorem ch_L7 : tbs_7.length = mt_ml7.length := by decide +kernel
theorem ch_D8 : (tbs_8.zip mt_ml8).all (fun q => mv_chD q.2.2.2.1 0 q.1) = true := by decide +kernel
theorem ch_L8 : tbs_8.length = mt_ml8.length := by decide +kernel
theorem ch_D9 : (tbs_9.zip mt_ml9).all (fun q => mv_chD q.2.2.2.1 0 q.1) = true := by decide +kernel
theorem ch_L9 : tbs_9.length = mt_ml9.length := by decide +kernel
theorem ch_D10 : (tbs_10.zip mt_ml10).all (fun q => mv_chD q.2.2.2.1 0 q.1) = true := by decide +kernel
theorem ch_L10 : tbs_10.length = mt_ml10.length := by decide +kernel
theorem ch_D11 : (tbs_11.zip mt_ml11).all (fun q => mv_chD q.2.2.2.1 0 q.1) = true := by decide +kernel
theorem ch_L11 : tbs_11.length = mt_ml11.length := by decide +kernel
theorem ch_D12 : (tbs_12.zip mt_ml12).all (fun q => mv_chD q.2.2.2.1 0 q.1) = true := by decide +kernel
theorem ch_L12 : tbs_12.length = mt_ml12.length := by decide +kernel
theorem mv_lenA {α β : Type} {a b : List α} {c d : List β} (h1 : a.length = c.length) (h2 : b.length = d.length) : (a ++ b).length = (c ++ d).length := by rw [List.length_append, List.length_append, h1, h2]
theorem mv_zipA {α β : Type} {a b : List α} {c d : List β} {f : α × β → Bool} (hl : a.length = c.length) (h1 : (a.zip c).all f = true) (h2 : (b.zip d).all f = true) : ((a ++ b).zip (c ++ d)).all f = true := by
  rw [List.zip_append hl, List.all_append, h1, h2]; rfl
theorem ch_D : (mt_tbs.zip mt_ml).all (fun q => mv_chD q.2.2.2.1 0 q.1) = true := (mv_zipA (mv_lenA (mv_lenA (mv_lenA (mv_lenA (mv_lenA (mv_lenA (mv_lenA (mv_lenA (mv_lenA (mv_lenA (mv_lenA ch_L0 ch_L1) ch_L2) ch_L3) ch_L4) ch_L5) ch_L6) ch_L7) ch_L8) ch_L9) ch_L10) ch_L11) (mv_zipA (mv_lenA (mv_lenA (mv_lenA (mv_lenA (mv_lenA (mv_lenA (mv_lenA (mv_lenA (mv_lenA (mv_lenA ch_L0 ch_L1) ch_L2) ch_L3) ch_L4) ch_L5) ch_L6) ch_L7) ch_L8) ch_L9) ch_L10) (mv_zipA (mv_lenA (mv_lenA (mv_lenA (mv_lenA (mv_lenA (mv_lenA (mv_lenA (mv_lenA (mv_lenA ch_L0 ch_L1) ch_L2) ch_L3) ch_L4) ch_L5) ch_L6) ch_L7) ch_L8) ch_L9) (mv_zipA (mv_lenA (mv_lenA (mv_lenA (mv_lenA (mv_lenA (mv_lenA (mv_lenA (mv_lenA ch_L0 ch_L1) ch_L2) ch_L3) ch_L4) ch_L5) ch_L6) ch_L7) ch_L8) (mv_zipA (mv_lenA (mv_lenA (mv_lenA (mv_lenA (mv_lenA (mv_lenA (mv_lenA ch_L0 ch_L1) ch_L2) ch_L3) ch_L4) ch_L5) ch_L6) ch_L7) (mv_zipA (mv_lenA (mv_lenA (mv_lenA (mv_lenA (mv_lenA (mv_lenA ch_L0 ch_L1) ch_L2) ch_L3) ch_L4) ch_L5) ch_L6) (mv_zipA (mv_lenA (mv_lenA (mv_lenA (mv_lenA (mv_lenA ch_L0 ch_L1) ch_L2) ch_L3) ch_L4) ch_L5) (mv_zipA (mv_lenA (mv_lenA (mv_lenA (mv_lenA ch_L0 ch_L1) ch_L2) ch_L3) ch_L4) (mv_zipA (mv_lenA (mv_lenA (mv_lenA ch_L0 ch_L1) ch_L2) ch_L3) (mv_zipA (mv_lenA (mv_lenA ch_L0 ch_L1) ch_L2) (mv_zipA (mv_lenA ch_L0 ch_L1) (mv_zipA ch_L0 ch_D0 ch_D1) ch_D2) ch_D3) ch_D4) ch_D5) ch_D6) ch_D7) ch_D8) ch_D9) ch_D10) ch_D11) ch_D12)
theorem mt_okD_ok (mi oc : Nat) (y : MethodName) (cc : ByteArray) (nL : Nat) (rt : Option FieldType) (h : mt_m mi = some (oc, y, cc, nL, rt)) : mt_okD mi cc := by
  intro pc i hi
  obtain ⟨l, h1, h2⟩ := mt_tb_eq hi
  have hz : (l, (oc, y, cc, nL, rt)) ∈ mt_tbs.zip mt_ml := by
    refine List.mem_of_getElem? (i := mi) ?_
    rw [List.getElem?_zip_eq_some]
    refine ⟨?_, ?_⟩
    · rw [← mv_nth_eq]; exact h1
    · rw [← mv_nth_eq]; exact h
  have hc := List.all_eq_true.mp ch_D _ hz
  have := mv_chD_at l 0 pc i hc h2
  rw [Nat.zero_add] at this
  exact this
theorem mt_OK : mt_ok := ⟨mt_okF_ok, mt_okM_of mt_okD_ok, mt_okL_ok, mt_okG_ok, mt_okC_ok⟩
