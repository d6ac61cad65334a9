/-! THE TABLES' CODE IS THE CODE -/
def mv_chD (cc : ByteArray) : Nat → List (Option Instr) → Bool
  | _, [] => true
  | pc, none :: l => mv_chD cc (pc + 1) l
  | pc, some i :: l => (match decode cc pc with | .ok (j, n) => decide (j = i) && ((Nat.beq (mv_ln i) 0 || Nat.beq n (mv_ln i)) && mv_okI i) | .error _ => false) && mv_chD cc (pc + 1) l
theorem mv_chD_at {cc : ByteArray} : ∀ (l : List (Option Instr)) (p pc : Nat) (i : Instr), mv_chD cc p l = true → mv_nth l pc = some (some i) → ∃ n, decode cc (p + pc) = .ok (i, n) ∧ (mv_ln i = 0 ∨ n = mv_ln i) ∧ mv_okI i = true := by
  intro l
  induction l with
  | nil => intro p pc i _ h; cases h
  | cons a l ih =>
    intro p pc i hc h
    cases pc with
    | zero =>
      simp only [mv_nth, Option.some.injEq] at h
      subst h
      simp only [mv_chD, Bool.and_eq_true] at hc
      obtain ⟨h1, -⟩ := hc
      rw [Nat.add_zero]
      split at h1
      · rename_i j n hd
        simp only [Bool.and_eq_true, decide_eq_true_eq, Bool.or_eq_true] at h1
        obtain ⟨rfl, h2, h3⟩ := h1
        refine ⟨n, hd, ?_, h3⟩
        rcases h2 with q | q
        · exact Or.inl (Nat.eq_of_beq_eq_true q)
        · exact Or.inr (Nat.eq_of_beq_eq_true q)
      · cases h1
    | succ pc =>
      have h5 : mv_chD cc (p + 1) l = true := by
        cases a with
        | none => exact hc
        | some i => simp only [mv_chD, Bool.and_eq_true] at hc; exact hc.2
      have := ih (p + 1) pc i h5 h
      rw [Nat.add_assoc, Nat.add_comm 1 pc] at this
      exact this
theorem mt_tb_eq {mi pc : Nat} {i : Instr} (h : mt_tb mi pc = some i) : ∃ l, mv_nth mt_tbs mi = some l ∧ mv_nth l pc = some (some i) := by
  unfold mt_tb at h
  cases hl : mv_nth mt_tbs mi with
  | none => rw [hl] at h; cases h
  | some l =>
    rw [hl] at h
    simp only [Option.bind_some] at h
    refine ⟨l, rfl, ?_⟩
    cases hq : mv_nth l pc with
    | none => rw [hq] at h; cases h
    | some q =>
      rw [hq] at h
      simp only [Option.join_some] at h
      rw [h]
theorem mv_chD_app {cc : ByteArray} : ∀ (a : List (Option Instr)) (p q : Nat) (b : List (Option Instr)), q = p + a.length → mv_chD cc p a = true → mv_chD cc q b = true → mv_chD cc p (a ++ b) = true := by
  intro a
  induction a with
  | nil => intro p q b hq _ hb; rw [hq] at hb; exact hb
  | cons x a ih =>
    intro p q b hq ha hb
    have hq2 : q = p + 1 + a.length := by rw [hq, List.length_cons]; omega
    cases x with
    | none => exact ih (p + 1) q b hq2 ha hb
    | some i =>
      simp only [mv_chD, List.cons_append, Bool.and_eq_true] at ha ⊢
      exact ⟨ha.1, ih (p + 1) q b hq2 ha.2 hb⟩
theorem mv_allC {α β : Type} {a : α} {b : β} {as : List α} {bs : List β} {f : α × β → Bool} (h1 : f (a, b) = true) (h2 : (as.zip bs).all f = true) : ((a :: as).zip (b :: bs)).all f = true := by
  rw [List.zip_cons_cons, List.all_cons, h1, h2]; rfl
theorem mv_all0 {α β : Type} {f : α × β → Bool} : (([] : List α).zip ([] : List β)).all f = true := rfl
theorem ck_0 : mv_chD prog_2_method_1_code 0 tb_0 = true := by decide +kernel
theorem ck_1 : mv_chD prog_2_method_2_code 0 tb_1 = true := by decide +kernel
theorem ck_2 : mv_chD prog_2_method_3_code 0 tb_2 = true := by decide +kernel
theorem ck_3 : mv_chD prog_2_method_4_code 0 tb_3 = true := by decide +kernel
theorem ck_4 : mv_chD prog_2_method_5_code 0 tb_4 = true := by decide +kernel
theorem ck_5 : mv_chD prog_2_method_6_code 0 tb_5 = true := by decide +kernel
theorem ck_6 : mv_chD prog_2_method_7_code 0 tb_6 = true := by decide +kernel
theorem ck_7 : mv_chD prog_2_method_8_code 0 tb_7 = true := by decide +kernel
theorem ck_8 : mv_chD prog_2_method_9_code 0 tb_8 = true := by decide +kernel
theorem ck_9_0 : mv_chD prog_2_method_10_code 0 tb_9_0 = true := by decide +kernel
theorem ck_9_1 : mv_chD prog_2_method_10_code 47 tb_9_1 = true := by decide +kernel
theorem ck_9 : mv_chD prog_2_method_10_code 0 tb_9 = true := (mv_chD_app _ 0 47 _ (by decide +kernel) ck_9_0 ck_9_1)
theorem ck_10_0 : mv_chD prog_2_method_11_code 0 tb_10_0 = true := by decide +kernel
theorem ck_10_1 : mv_chD prog_2_method_11_code 56 tb_10_1 = true := by decide +kernel
theorem ck_10_2 : mv_chD prog_2_method_11_code 112 tb_10_2 = true := by decide +kernel
theorem ck_10_3 : mv_chD prog_2_method_11_code 174 tb_10_3 = true := by decide +kernel
theorem ck_10 : mv_chD prog_2_method_11_code 0 tb_10 = true := (mv_chD_app _ 0 56 _ (by decide +kernel) ck_10_0 (mv_chD_app _ 56 112 _ (by decide +kernel) ck_10_1 (mv_chD_app _ 112 174 _ (by decide +kernel) ck_10_2 ck_10_3)))
theorem ck_11_0 : mv_chD prog_2_method_12_code 0 tb_11_0 = true := by decide +kernel
theorem ck_11_1 : mv_chD prog_2_method_12_code 262 tb_11_1 = true := by decide +kernel
theorem ck_11_2 : mv_chD prog_2_method_12_code 315 tb_11_2 = true := by decide +kernel
theorem ck_11_3 : mv_chD prog_2_method_12_code 376 tb_11_3 = true := by decide +kernel
theorem ck_11 : mv_chD prog_2_method_12_code 0 tb_11 = true := (mv_chD_app _ 0 262 _ (by decide +kernel) ck_11_0 (mv_chD_app _ 262 315 _ (by decide +kernel) ck_11_1 (mv_chD_app _ 315 376 _ (by decide +kernel) ck_11_2 ck_11_3)))
theorem ck_12 : mv_chD prog_2_method_13_code 0 tb_12 = true := by decide +kernel
theorem ck_13 : mv_chD prog_2_method_14_code 0 tb_13 = true := by decide +kernel
theorem ck_14_0 : mv_chD prog_2_method_15_code 0 tb_14_0 = true := by decide +kernel
theorem ck_14_1 : mv_chD prog_2_method_15_code 54 tb_14_1 = true := by decide +kernel
theorem ck_14 : mv_chD prog_2_method_15_code 0 tb_14 = true := (mv_chD_app _ 0 54 _ (by decide +kernel) ck_14_0 ck_14_1)
theorem ck_15_0 : mv_chD prog_3_method_1_code 0 tb_15_0 = true := by decide +kernel
theorem ck_15_1 : mv_chD prog_3_method_1_code 61 tb_15_1 = true := by decide +kernel
theorem ck_15 : mv_chD prog_3_method_1_code 0 tb_15 = true := (mv_chD_app _ 0 61 _ (by decide +kernel) ck_15_0 ck_15_1)
theorem ck_16 : mv_chD prog_3_method_2_code 0 tb_16 = true := by decide +kernel
theorem ck_17 : mv_chD prog_3_method_3_code 0 tb_17 = true := by decide +kernel
theorem ck_18 : mv_chD prog_3_method_4_code 0 tb_18 = true := by decide +kernel
theorem ck_19 : mv_chD prog_3_method_5_code 0 tb_19 = true := by decide +kernel
theorem ck_20 : mv_chD prog_3_method_6_code 0 tb_20 = true := by decide +kernel
theorem ck_21 : mv_chD prog_3_method_7_code 0 tb_21 = true := by decide +kernel
theorem ck_22 : mv_chD prog_3_method_8_code 0 tb_22 = true := by decide +kernel
theorem ck_23 : mv_chD prog_3_method_9_code 0 tb_23 = true := by decide +kernel
theorem ck_24 : mv_chD prog_3_method_10_code 0 tb_24 = true := by decide +kernel
theorem ck_25_0 : mv_chD prog_3_method_11_code 0 tb_25_0 = true := by decide +kernel
theorem ck_25_1 : mv_chD prog_3_method_11_code 54 tb_25_1 = true := by decide +kernel
theorem ck_25 : mv_chD prog_3_method_11_code 0 tb_25 = true := (mv_chD_app _ 0 54 _ (by decide +kernel) ck_25_0 ck_25_1)
theorem ck_26_0 : mv_chD prog_3_method_12_code 0 tb_26_0 = true := by decide +kernel
theorem ck_26_1 : mv_chD prog_3_method_12_code 58 tb_26_1 = true := by decide +kernel
theorem ck_26 : mv_chD prog_3_method_12_code 0 tb_26 = true := (mv_chD_app _ 0 58 _ (by decide +kernel) ck_26_0 ck_26_1)
theorem ck_27_0 : mv_chD prog_3_method_13_code 0 tb_27_0 = true := by decide +kernel
theorem ck_27_1 : mv_chD prog_3_method_13_code 59 tb_27_1 = true := by decide +kernel
theorem ck_27_2 : mv_chD prog_3_method_13_code 114 tb_27_2 = true := by decide +kernel
theorem ck_27 : mv_chD prog_3_method_13_code 0 tb_27 = true := (mv_chD_app _ 0 59 _ (by decide +kernel) ck_27_0 (mv_chD_app _ 59 114 _ (by decide +kernel) ck_27_1 ck_27_2))
theorem ck_28 : mv_chD prog_3_method_14_code 0 tb_28 = true := by decide +kernel
theorem ck_29_0 : mv_chD prog_3_method_15_code 0 tb_29_0 = true := by decide +kernel
theorem ck_29_1 : mv_chD prog_3_method_15_code 57 tb_29_1 = true := by decide +kernel
theorem ck_29 : mv_chD prog_3_method_15_code 0 tb_29 = true := (mv_chD_app _ 0 57 _ (by decide +kernel) ck_29_0 ck_29_1)
theorem ck_30 : mv_chD prog_4_method_1_code 0 tb_30 = true := by decide +kernel
theorem ck_31 : mv_chD prog_4_method_2_code 0 tb_31 = true := by decide +kernel
theorem ck_32 : mv_chD prog_4_method_3_code 0 tb_32 = true := by decide +kernel
theorem ck_33_0 : mv_chD prog_4_method_4_code 0 tb_33_0 = true := by decide +kernel
theorem ck_33_1 : mv_chD prog_4_method_4_code 126 tb_33_1 = true := by decide +kernel
theorem ck_33_2 : mv_chD prog_4_method_4_code 183 tb_33_2 = true := by decide +kernel
theorem ck_33_3 : mv_chD prog_4_method_4_code 235 tb_33_3 = true := by decide +kernel
theorem ck_33_4 : mv_chD prog_4_method_4_code 293 tb_33_4 = true := by decide +kernel
theorem ck_33 : mv_chD prog_4_method_4_code 0 tb_33 = true := (mv_chD_app _ 0 126 _ (by decide +kernel) ck_33_0 (mv_chD_app _ 126 183 _ (by decide +kernel) ck_33_1 (mv_chD_app _ 183 235 _ (by decide +kernel) ck_33_2 (mv_chD_app _ 235 293 _ (by decide +kernel) ck_33_3 ck_33_4))))
theorem ck_34 : mv_chD prog_4_method_5_code 0 tb_34 = true := by decide +kernel
theorem ck_35 : mv_chD prog_4_method_6_code 0 tb_35 = true := by decide +kernel
theorem ck_36_0 : mv_chD prog_4_method_7_code 0 tb_36_0 = true := by decide +kernel
theorem ck_36_1 : mv_chD prog_4_method_7_code 57 tb_36_1 = true := by decide +kernel
theorem ck_36_2 : mv_chD prog_4_method_7_code 116 tb_36_2 = true := by decide +kernel
theorem ck_36 : mv_chD prog_4_method_7_code 0 tb_36 = true := (mv_chD_app _ 0 57 _ (by decide +kernel) ck_36_0 (mv_chD_app _ 57 116 _ (by decide +kernel) ck_36_1 ck_36_2))
theorem ck_37_0 : mv_chD prog_4_method_8_code 0 tb_37_0 = true := by decide +kernel
theorem ck_37_1 : mv_chD prog_4_method_8_code 58 tb_37_1 = true := by decide +kernel
theorem ck_37_2 : mv_chD prog_4_method_8_code 116 tb_37_2 = true := by decide +kernel
theorem ck_37 : mv_chD prog_4_method_8_code 0 tb_37 = true := (mv_chD_app _ 0 58 _ (by decide +kernel) ck_37_0 (mv_chD_app _ 58 116 _ (by decide +kernel) ck_37_1 ck_37_2))
theorem ck_38 : mv_chD prog_4_method_9_code 0 tb_38 = true := by decide +kernel
theorem ck_39 : mv_chD prog_4_method_10_code 0 tb_39 = true := by decide +kernel
theorem ck_40 : mv_chD prog_4_method_11_code 0 tb_40 = true := by decide +kernel
theorem ck_41 : mv_chD prog_4_method_12_code 0 tb_41 = true := by decide +kernel
theorem ck_42 : mv_chD prog_4_method_13_code 0 tb_42 = true := by decide +kernel
theorem ck_43_0 : mv_chD prog_4_method_14_code 0 tb_43_0 = true := by decide +kernel
theorem ck_43_1 : mv_chD prog_4_method_14_code 121 tb_43_1 = true := by decide +kernel
theorem ck_43_2 : mv_chD prog_4_method_14_code 181 tb_43_2 = true := by decide +kernel
theorem ck_43_3 : mv_chD prog_4_method_14_code 237 tb_43_3 = true := by decide +kernel
theorem ck_43_4 : mv_chD prog_4_method_14_code 283 tb_43_4 = true := by decide +kernel
theorem ck_43 : mv_chD prog_4_method_14_code 0 tb_43 = true := (mv_chD_app _ 0 121 _ (by decide +kernel) ck_43_0 (mv_chD_app _ 121 181 _ (by decide +kernel) ck_43_1 (mv_chD_app _ 181 237 _ (by decide +kernel) ck_43_2 (mv_chD_app _ 237 283 _ (by decide +kernel) ck_43_3 ck_43_4))))
theorem ck_44 : mv_chD prog_4_method_15_code 0 tb_44 = true := by decide +kernel
theorem ck_45_0 : mv_chD prog_4_method_16_code 0 tb_45_0 = true := by decide +kernel
theorem ck_45_1 : mv_chD prog_4_method_16_code 52 tb_45_1 = true := by decide +kernel
theorem ck_45 : mv_chD prog_4_method_16_code 0 tb_45 = true := (mv_chD_app _ 0 52 _ (by decide +kernel) ck_45_0 ck_45_1)
theorem ck_46_0 : mv_chD prog_4_method_17_code 0 tb_46_0 = true := by decide +kernel
theorem ck_46_1 : mv_chD prog_4_method_17_code 58 tb_46_1 = true := by decide +kernel
theorem ck_46 : mv_chD prog_4_method_17_code 0 tb_46 = true := (mv_chD_app _ 0 58 _ (by decide +kernel) ck_46_0 ck_46_1)
theorem ck_47 : mv_chD prog_4_method_18_code 0 tb_47 = true := by decide +kernel
theorem ck_48 : mv_chD prog_4_method_19_code 0 tb_48 = true := by decide +kernel
theorem ck_49_0 : mv_chD prog_4_method_20_code 0 tb_49_0 = true := by decide +kernel
theorem ck_49_1 : mv_chD prog_4_method_20_code 51 tb_49_1 = true := by decide +kernel
theorem ck_49 : mv_chD prog_4_method_20_code 0 tb_49 = true := (mv_chD_app _ 0 51 _ (by decide +kernel) ck_49_0 ck_49_1)
theorem ck_50_0 : mv_chD prog_4_method_21_code 0 tb_50_0 = true := by decide +kernel
theorem ck_50_1 : mv_chD prog_4_method_21_code 57 tb_50_1 = true := by decide +kernel
theorem ck_50 : mv_chD prog_4_method_21_code 0 tb_50 = true := (mv_chD_app _ 0 57 _ (by decide +kernel) ck_50_0 ck_50_1)
theorem ck_51_0 : mv_chD prog_4_method_22_code 0 tb_51_0 = true := by decide +kernel
theorem ck_51_1 : mv_chD prog_4_method_22_code 58 tb_51_1 = true := by decide +kernel
theorem ck_51 : mv_chD prog_4_method_22_code 0 tb_51 = true := (mv_chD_app _ 0 58 _ (by decide +kernel) ck_51_0 ck_51_1)
theorem ck_52 : mv_chD prog_4_method_23_code 0 tb_52 = true := by decide +kernel
theorem ck_53_0 : mv_chD prog_4_method_24_code 0 tb_53_0 = true := by decide +kernel
theorem ck_53_1 : mv_chD prog_4_method_24_code 108 tb_53_1 = true := by decide +kernel
theorem ck_53_2 : mv_chD prog_4_method_24_code 168 tb_53_2 = true := by decide +kernel
theorem ck_53_3 : mv_chD prog_4_method_24_code 229 tb_53_3 = true := by decide +kernel
theorem ck_53_4 : mv_chD prog_4_method_24_code 287 tb_53_4 = true := by decide +kernel
theorem ck_53 : mv_chD prog_4_method_24_code 0 tb_53 = true := (mv_chD_app _ 0 108 _ (by decide +kernel) ck_53_0 (mv_chD_app _ 108 168 _ (by decide +kernel) ck_53_1 (mv_chD_app _ 168 229 _ (by decide +kernel) ck_53_2 (mv_chD_app _ 229 287 _ (by decide +kernel) ck_53_3 ck_53_4))))
theorem ck_54_0 : mv_chD prog_4_method_25_code 0 tb_54_0 = true := by decide +kernel
theorem ck_54_1 : mv_chD prog_4_method_25_code 60 tb_54_1 = true := by decide +kernel
theorem ck_54 : mv_chD prog_4_method_25_code 0 tb_54 = true := (mv_chD_app _ 0 60 _ (by decide +kernel) ck_54_0 ck_54_1)
theorem ck_55 : mv_chD prog_4_method_26_code 0 tb_55 = true := by decide +kernel
theorem ck_56_0 : mv_chD prog_4_method_27_code 0 tb_56_0 = true := by decide +kernel
theorem ck_56_1 : mv_chD prog_4_method_27_code 64 tb_56_1 = true := by decide +kernel
theorem ck_56 : mv_chD prog_4_method_27_code 0 tb_56 = true := (mv_chD_app _ 0 64 _ (by decide +kernel) ck_56_0 ck_56_1)
theorem ck_57_0 : mv_chD prog_4_method_28_code 0 tb_57_0 = true := by decide +kernel
theorem ck_57_1 : mv_chD prog_4_method_28_code 61 tb_57_1 = true := by decide +kernel
theorem ck_57 : mv_chD prog_4_method_28_code 0 tb_57 = true := (mv_chD_app _ 0 61 _ (by decide +kernel) ck_57_0 ck_57_1)
theorem ck_58_0 : mv_chD prog_4_method_29_code 0 tb_58_0 = true := by decide +kernel
theorem ck_58_1 : mv_chD prog_4_method_29_code 58 tb_58_1 = true := by decide +kernel
theorem ck_58_2 : mv_chD prog_4_method_29_code 121 tb_58_2 = true := by decide +kernel
theorem ck_58_3 : mv_chD prog_4_method_29_code 184 tb_58_3 = true := by decide +kernel
theorem ck_58 : mv_chD prog_4_method_29_code 0 tb_58 = true := (mv_chD_app _ 0 58 _ (by decide +kernel) ck_58_0 (mv_chD_app _ 58 121 _ (by decide +kernel) ck_58_1 (mv_chD_app _ 121 184 _ (by decide +kernel) ck_58_2 ck_58_3)))
theorem ck_59_0 : mv_chD prog_4_method_30_code 0 tb_59_0 = true := by decide +kernel
theorem ck_59_1 : mv_chD prog_4_method_30_code 58 tb_59_1 = true := by decide +kernel
theorem ck_59 : mv_chD prog_4_method_30_code 0 tb_59 = true := (mv_chD_app _ 0 58 _ (by decide +kernel) ck_59_0 ck_59_1)
theorem ck_60_0 : mv_chD prog_4_method_31_code 0 tb_60_0 = true := by decide +kernel
theorem ck_60_1 : mv_chD prog_4_method_31_code 59 tb_60_1 = true := by decide +kernel
theorem ck_60 : mv_chD prog_4_method_31_code 0 tb_60 = true := (mv_chD_app _ 0 59 _ (by decide +kernel) ck_60_0 ck_60_1)
theorem ck_61_0 : mv_chD prog_4_method_32_code 0 tb_61_0 = true := by decide +kernel
theorem ck_61_1 : mv_chD prog_4_method_32_code 111 tb_61_1 = true := by decide +kernel
theorem ck_61_2 : mv_chD prog_4_method_32_code 177 tb_61_2 = true := by decide +kernel
theorem ck_61 : mv_chD prog_4_method_32_code 0 tb_61 = true := (mv_chD_app _ 0 111 _ (by decide +kernel) ck_61_0 (mv_chD_app _ 111 177 _ (by decide +kernel) ck_61_1 ck_61_2))
theorem ck_62_0 : mv_chD prog_5_method_1_code 0 tb_62_0 = true := by decide +kernel
theorem ck_62_1 : mv_chD prog_5_method_1_code 66 tb_62_1 = true := by decide +kernel
theorem ck_62 : mv_chD prog_5_method_1_code 0 tb_62 = true := (mv_chD_app _ 0 66 _ (by decide +kernel) ck_62_0 ck_62_1)
theorem ck_63 : mv_chD prog_5_method_2_code 0 tb_63 = true := by decide +kernel
theorem ck_64 : mv_chD prog_5_method_3_code 0 tb_64 = true := by decide +kernel
theorem ck_65 : mv_chD prog_5_method_4_code 0 tb_65 = true := by decide +kernel
theorem ck_66 : mv_chD prog_5_method_5_code 0 tb_66 = true := by decide +kernel
theorem ck_67_0 : mv_chD prog_5_method_6_code 0 tb_67_0 = true := by decide +kernel
theorem ck_67_1 : mv_chD prog_5_method_6_code 51 tb_67_1 = true := by decide +kernel
theorem ck_67_2 : mv_chD prog_5_method_6_code 98 tb_67_2 = true := by decide +kernel
theorem ck_67 : mv_chD prog_5_method_6_code 0 tb_67 = true := (mv_chD_app _ 0 51 _ (by decide +kernel) ck_67_0 (mv_chD_app _ 51 98 _ (by decide +kernel) ck_67_1 ck_67_2))
theorem ck_68 : mv_chD prog_5_method_7_code 0 tb_68 = true := by decide +kernel
theorem ck_69 : mv_chD prog_5_method_8_code 0 tb_69 = true := by decide +kernel
theorem ck_70 : mv_chD prog_5_method_9_code 0 tb_70 = true := by decide +kernel
theorem ck_71 : mv_chD prog_5_method_10_code 0 tb_71 = true := by decide +kernel
theorem ck_72_0 : mv_chD prog_5_method_11_code 0 tb_72_0 = true := by decide +kernel
theorem ck_72_1 : mv_chD prog_5_method_11_code 50 tb_72_1 = true := by decide +kernel
theorem ck_72 : mv_chD prog_5_method_11_code 0 tb_72 = true := (mv_chD_app _ 0 50 _ (by decide +kernel) ck_72_0 ck_72_1)
theorem ck_73 : mv_chD prog_5_method_12_code 0 tb_73 = true := by decide +kernel
theorem ck_74_0 : mv_chD prog_5_method_13_code 0 tb_74_0 = true := by decide +kernel
theorem ck_74_1 : mv_chD prog_5_method_13_code 52 tb_74_1 = true := by decide +kernel
theorem ck_74_2 : mv_chD prog_5_method_13_code 100 tb_74_2 = true := by decide +kernel
theorem ck_74_3 : mv_chD prog_5_method_13_code 147 tb_74_3 = true := by decide +kernel
theorem ck_74 : mv_chD prog_5_method_13_code 0 tb_74 = true := (mv_chD_app _ 0 52 _ (by decide +kernel) ck_74_0 (mv_chD_app _ 52 100 _ (by decide +kernel) ck_74_1 (mv_chD_app _ 100 147 _ (by decide +kernel) ck_74_2 ck_74_3)))
theorem ck_75 : mv_chD prog_5_method_14_code 0 tb_75 = true := by decide +kernel
theorem ck_76_0 : mv_chD prog_5_method_15_code 0 tb_76_0 = true := by decide +kernel
theorem ck_76_1 : mv_chD prog_5_method_15_code 45 tb_76_1 = true := by decide +kernel
theorem ck_76 : mv_chD prog_5_method_15_code 0 tb_76 = true := (mv_chD_app _ 0 45 _ (by decide +kernel) ck_76_0 ck_76_1)
theorem ck_77_0 : mv_chD prog_5_method_16_code 0 tb_77_0 = true := by decide +kernel
theorem ck_77_1 : mv_chD prog_5_method_16_code 57 tb_77_1 = true := by decide +kernel
theorem ck_77 : mv_chD prog_5_method_16_code 0 tb_77 = true := (mv_chD_app _ 0 57 _ (by decide +kernel) ck_77_0 ck_77_1)
theorem ck_78_0 : mv_chD prog_5_method_17_code 0 tb_78_0 = true := by decide +kernel
theorem ck_78_1 : mv_chD prog_5_method_17_code 53 tb_78_1 = true := by decide +kernel
theorem ck_78 : mv_chD prog_5_method_17_code 0 tb_78 = true := (mv_chD_app _ 0 53 _ (by decide +kernel) ck_78_0 ck_78_1)
theorem ck_79 : mv_chD prog_5_method_18_code 0 tb_79 = true := by decide +kernel
theorem ck_80 : mv_chD prog_5_method_19_code 0 tb_80 = true := by decide +kernel
theorem ck_81 : mv_chD prog_5_method_20_code 0 tb_81 = true := by decide +kernel
theorem ck_82_0 : mv_chD prog_5_method_21_code 0 tb_82_0 = true := by decide +kernel
theorem ck_82_1 : mv_chD prog_5_method_21_code 47 tb_82_1 = true := by decide +kernel
theorem ck_82_2 : mv_chD prog_5_method_21_code 97 tb_82_2 = true := by decide +kernel
theorem ck_82_3 : mv_chD prog_5_method_21_code 157 tb_82_3 = true := by decide +kernel
theorem ck_82_4 : mv_chD prog_5_method_21_code 205 tb_82_4 = true := by decide +kernel
theorem ck_82 : mv_chD prog_5_method_21_code 0 tb_82 = true := (mv_chD_app _ 0 47 _ (by decide +kernel) ck_82_0 (mv_chD_app _ 47 97 _ (by decide +kernel) ck_82_1 (mv_chD_app _ 97 157 _ (by decide +kernel) ck_82_2 (mv_chD_app _ 157 205 _ (by decide +kernel) ck_82_3 ck_82_4))))
theorem ck_83_0 : mv_chD prog_5_method_22_code 0 tb_83_0 = true := by decide +kernel
theorem ck_83_1 : mv_chD prog_5_method_22_code 48 tb_83_1 = true := by decide +kernel
theorem ck_83_2 : mv_chD prog_5_method_22_code 100 tb_83_2 = true := by decide +kernel
theorem ck_83 : mv_chD prog_5_method_22_code 0 tb_83 = true := (mv_chD_app _ 0 48 _ (by decide +kernel) ck_83_0 (mv_chD_app _ 48 100 _ (by decide +kernel) ck_83_1 ck_83_2))
theorem ck_84 : mv_chD prog_6_method_1_code 0 tb_84 = true := by decide +kernel
theorem ck_85 : mv_chD prog_6_method_2_code 0 tb_85 = true := by decide +kernel
theorem ck_86 : mv_chD prog_6_method_3_code 0 tb_86 = true := by decide +kernel
theorem ck_87 : mv_chD prog_6_method_4_code 0 tb_87 = true := by decide +kernel
theorem ck_88_0 : mv_chD prog_6_method_5_code 0 tb_88_0 = true := by decide +kernel
theorem ck_88_1 : mv_chD prog_6_method_5_code 63 tb_88_1 = true := by decide +kernel
theorem ck_88 : mv_chD prog_6_method_5_code 0 tb_88 = true := (mv_chD_app _ 0 63 _ (by decide +kernel) ck_88_0 ck_88_1)
theorem ck_89 : mv_chD prog_6_method_6_code 0 tb_89 = true := by decide +kernel
theorem ck_90 : mv_chD prog_6_method_7_code 0 tb_90 = true := by decide +kernel
theorem ck_91 : mv_chD prog_6_method_8_code 0 tb_91 = true := by decide +kernel
theorem ck_92_0 : mv_chD prog_6_method_9_code 0 tb_92_0 = true := by decide +kernel
theorem ck_92_1 : mv_chD prog_6_method_9_code 50 tb_92_1 = true := by decide +kernel
theorem ck_92 : mv_chD prog_6_method_9_code 0 tb_92 = true := (mv_chD_app _ 0 50 _ (by decide +kernel) ck_92_0 ck_92_1)
theorem ck_93 : mv_chD prog_6_method_10_code 0 tb_93 = true := by decide +kernel
theorem ck_94_0 : mv_chD prog_6_method_11_code 0 tb_94_0 = true := by decide +kernel
theorem ck_94_1 : mv_chD prog_6_method_11_code 62 tb_94_1 = true := by decide +kernel
theorem ck_94_2 : mv_chD prog_6_method_11_code 131 tb_94_2 = true := by decide +kernel
theorem ck_94 : mv_chD prog_6_method_11_code 0 tb_94 = true := (mv_chD_app _ 0 62 _ (by decide +kernel) ck_94_0 (mv_chD_app _ 62 131 _ (by decide +kernel) ck_94_1 ck_94_2))
theorem ck_95_0 : mv_chD prog_6_method_12_code 0 tb_95_0 = true := by decide +kernel
theorem ck_95_1 : mv_chD prog_6_method_12_code 59 tb_95_1 = true := by decide +kernel
theorem ck_95 : mv_chD prog_6_method_12_code 0 tb_95 = true := (mv_chD_app _ 0 59 _ (by decide +kernel) ck_95_0 ck_95_1)
theorem ck_96_0 : mv_chD prog_6_method_13_code 0 tb_96_0 = true := by decide +kernel
theorem ck_96_1 : mv_chD prog_6_method_13_code 60 tb_96_1 = true := by decide +kernel
theorem ck_96 : mv_chD prog_6_method_13_code 0 tb_96 = true := (mv_chD_app _ 0 60 _ (by decide +kernel) ck_96_0 ck_96_1)
theorem ck_97_0 : mv_chD prog_6_method_14_code 0 tb_97_0 = true := by decide +kernel
theorem ck_97_1 : mv_chD prog_6_method_14_code 59 tb_97_1 = true := by decide +kernel
theorem ck_97_2 : mv_chD prog_6_method_14_code 120 tb_97_2 = true := by decide +kernel
theorem ck_97 : mv_chD prog_6_method_14_code 0 tb_97 = true := (mv_chD_app _ 0 59 _ (by decide +kernel) ck_97_0 (mv_chD_app _ 59 120 _ (by decide +kernel) ck_97_1 ck_97_2))
theorem ck_98 : mv_chD prog_6_method_15_code 0 tb_98 = true := by decide +kernel
theorem ck_99_0 : mv_chD prog_6_method_16_code 0 tb_99_0 = true := by decide +kernel
theorem ck_99_1 : mv_chD prog_6_method_16_code 61 tb_99_1 = true := by decide +kernel
theorem ck_99_2 : mv_chD prog_6_method_16_code 120 tb_99_2 = true := by decide +kernel
theorem ck_99_3 : mv_chD prog_6_method_16_code 183 tb_99_3 = true := by decide +kernel
theorem ck_99_4 : mv_chD prog_6_method_16_code 247 tb_99_4 = true := by decide +kernel
theorem ck_99 : mv_chD prog_6_method_16_code 0 tb_99 = true := (mv_chD_app _ 0 61 _ (by decide +kernel) ck_99_0 (mv_chD_app _ 61 120 _ (by decide +kernel) ck_99_1 (mv_chD_app _ 120 183 _ (by decide +kernel) ck_99_2 (mv_chD_app _ 183 247 _ (by decide +kernel) ck_99_3 ck_99_4))))
theorem ck_100_0 : mv_chD prog_6_method_17_code 0 tb_100_0 = true := by decide +kernel
theorem ck_100_1 : mv_chD prog_6_method_17_code 92 tb_100_1 = true := by decide +kernel
theorem ck_100_2 : mv_chD prog_6_method_17_code 152 tb_100_2 = true := by decide +kernel
theorem ck_100_3 : mv_chD prog_6_method_17_code 209 tb_100_3 = true := by decide +kernel
theorem ck_100 : mv_chD prog_6_method_17_code 0 tb_100 = true := (mv_chD_app _ 0 92 _ (by decide +kernel) ck_100_0 (mv_chD_app _ 92 152 _ (by decide +kernel) ck_100_1 (mv_chD_app _ 152 209 _ (by decide +kernel) ck_100_2 ck_100_3)))
theorem ck_101_0 : mv_chD prog_6_method_18_code 0 tb_101_0 = true := by decide +kernel
theorem ck_101_1 : mv_chD prog_6_method_18_code 57 tb_101_1 = true := by decide +kernel
theorem ck_101 : mv_chD prog_6_method_18_code 0 tb_101 = true := (mv_chD_app _ 0 57 _ (by decide +kernel) ck_101_0 ck_101_1)
theorem ck_102_0 : mv_chD prog_6_method_19_code 0 tb_102_0 = true := by decide +kernel
theorem ck_102_1 : mv_chD prog_6_method_19_code 47 tb_102_1 = true := by decide +kernel
theorem ck_102 : mv_chD prog_6_method_19_code 0 tb_102 = true := (mv_chD_app _ 0 47 _ (by decide +kernel) ck_102_0 ck_102_1)
theorem ck_103_0 : mv_chD prog_6_method_20_code 0 tb_103_0 = true := by decide +kernel
theorem ck_103_1 : mv_chD prog_6_method_20_code 60 tb_103_1 = true := by decide +kernel
theorem ck_103_2 : mv_chD prog_6_method_20_code 120 tb_103_2 = true := by decide +kernel
theorem ck_103 : mv_chD prog_6_method_20_code 0 tb_103 = true := (mv_chD_app _ 0 60 _ (by decide +kernel) ck_103_0 (mv_chD_app _ 60 120 _ (by decide +kernel) ck_103_1 ck_103_2))
theorem ck_104_0 : mv_chD prog_6_method_21_code 0 tb_104_0 = true := by decide +kernel
theorem ck_104_1 : mv_chD prog_6_method_21_code 59 tb_104_1 = true := by decide +kernel
theorem ck_104_2 : mv_chD prog_6_method_21_code 124 tb_104_2 = true := by decide +kernel
theorem ck_104 : mv_chD prog_6_method_21_code 0 tb_104 = true := (mv_chD_app _ 0 59 _ (by decide +kernel) ck_104_0 (mv_chD_app _ 59 124 _ (by decide +kernel) ck_104_1 ck_104_2))
theorem ck_105_0 : mv_chD prog_6_method_22_code 0 tb_105_0 = true := by decide +kernel
theorem ck_105_1 : mv_chD prog_6_method_22_code 59 tb_105_1 = true := by decide +kernel
theorem ck_105_2 : mv_chD prog_6_method_22_code 122 tb_105_2 = true := by decide +kernel
theorem ck_105 : mv_chD prog_6_method_22_code 0 tb_105 = true := (mv_chD_app _ 0 59 _ (by decide +kernel) ck_105_0 (mv_chD_app _ 59 122 _ (by decide +kernel) ck_105_1 ck_105_2))
theorem ck_106_0 : mv_chD prog_6_method_23_code 0 tb_106_0 = true := by decide +kernel
theorem ck_106_1 : mv_chD prog_6_method_23_code 57 tb_106_1 = true := by decide +kernel
theorem ck_106 : mv_chD prog_6_method_23_code 0 tb_106 = true := (mv_chD_app _ 0 57 _ (by decide +kernel) ck_106_0 ck_106_1)
theorem ck_107_0 : mv_chD prog_6_method_24_code 0 tb_107_0 = true := by decide +kernel
theorem ck_107_1 : mv_chD prog_6_method_24_code 166 tb_107_1 = true := by decide +kernel
theorem ck_107_2 : mv_chD prog_6_method_24_code 217 tb_107_2 = true := by decide +kernel
theorem ck_107_3 : mv_chD prog_6_method_24_code 274 tb_107_3 = true := by decide +kernel
theorem ck_107 : mv_chD prog_6_method_24_code 0 tb_107 = true := (mv_chD_app _ 0 166 _ (by decide +kernel) ck_107_0 (mv_chD_app _ 166 217 _ (by decide +kernel) ck_107_1 (mv_chD_app _ 217 274 _ (by decide +kernel) ck_107_2 ck_107_3)))
theorem ck_108 : mv_chD prog_6_method_25_code 0 tb_108 = true := by decide +kernel
theorem ck_109 : mv_chD prog_6_method_26_code 0 tb_109 = true := by decide +kernel
theorem ck_110_0 : mv_chD prog_6_method_27_code 0 tb_110_0 = true := by decide +kernel
theorem ck_110_1 : mv_chD prog_6_method_27_code 56 tb_110_1 = true := by decide +kernel
theorem ck_110 : mv_chD prog_6_method_27_code 0 tb_110 = true := (mv_chD_app _ 0 56 _ (by decide +kernel) ck_110_0 ck_110_1)
theorem ck_111 : mv_chD prog_6_method_28_code 0 tb_111 = true := by decide +kernel
theorem ck_112_0 : mv_chD prog_6_method_29_code 0 tb_112_0 = true := by decide +kernel
theorem ck_112_1 : mv_chD prog_6_method_29_code 161 tb_112_1 = true := by decide +kernel
theorem ck_112_2 : mv_chD prog_6_method_29_code 220 tb_112_2 = true := by decide +kernel
theorem ck_112_3 : mv_chD prog_6_method_29_code 279 tb_112_3 = true := by decide +kernel
theorem ck_112 : mv_chD prog_6_method_29_code 0 tb_112 = true := (mv_chD_app _ 0 161 _ (by decide +kernel) ck_112_0 (mv_chD_app _ 161 220 _ (by decide +kernel) ck_112_1 (mv_chD_app _ 220 279 _ (by decide +kernel) ck_112_2 ck_112_3)))
theorem ck_113_0 : mv_chD prog_6_method_30_code 0 tb_113_0 = true := by decide +kernel
theorem ck_113_1 : mv_chD prog_6_method_30_code 100 tb_113_1 = true := by decide +kernel
theorem ck_113_2 : mv_chD prog_6_method_30_code 155 tb_113_2 = true := by decide +kernel
theorem ck_113_3 : mv_chD prog_6_method_30_code 219 tb_113_3 = true := by decide +kernel
theorem ck_113 : mv_chD prog_6_method_30_code 0 tb_113 = true := (mv_chD_app _ 0 100 _ (by decide +kernel) ck_113_0 (mv_chD_app _ 100 155 _ (by decide +kernel) ck_113_1 (mv_chD_app _ 155 219 _ (by decide +kernel) ck_113_2 ck_113_3)))
theorem ck_114_0 : mv_chD prog_6_method_31_code 0 tb_114_0 = true := by decide +kernel
theorem ck_114_1 : mv_chD prog_6_method_31_code 58 tb_114_1 = true := by decide +kernel
theorem ck_114 : mv_chD prog_6_method_31_code 0 tb_114 = true := (mv_chD_app _ 0 58 _ (by decide +kernel) ck_114_0 ck_114_1)
theorem ck_115 : mv_chD prog_6_method_32_code 0 tb_115 = true := by decide +kernel
theorem ck_116_0 : mv_chD prog_6_method_33_code 0 tb_116_0 = true := by decide +kernel
theorem ck_116_1 : mv_chD prog_6_method_33_code 56 tb_116_1 = true := by decide +kernel
theorem ck_116 : mv_chD prog_6_method_33_code 0 tb_116 = true := (mv_chD_app _ 0 56 _ (by decide +kernel) ck_116_0 ck_116_1)
theorem ck_117_0 : mv_chD prog_6_method_34_code 0 tb_117_0 = true := by decide +kernel
theorem ck_117_1 : mv_chD prog_6_method_34_code 62 tb_117_1 = true := by decide +kernel
theorem ck_117 : mv_chD prog_6_method_34_code 0 tb_117 = true := (mv_chD_app _ 0 62 _ (by decide +kernel) ck_117_0 ck_117_1)
theorem ck_118_0 : mv_chD prog_6_method_35_code 0 tb_118_0 = true := by decide +kernel
theorem ck_118_1 : mv_chD prog_6_method_35_code 58 tb_118_1 = true := by decide +kernel
theorem ck_118 : mv_chD prog_6_method_35_code 0 tb_118 = true := (mv_chD_app _ 0 58 _ (by decide +kernel) ck_118_0 ck_118_1)
theorem ck_119_0 : mv_chD prog_6_method_36_code 0 tb_119_0 = true := by decide +kernel
theorem ck_119_1 : mv_chD prog_6_method_36_code 59 tb_119_1 = true := by decide +kernel
theorem ck_119_2 : mv_chD prog_6_method_36_code 114 tb_119_2 = true := by decide +kernel
theorem ck_119_3 : mv_chD prog_6_method_36_code 176 tb_119_3 = true := by decide +kernel
theorem ck_119 : mv_chD prog_6_method_36_code 0 tb_119 = true := (mv_chD_app _ 0 59 _ (by decide +kernel) ck_119_0 (mv_chD_app _ 59 114 _ (by decide +kernel) ck_119_1 (mv_chD_app _ 114 176 _ (by decide +kernel) ck_119_2 ck_119_3)))
theorem ck_120_0 : mv_chD prog_6_method_37_code 0 tb_120_0 = true := by decide +kernel
theorem ck_120_1 : mv_chD prog_6_method_37_code 63 tb_120_1 = true := by decide +kernel
theorem ck_120 : mv_chD prog_6_method_37_code 0 tb_120 = true := (mv_chD_app _ 0 63 _ (by decide +kernel) ck_120_0 ck_120_1)
theorem ck_121_0 : mv_chD prog_6_method_38_code 0 tb_121_0 = true := by decide +kernel
theorem ck_121_1 : mv_chD prog_6_method_38_code 56 tb_121_1 = true := by decide +kernel
theorem ck_121 : mv_chD prog_6_method_38_code 0 tb_121 = true := (mv_chD_app _ 0 56 _ (by decide +kernel) ck_121_0 ck_121_1)
theorem ck_122 : mv_chD prog_6_method_39_code 0 tb_122 = true := by decide +kernel
theorem ck_123_0 : mv_chD prog_6_method_40_code 0 tb_123_0 = true := by decide +kernel
theorem ck_123_1 : mv_chD prog_6_method_40_code 52 tb_123_1 = true := by decide +kernel
theorem ck_123 : mv_chD prog_6_method_40_code 0 tb_123 = true := (mv_chD_app _ 0 52 _ (by decide +kernel) ck_123_0 ck_123_1)
theorem ck_124_0 : mv_chD prog_6_method_41_code 0 tb_124_0 = true := by decide +kernel
theorem ck_124_1 : mv_chD prog_6_method_41_code 88 tb_124_1 = true := by decide +kernel
theorem ck_124 : mv_chD prog_6_method_41_code 0 tb_124 = true := (mv_chD_app _ 0 88 _ (by decide +kernel) ck_124_0 ck_124_1)
theorem ck_125 : mv_chD prog_6_method_42_code 0 tb_125 = true := by decide +kernel
theorem ck_126_0 : mv_chD prog_6_method_43_code 0 tb_126_0 = true := by decide +kernel
theorem ck_126_1 : mv_chD prog_6_method_43_code 152 tb_126_1 = true := by decide +kernel
theorem ck_126_2 : mv_chD prog_6_method_43_code 218 tb_126_2 = true := by decide +kernel
theorem ck_126 : mv_chD prog_6_method_43_code 0 tb_126 = true := (mv_chD_app _ 0 152 _ (by decide +kernel) ck_126_0 (mv_chD_app _ 152 218 _ (by decide +kernel) ck_126_1 ck_126_2))
theorem ck_127_0 : mv_chD prog_6_method_44_code 0 tb_127_0 = true := by decide +kernel
theorem ck_127_1 : mv_chD prog_6_method_44_code 126 tb_127_1 = true := by decide +kernel
theorem ck_127_2 : mv_chD prog_6_method_44_code 183 tb_127_2 = true := by decide +kernel
theorem ck_127 : mv_chD prog_6_method_44_code 0 tb_127 = true := (mv_chD_app _ 0 126 _ (by decide +kernel) ck_127_0 (mv_chD_app _ 126 183 _ (by decide +kernel) ck_127_1 ck_127_2))
theorem ck_128_0 : mv_chD prog_6_method_45_code 0 tb_128_0 = true := by decide +kernel
theorem ck_128_1 : mv_chD prog_6_method_45_code 60 tb_128_1 = true := by decide +kernel
theorem ck_128 : mv_chD prog_6_method_45_code 0 tb_128 = true := (mv_chD_app _ 0 60 _ (by decide +kernel) ck_128_0 ck_128_1)
theorem ck_129 : mv_chD prog_6_method_46_code 0 tb_129 = true := by decide +kernel
theorem ck_130 : mv_chD prog_6_method_47_code 0 tb_130 = true := by decide +kernel
theorem ck_131_0 : mv_chD prog_6_method_48_code 0 tb_131_0 = true := by decide +kernel
theorem ck_131_1 : mv_chD prog_6_method_48_code 58 tb_131_1 = true := by decide +kernel
theorem ck_131_2 : mv_chD prog_6_method_48_code 117 tb_131_2 = true := by decide +kernel
theorem ck_131_3 : mv_chD prog_6_method_48_code 183 tb_131_3 = true := by decide +kernel
theorem ck_131 : mv_chD prog_6_method_48_code 0 tb_131 = true := (mv_chD_app _ 0 58 _ (by decide +kernel) ck_131_0 (mv_chD_app _ 58 117 _ (by decide +kernel) ck_131_1 (mv_chD_app _ 117 183 _ (by decide +kernel) ck_131_2 ck_131_3)))
theorem ck_132_0 : mv_chD prog_6_method_49_code 0 tb_132_0 = true := by decide +kernel
theorem ck_132_1 : mv_chD prog_6_method_49_code 58 tb_132_1 = true := by decide +kernel
theorem ck_132 : mv_chD prog_6_method_49_code 0 tb_132 = true := (mv_chD_app _ 0 58 _ (by decide +kernel) ck_132_0 ck_132_1)
theorem ck_133 : mv_chD prog_6_method_50_code 0 tb_133 = true := by decide +kernel
theorem ck_134_0 : mv_chD prog_6_method_51_code 0 tb_134_0 = true := by decide +kernel
theorem ck_134_1 : mv_chD prog_6_method_51_code 60 tb_134_1 = true := by decide +kernel
theorem ck_134 : mv_chD prog_6_method_51_code 0 tb_134 = true := (mv_chD_app _ 0 60 _ (by decide +kernel) ck_134_0 ck_134_1)
theorem ck_135_0 : mv_chD prog_6_method_52_code 0 tb_135_0 = true := by decide +kernel
theorem ck_135_1 : mv_chD prog_6_method_52_code 60 tb_135_1 = true := by decide +kernel
theorem ck_135 : mv_chD prog_6_method_52_code 0 tb_135 = true := (mv_chD_app _ 0 60 _ (by decide +kernel) ck_135_0 ck_135_1)
theorem ck_136_0 : mv_chD prog_7_method_1_code 0 tb_136_0 = true := by decide +kernel
theorem ck_136_1 : mv_chD prog_7_method_1_code 58 tb_136_1 = true := by decide +kernel
theorem ck_136_2 : mv_chD prog_7_method_1_code 116 tb_136_2 = true := by decide +kernel
theorem ck_136 : mv_chD prog_7_method_1_code 0 tb_136 = true := (mv_chD_app _ 0 58 _ (by decide +kernel) ck_136_0 (mv_chD_app _ 58 116 _ (by decide +kernel) ck_136_1 ck_136_2))
theorem ck_137 : mv_chD prog_7_method_2_code 0 tb_137 = true := by decide +kernel
theorem ck_138 : mv_chD prog_7_method_3_code 0 tb_138 = true := by decide +kernel
theorem ck_139_0 : mv_chD prog_7_method_4_code 0 tb_139_0 = true := by decide +kernel
theorem ck_139_1 : mv_chD prog_7_method_4_code 51 tb_139_1 = true := by decide +kernel
theorem ck_139 : mv_chD prog_7_method_4_code 0 tb_139 = true := (mv_chD_app _ 0 51 _ (by decide +kernel) ck_139_0 ck_139_1)
theorem ck_140 : mv_chD prog_7_method_5_code 0 tb_140 = true := by decide +kernel
theorem ck_141 : mv_chD prog_7_method_6_code 0 tb_141 = true := by decide +kernel
theorem ck_142 : mv_chD prog_7_method_7_code 0 tb_142 = true := by decide +kernel
theorem ck_143 : mv_chD prog_7_method_8_code 0 tb_143 = true := by decide +kernel
theorem ck_144 : mv_chD prog_7_method_9_code 0 tb_144 = true := by decide +kernel
theorem ck_145 : mv_chD prog_7_method_10_code 0 tb_145 = true := by decide +kernel
theorem ck_146 : mv_chD prog_7_method_11_code 0 tb_146 = true := by decide +kernel
theorem ck_147 : mv_chD prog_7_method_12_code 0 tb_147 = true := by decide +kernel
theorem ck_148 : mv_chD prog_7_method_13_code 0 tb_148 = true := by decide +kernel
theorem ck_149 : mv_chD prog_7_method_14_code 0 tb_149 = true := by decide +kernel
theorem ck_150_0 : mv_chD prog_7_method_15_code 0 tb_150_0 = true := by decide +kernel
theorem ck_150_1 : mv_chD prog_7_method_15_code 90 tb_150_1 = true := by decide +kernel
theorem ck_150 : mv_chD prog_7_method_15_code 0 tb_150 = true := (mv_chD_app _ 0 90 _ (by decide +kernel) ck_150_0 ck_150_1)
theorem ck_151 : mv_chD prog_7_method_16_code 0 tb_151 = true := by decide +kernel
theorem ck_152 : mv_chD prog_7_method_17_code 0 tb_152 = true := by decide +kernel
theorem ck_153_0 : mv_chD prog_7_method_18_code 0 tb_153_0 = true := by decide +kernel
theorem ck_153_1 : mv_chD prog_7_method_18_code 50 tb_153_1 = true := by decide +kernel
theorem ck_153 : mv_chD prog_7_method_18_code 0 tb_153 = true := (mv_chD_app _ 0 50 _ (by decide +kernel) ck_153_0 ck_153_1)
theorem ck_154 : mv_chD prog_7_method_19_code 0 tb_154 = true := by decide +kernel
theorem ck_155 : mv_chD prog_7_method_20_code 0 tb_155 = true := by decide +kernel
theorem ck_156 : mv_chD prog_7_method_21_code 0 tb_156 = true := by decide +kernel
theorem ck_157_0 : mv_chD prog_7_method_22_code 0 tb_157_0 = true := by decide +kernel
theorem ck_157_1 : mv_chD prog_7_method_22_code 56 tb_157_1 = true := by decide +kernel
theorem ck_157_2 : mv_chD prog_7_method_22_code 106 tb_157_2 = true := by decide +kernel
theorem ck_157_3 : mv_chD prog_7_method_22_code 160 tb_157_3 = true := by decide +kernel
theorem ck_157 : mv_chD prog_7_method_22_code 0 tb_157 = true := (mv_chD_app _ 0 56 _ (by decide +kernel) ck_157_0 (mv_chD_app _ 56 106 _ (by decide +kernel) ck_157_1 (mv_chD_app _ 106 160 _ (by decide +kernel) ck_157_2 ck_157_3)))
theorem ck_158_0 : mv_chD prog_7_method_23_code 0 tb_158_0 = true := by decide +kernel
theorem ck_158_1 : mv_chD prog_7_method_23_code 48 tb_158_1 = true := by decide +kernel
theorem ck_158_2 : mv_chD prog_7_method_23_code 102 tb_158_2 = true := by decide +kernel
theorem ck_158_3 : mv_chD prog_7_method_23_code 154 tb_158_3 = true := by decide +kernel
theorem ck_158_4 : mv_chD prog_7_method_23_code 208 tb_158_4 = true := by decide +kernel
theorem ck_158_5 : mv_chD prog_7_method_23_code 260 tb_158_5 = true := by decide +kernel
theorem ck_158 : mv_chD prog_7_method_23_code 0 tb_158 = true := (mv_chD_app _ 0 48 _ (by decide +kernel) ck_158_0 (mv_chD_app _ 48 102 _ (by decide +kernel) ck_158_1 (mv_chD_app _ 102 154 _ (by decide +kernel) ck_158_2 (mv_chD_app _ 154 208 _ (by decide +kernel) ck_158_3 (mv_chD_app _ 208 260 _ (by decide +kernel) ck_158_4 ck_158_5)))))
theorem ck_159 : mv_chD prog_7_method_24_code 0 tb_159 = true := by decide +kernel
theorem ck_160 : mv_chD prog_7_method_25_code 0 tb_160 = true := by decide +kernel
theorem ck_161_0 : mv_chD prog_7_method_26_code 0 tb_161_0 = true := by decide +kernel
theorem ck_161_1 : mv_chD prog_7_method_26_code 54 tb_161_1 = true := by decide +kernel
theorem ck_161_2 : mv_chD prog_7_method_26_code 106 tb_161_2 = true := by decide +kernel
theorem ck_161 : mv_chD prog_7_method_26_code 0 tb_161 = true := (mv_chD_app _ 0 54 _ (by decide +kernel) ck_161_0 (mv_chD_app _ 54 106 _ (by decide +kernel) ck_161_1 ck_161_2))
theorem ck_162_0 : mv_chD prog_7_method_27_code 0 tb_162_0 = true := by decide +kernel
theorem ck_162_1 : mv_chD prog_7_method_27_code 57 tb_162_1 = true := by decide +kernel
theorem ck_162 : mv_chD prog_7_method_27_code 0 tb_162 = true := (mv_chD_app _ 0 57 _ (by decide +kernel) ck_162_0 ck_162_1)
theorem ck_163 : mv_chD prog_7_method_28_code 0 tb_163 = true := by decide +kernel
theorem ck_164 : mv_chD prog_8_method_1_code 0 tb_164 = true := by decide +kernel
theorem ck_165 : mv_chD prog_8_method_2_code 0 tb_165 = true := by decide +kernel
theorem ck_166 : mv_chD prog_8_method_3_code 0 tb_166 = true := by decide +kernel
theorem ck_167_0 : mv_chD prog_8_method_4_code 0 tb_167_0 = true := by decide +kernel
theorem ck_167_1 : mv_chD prog_8_method_4_code 57 tb_167_1 = true := by decide +kernel
theorem ck_167 : mv_chD prog_8_method_4_code 0 tb_167 = true := (mv_chD_app _ 0 57 _ (by decide +kernel) ck_167_0 ck_167_1)
theorem ck_168 : mv_chD prog_8_method_5_code 0 tb_168 = true := by decide +kernel
theorem ck_169 : mv_chD prog_8_method_6_code 0 tb_169 = true := by decide +kernel
theorem ck_170_0 : mv_chD prog_8_method_7_code 0 tb_170_0 = true := by decide +kernel
theorem ck_170_1 : mv_chD prog_8_method_7_code 62 tb_170_1 = true := by decide +kernel
theorem ck_170 : mv_chD prog_8_method_7_code 0 tb_170 = true := (mv_chD_app _ 0 62 _ (by decide +kernel) ck_170_0 ck_170_1)
theorem ck_171_0 : mv_chD prog_8_method_8_code 0 tb_171_0 = true := by decide +kernel
theorem ck_171_1 : mv_chD prog_8_method_8_code 55 tb_171_1 = true := by decide +kernel
theorem ck_171_2 : mv_chD prog_8_method_8_code 107 tb_171_2 = true := by decide +kernel
theorem ck_171_3 : mv_chD prog_8_method_8_code 167 tb_171_3 = true := by decide +kernel
theorem ck_171 : mv_chD prog_8_method_8_code 0 tb_171 = true := (mv_chD_app _ 0 55 _ (by decide +kernel) ck_171_0 (mv_chD_app _ 55 107 _ (by decide +kernel) ck_171_1 (mv_chD_app _ 107 167 _ (by decide +kernel) ck_171_2 ck_171_3)))
theorem ck_172_0 : mv_chD prog_8_method_9_code 0 tb_172_0 = true := by decide +kernel
theorem ck_172_1 : mv_chD prog_8_method_9_code 58 tb_172_1 = true := by decide +kernel
theorem ck_172 : mv_chD prog_8_method_9_code 0 tb_172 = true := (mv_chD_app _ 0 58 _ (by decide +kernel) ck_172_0 ck_172_1)
theorem ck_173_0 : mv_chD prog_8_method_10_code 0 tb_173_0 = true := by decide +kernel
theorem ck_173_1 : mv_chD prog_8_method_10_code 60 tb_173_1 = true := by decide +kernel
theorem ck_173 : mv_chD prog_8_method_10_code 0 tb_173 = true := (mv_chD_app _ 0 60 _ (by decide +kernel) ck_173_0 ck_173_1)
theorem ck_174_0 : mv_chD prog_8_method_11_code 0 tb_174_0 = true := by decide +kernel
theorem ck_174_1 : mv_chD prog_8_method_11_code 64 tb_174_1 = true := by decide +kernel
theorem ck_174_2 : mv_chD prog_8_method_11_code 122 tb_174_2 = true := by decide +kernel
theorem ck_174_3 : mv_chD prog_8_method_11_code 180 tb_174_3 = true := by decide +kernel
theorem ck_174 : mv_chD prog_8_method_11_code 0 tb_174 = true := (mv_chD_app _ 0 64 _ (by decide +kernel) ck_174_0 (mv_chD_app _ 64 122 _ (by decide +kernel) ck_174_1 (mv_chD_app _ 122 180 _ (by decide +kernel) ck_174_2 ck_174_3)))
theorem ck_175_0 : mv_chD prog_8_method_12_code 0 tb_175_0 = true := by decide +kernel
theorem ck_175_1 : mv_chD prog_8_method_12_code 60 tb_175_1 = true := by decide +kernel
theorem ck_175 : mv_chD prog_8_method_12_code 0 tb_175 = true := (mv_chD_app _ 0 60 _ (by decide +kernel) ck_175_0 ck_175_1)
theorem ck_176_0 : mv_chD prog_9_method_1_code 0 tb_176_0 = true := by decide +kernel
theorem ck_176_1 : mv_chD prog_9_method_1_code 62 tb_176_1 = true := by decide +kernel
theorem ck_176 : mv_chD prog_9_method_1_code 0 tb_176 = true := (mv_chD_app _ 0 62 _ (by decide +kernel) ck_176_0 ck_176_1)
theorem ck_177 : mv_chD prog_9_method_2_code 0 tb_177 = true := by decide +kernel
theorem ck_178 : mv_chD prog_9_method_3_code 0 tb_178 = true := by decide +kernel
theorem ck_179_0 : mv_chD prog_9_method_4_code 0 tb_179_0 = true := by decide +kernel
theorem ck_179_1 : mv_chD prog_9_method_4_code 54 tb_179_1 = true := by decide +kernel
theorem ck_179_2 : mv_chD prog_9_method_4_code 112 tb_179_2 = true := by decide +kernel
theorem ck_179 : mv_chD prog_9_method_4_code 0 tb_179 = true := (mv_chD_app _ 0 54 _ (by decide +kernel) ck_179_0 (mv_chD_app _ 54 112 _ (by decide +kernel) ck_179_1 ck_179_2))
theorem ck_180 : mv_chD prog_9_method_5_code 0 tb_180 = true := by decide +kernel
theorem ck_181 : mv_chD prog_9_method_6_code 0 tb_181 = true := by decide +kernel
theorem ck_182_0 : mv_chD prog_9_method_7_code 0 tb_182_0 = true := by decide +kernel
theorem ck_182_1 : mv_chD prog_9_method_7_code 59 tb_182_1 = true := by decide +kernel
theorem ck_182 : mv_chD prog_9_method_7_code 0 tb_182 = true := (mv_chD_app _ 0 59 _ (by decide +kernel) ck_182_0 ck_182_1)
theorem ck_183_0 : mv_chD prog_9_method_8_code 0 tb_183_0 = true := by decide +kernel
theorem ck_183_1 : mv_chD prog_9_method_8_code 102 tb_183_1 = true := by decide +kernel
theorem ck_183_2 : mv_chD prog_9_method_8_code 150 tb_183_2 = true := by decide +kernel
theorem ck_183 : mv_chD prog_9_method_8_code 0 tb_183 = true := (mv_chD_app _ 0 102 _ (by decide +kernel) ck_183_0 (mv_chD_app _ 102 150 _ (by decide +kernel) ck_183_1 ck_183_2))
theorem ck_184 : mv_chD prog_9_method_9_code 0 tb_184 = true := by decide +kernel
theorem ck_185 : mv_chD prog_9_method_10_code 0 tb_185 = true := by decide +kernel
theorem ck_186_0 : mv_chD prog_9_method_11_code 0 tb_186_0 = true := by decide +kernel
theorem ck_186_1 : mv_chD prog_9_method_11_code 52 tb_186_1 = true := by decide +kernel
theorem ck_186_2 : mv_chD prog_9_method_11_code 102 tb_186_2 = true := by decide +kernel
theorem ck_186 : mv_chD prog_9_method_11_code 0 tb_186 = true := (mv_chD_app _ 0 52 _ (by decide +kernel) ck_186_0 (mv_chD_app _ 52 102 _ (by decide +kernel) ck_186_1 ck_186_2))
theorem ck_187_0 : mv_chD prog_9_method_12_code 0 tb_187_0 = true := by decide +kernel
theorem ck_187_1 : mv_chD prog_9_method_12_code 58 tb_187_1 = true := by decide +kernel
theorem ck_187 : mv_chD prog_9_method_12_code 0 tb_187 = true := (mv_chD_app _ 0 58 _ (by decide +kernel) ck_187_0 ck_187_1)
theorem ck_188_0 : mv_chD prog_9_method_13_code 0 tb_188_0 = true := by decide +kernel
theorem ck_188_1 : mv_chD prog_9_method_13_code 56 tb_188_1 = true := by decide +kernel
theorem ck_188 : mv_chD prog_9_method_13_code 0 tb_188 = true := (mv_chD_app _ 0 56 _ (by decide +kernel) ck_188_0 ck_188_1)
theorem ck_189 : mv_chD prog_9_method_14_code 0 tb_189 = true := by decide +kernel
theorem ck_190_0 : mv_chD prog_9_method_15_code 0 tb_190_0 = true := by decide +kernel
theorem ck_190_1 : mv_chD prog_9_method_15_code 55 tb_190_1 = true := by decide +kernel
theorem ck_190_2 : mv_chD prog_9_method_15_code 110 tb_190_2 = true := by decide +kernel
theorem ck_190_3 : mv_chD prog_9_method_15_code 169 tb_190_3 = true := by decide +kernel
theorem ck_190 : mv_chD prog_9_method_15_code 0 tb_190 = true := (mv_chD_app _ 0 55 _ (by decide +kernel) ck_190_0 (mv_chD_app _ 55 110 _ (by decide +kernel) ck_190_1 (mv_chD_app _ 110 169 _ (by decide +kernel) ck_190_2 ck_190_3)))
theorem ck_191_0 : mv_chD prog_9_method_16_code 0 tb_191_0 = true := by decide +kernel
theorem ck_191_1 : mv_chD prog_9_method_16_code 57 tb_191_1 = true := by decide +kernel
theorem ck_191 : mv_chD prog_9_method_16_code 0 tb_191 = true := (mv_chD_app _ 0 57 _ (by decide +kernel) ck_191_0 ck_191_1)
theorem ck_192 : mv_chD prog_9_method_17_code 0 tb_192 = true := by decide +kernel
theorem ck_193_0 : mv_chD prog_9_method_18_code 0 tb_193_0 = true := by decide +kernel
theorem ck_193_1 : mv_chD prog_9_method_18_code 56 tb_193_1 = true := by decide +kernel
theorem ck_193_2 : mv_chD prog_9_method_18_code 110 tb_193_2 = true := by decide +kernel
theorem ck_193 : mv_chD prog_9_method_18_code 0 tb_193 = true := (mv_chD_app _ 0 56 _ (by decide +kernel) ck_193_0 (mv_chD_app _ 56 110 _ (by decide +kernel) ck_193_1 ck_193_2))
theorem ck_194_0 : mv_chD prog_9_method_19_code 0 tb_194_0 = true := by decide +kernel
theorem ck_194_1 : mv_chD prog_9_method_19_code 54 tb_194_1 = true := by decide +kernel
theorem ck_194 : mv_chD prog_9_method_19_code 0 tb_194 = true := (mv_chD_app _ 0 54 _ (by decide +kernel) ck_194_0 ck_194_1)
theorem ck_195 : mv_chD prog_9_method_20_code 0 tb_195 = true := by decide +kernel
theorem ck_196 : mv_chD prog_9_method_21_code 0 tb_196 = true := by decide +kernel
theorem ck_197 : mv_chD prog_9_method_22_code 0 tb_197 = true := by decide +kernel
theorem ck_198 : mv_chD prog_9_method_23_code 0 tb_198 = true := by decide +kernel
theorem ck_199 : mv_chD prog_9_method_24_code 0 tb_199 = true := by decide +kernel
theorem ck_200_0 : mv_chD prog_9_method_25_code 0 tb_200_0 = true := by decide +kernel
theorem ck_200_1 : mv_chD prog_9_method_25_code 49 tb_200_1 = true := by decide +kernel
theorem ck_200 : mv_chD prog_9_method_25_code 0 tb_200 = true := (mv_chD_app _ 0 49 _ (by decide +kernel) ck_200_0 ck_200_1)
theorem ck_201 : mv_chD prog_9_method_26_code 0 tb_201 = true := by decide +kernel
theorem ck_202 : mv_chD prog_9_method_27_code 0 tb_202 = true := by decide +kernel
theorem ck_203_0 : mv_chD prog_9_method_28_code 0 tb_203_0 = true := by decide +kernel
theorem ck_203_1 : mv_chD prog_9_method_28_code 57 tb_203_1 = true := by decide +kernel
theorem ck_203 : mv_chD prog_9_method_28_code 0 tb_203 = true := (mv_chD_app _ 0 57 _ (by decide +kernel) ck_203_0 ck_203_1)
theorem ck_204_0 : mv_chD prog_9_method_29_code 0 tb_204_0 = true := by decide +kernel
theorem ck_204_1 : mv_chD prog_9_method_29_code 96 tb_204_1 = true := by decide +kernel
theorem ck_204 : mv_chD prog_9_method_29_code 0 tb_204 = true := (mv_chD_app _ 0 96 _ (by decide +kernel) ck_204_0 ck_204_1)
theorem ck_205 : mv_chD prog_9_method_30_code 0 tb_205 = true := by decide +kernel
theorem ck_206_0 : mv_chD prog_9_method_31_code 0 tb_206_0 = true := by decide +kernel
theorem ck_206_1 : mv_chD prog_9_method_31_code 59 tb_206_1 = true := by decide +kernel
theorem ck_206_2 : mv_chD prog_9_method_31_code 118 tb_206_2 = true := by decide +kernel
theorem ck_206 : mv_chD prog_9_method_31_code 0 tb_206 = true := (mv_chD_app _ 0 59 _ (by decide +kernel) ck_206_0 (mv_chD_app _ 59 118 _ (by decide +kernel) ck_206_1 ck_206_2))
theorem ck_207_0 : mv_chD prog_9_method_32_code 0 tb_207_0 = true := by decide +kernel
theorem ck_207_1 : mv_chD prog_9_method_32_code 54 tb_207_1 = true := by decide +kernel
theorem ck_207_2 : mv_chD prog_9_method_32_code 108 tb_207_2 = true := by decide +kernel
theorem ck_207 : mv_chD prog_9_method_32_code 0 tb_207 = true := (mv_chD_app _ 0 54 _ (by decide +kernel) ck_207_0 (mv_chD_app _ 54 108 _ (by decide +kernel) ck_207_1 ck_207_2))
theorem ck_208_0 : mv_chD prog_10_method_1_code 0 tb_208_0 = true := by decide +kernel
theorem ck_208_1 : mv_chD prog_10_method_1_code 67 tb_208_1 = true := by decide +kernel
theorem ck_208_2 : mv_chD prog_10_method_1_code 124 tb_208_2 = true := by decide +kernel
theorem ck_208_3 : mv_chD prog_10_method_1_code 184 tb_208_3 = true := by decide +kernel
theorem ck_208_4 : mv_chD prog_10_method_1_code 243 tb_208_4 = true := by decide +kernel
theorem ck_208_5 : mv_chD prog_10_method_1_code 300 tb_208_5 = true := by decide +kernel
theorem ck_208 : mv_chD prog_10_method_1_code 0 tb_208 = true := (mv_chD_app _ 0 67 _ (by decide +kernel) ck_208_0 (mv_chD_app _ 67 124 _ (by decide +kernel) ck_208_1 (mv_chD_app _ 124 184 _ (by decide +kernel) ck_208_2 (mv_chD_app _ 184 243 _ (by decide +kernel) ck_208_3 (mv_chD_app _ 243 300 _ (by decide +kernel) ck_208_4 ck_208_5)))))
theorem ck_209 : mv_chD prog_10_method_2_code 0 tb_209 = true := by decide +kernel
theorem ck_210_0 : mv_chD prog_10_method_3_code 0 tb_210_0 = true := by decide +kernel
theorem ck_210_1 : mv_chD prog_10_method_3_code 54 tb_210_1 = true := by decide +kernel
theorem ck_210 : mv_chD prog_10_method_3_code 0 tb_210 = true := (mv_chD_app _ 0 54 _ (by decide +kernel) ck_210_0 ck_210_1)
theorem ck_211_0 : mv_chD prog_10_method_4_code 0 tb_211_0 = true := by decide +kernel
theorem ck_211_1 : mv_chD prog_10_method_4_code 59 tb_211_1 = true := by decide +kernel
theorem ck_211 : mv_chD prog_10_method_4_code 0 tb_211 = true := (mv_chD_app _ 0 59 _ (by decide +kernel) ck_211_0 ck_211_1)
theorem ck_212_0 : mv_chD prog_10_method_5_code 0 tb_212_0 = true := by decide +kernel
theorem ck_212_1 : mv_chD prog_10_method_5_code 52 tb_212_1 = true := by decide +kernel
theorem ck_212_2 : mv_chD prog_10_method_5_code 107 tb_212_2 = true := by decide +kernel
theorem ck_212_3 : mv_chD prog_10_method_5_code 153 tb_212_3 = true := by decide +kernel
theorem ck_212 : mv_chD prog_10_method_5_code 0 tb_212 = true := (mv_chD_app _ 0 52 _ (by decide +kernel) ck_212_0 (mv_chD_app _ 52 107 _ (by decide +kernel) ck_212_1 (mv_chD_app _ 107 153 _ (by decide +kernel) ck_212_2 ck_212_3)))
theorem ck_213_0 : mv_chD prog_10_method_6_code 0 tb_213_0 = true := by decide +kernel
theorem ck_213_1 : mv_chD prog_10_method_6_code 48 tb_213_1 = true := by decide +kernel
theorem ck_213_2 : mv_chD prog_10_method_6_code 106 tb_213_2 = true := by decide +kernel
theorem ck_213_3 : mv_chD prog_10_method_6_code 162 tb_213_3 = true := by decide +kernel
theorem ck_213_4 : mv_chD prog_10_method_6_code 214 tb_213_4 = true := by decide +kernel
theorem ck_213 : mv_chD prog_10_method_6_code 0 tb_213 = true := (mv_chD_app _ 0 48 _ (by decide +kernel) ck_213_0 (mv_chD_app _ 48 106 _ (by decide +kernel) ck_213_1 (mv_chD_app _ 106 162 _ (by decide +kernel) ck_213_2 (mv_chD_app _ 162 214 _ (by decide +kernel) ck_213_3 ck_213_4))))
theorem ck_214_0 : mv_chD prog_10_method_7_code 0 tb_214_0 = true := by decide +kernel
theorem ck_214_1 : mv_chD prog_10_method_7_code 49 tb_214_1 = true := by decide +kernel
theorem ck_214 : mv_chD prog_10_method_7_code 0 tb_214 = true := (mv_chD_app _ 0 49 _ (by decide +kernel) ck_214_0 ck_214_1)
theorem ck_215 : mv_chD prog_10_method_8_code 0 tb_215 = true := by decide +kernel
theorem ck_216 : mv_chD prog_10_method_9_code 0 tb_216 = true := by decide +kernel
theorem ck_217 : mv_chD prog_10_method_10_code 0 tb_217 = true := by decide +kernel
theorem ck_218 : mv_chD prog_10_method_11_code 0 tb_218 = true := by decide +kernel
theorem ck_219 : mv_chD prog_10_method_12_code 0 tb_219 = true := by decide +kernel
theorem ck_220 : mv_chD prog_10_method_13_code 0 tb_220 = true := by decide +kernel
theorem ck_221_0 : mv_chD prog_10_method_14_code 0 tb_221_0 = true := by decide +kernel
theorem ck_221_1 : mv_chD prog_10_method_14_code 52 tb_221_1 = true := by decide +kernel
theorem ck_221 : mv_chD prog_10_method_14_code 0 tb_221 = true := (mv_chD_app _ 0 52 _ (by decide +kernel) ck_221_0 ck_221_1)
theorem ck_222_0 : mv_chD prog_10_method_15_code 0 tb_222_0 = true := by decide +kernel
theorem ck_222_1 : mv_chD prog_10_method_15_code 54 tb_222_1 = true := by decide +kernel
theorem ck_222 : mv_chD prog_10_method_15_code 0 tb_222 = true := (mv_chD_app _ 0 54 _ (by decide +kernel) ck_222_0 ck_222_1)
theorem ck_223 : mv_chD prog_10_method_16_code 0 tb_223 = true := by decide +kernel
theorem ck_224 : mv_chD prog_10_method_17_code 0 tb_224 = true := by decide +kernel
theorem ck_225 : mv_chD prog_10_method_18_code 0 tb_225 = true := by decide +kernel
theorem ck_226 : mv_chD prog_10_method_19_code 0 tb_226 = true := by decide +kernel
theorem ck_227_0 : mv_chD prog_10_method_20_code 0 tb_227_0 = true := by decide +kernel
theorem ck_227_1 : mv_chD prog_10_method_20_code 54 tb_227_1 = true := by decide +kernel
theorem ck_227 : mv_chD prog_10_method_20_code 0 tb_227 = true := (mv_chD_app _ 0 54 _ (by decide +kernel) ck_227_0 ck_227_1)
theorem ck_228_0 : mv_chD prog_11_method_1_code 0 tb_228_0 = true := by decide +kernel
theorem ck_228_1 : mv_chD prog_11_method_1_code 59 tb_228_1 = true := by decide +kernel
theorem ck_228 : mv_chD prog_11_method_1_code 0 tb_228 = true := (mv_chD_app _ 0 59 _ (by decide +kernel) ck_228_0 ck_228_1)
theorem ck_229 : mv_chD prog_11_method_2_code 0 tb_229 = true := by decide +kernel
theorem ck_230 : mv_chD prog_11_method_3_code 0 tb_230 = true := by decide +kernel
theorem ck_231 : mv_chD prog_11_method_4_code 0 tb_231 = true := by decide +kernel
theorem ck_232 : mv_chD prog_11_method_5_code 0 tb_232 = true := by decide +kernel
theorem ck_233 : mv_chD prog_11_method_6_code 0 tb_233 = true := by decide +kernel
theorem ck_234 : mv_chD prog_11_method_7_code 0 tb_234 = true := by decide +kernel
theorem ck_235 : mv_chD prog_11_method_8_code 0 tb_235 = true := by decide +kernel
theorem ck_236 : mv_chD prog_11_method_9_code 0 tb_236 = true := by decide +kernel
theorem ck_237_0 : mv_chD prog_11_method_10_code 0 tb_237_0 = true := by decide +kernel
theorem ck_237_1 : mv_chD prog_11_method_10_code 57 tb_237_1 = true := by decide +kernel
theorem ck_237_2 : mv_chD prog_11_method_10_code 114 tb_237_2 = true := by decide +kernel
theorem ck_237 : mv_chD prog_11_method_10_code 0 tb_237 = true := (mv_chD_app _ 0 57 _ (by decide +kernel) ck_237_0 (mv_chD_app _ 57 114 _ (by decide +kernel) ck_237_1 ck_237_2))
theorem ck_238_0 : mv_chD prog_11_method_11_code 0 tb_238_0 = true := by decide +kernel
theorem ck_238_1 : mv_chD prog_11_method_11_code 46 tb_238_1 = true := by decide +kernel
theorem ck_238 : mv_chD prog_11_method_11_code 0 tb_238 = true := (mv_chD_app _ 0 46 _ (by decide +kernel) ck_238_0 ck_238_1)
theorem ck_239 : mv_chD prog_11_method_12_code 0 tb_239 = true := by decide +kernel
theorem ck_240_0 : mv_chD prog_11_method_13_code 0 tb_240_0 = true := by decide +kernel
theorem ck_240_1 : mv_chD prog_11_method_13_code 48 tb_240_1 = true := by decide +kernel
theorem ck_240 : mv_chD prog_11_method_13_code 0 tb_240 = true := (mv_chD_app _ 0 48 _ (by decide +kernel) ck_240_0 ck_240_1)
theorem ck_241 : mv_chD prog_11_method_14_code 0 tb_241 = true := by decide +kernel
theorem ck_242_0 : mv_chD prog_11_method_15_code 0 tb_242_0 = true := by decide +kernel
theorem ck_242_1 : mv_chD prog_11_method_15_code 53 tb_242_1 = true := by decide +kernel
theorem ck_242 : mv_chD prog_11_method_15_code 0 tb_242 = true := (mv_chD_app _ 0 53 _ (by decide +kernel) ck_242_0 ck_242_1)
theorem ck_243_0 : mv_chD prog_11_method_16_code 0 tb_243_0 = true := by decide +kernel
theorem ck_243_1 : mv_chD prog_11_method_16_code 55 tb_243_1 = true := by decide +kernel
theorem ck_243_2 : mv_chD prog_11_method_16_code 104 tb_243_2 = true := by decide +kernel
theorem ck_243_3 : mv_chD prog_11_method_16_code 161 tb_243_3 = true := by decide +kernel
theorem ck_243_4 : mv_chD prog_11_method_16_code 217 tb_243_4 = true := by decide +kernel
theorem ck_243 : mv_chD prog_11_method_16_code 0 tb_243 = true := (mv_chD_app _ 0 55 _ (by decide +kernel) ck_243_0 (mv_chD_app _ 55 104 _ (by decide +kernel) ck_243_1 (mv_chD_app _ 104 161 _ (by decide +kernel) ck_243_2 (mv_chD_app _ 161 217 _ (by decide +kernel) ck_243_3 ck_243_4))))
theorem ck_244 : mv_chD prog_11_method_17_code 0 tb_244 = true := by decide +kernel
theorem ck_245 : mv_chD prog_11_method_18_code 0 tb_245 = true := by decide +kernel
theorem ck_246 : mv_chD prog_11_method_19_code 0 tb_246 = true := by decide +kernel
theorem ck_247 : mv_chD prog_11_method_20_code 0 tb_247 = true := by decide +kernel
theorem ck_248_0 : mv_chD prog_11_method_21_code 0 tb_248_0 = true := by decide +kernel
theorem ck_248_1 : mv_chD prog_11_method_21_code 52 tb_248_1 = true := by decide +kernel
theorem ck_248 : mv_chD prog_11_method_21_code 0 tb_248 = true := (mv_chD_app _ 0 52 _ (by decide +kernel) ck_248_0 ck_248_1)
theorem ck_249 : mv_chD prog_12_method_1_code 0 tb_249 = true := by decide +kernel
theorem ck_250_0 : mv_chD prog_12_method_2_code 0 tb_250_0 = true := by decide +kernel
theorem ck_250_1 : mv_chD prog_12_method_2_code 124 tb_250_1 = true := by decide +kernel
theorem ck_250_2 : mv_chD prog_12_method_2_code 170 tb_250_2 = true := by decide +kernel
theorem ck_250_3 : mv_chD prog_12_method_2_code 222 tb_250_3 = true := by decide +kernel
theorem ck_250 : mv_chD prog_12_method_2_code 0 tb_250 = true := (mv_chD_app _ 0 124 _ (by decide +kernel) ck_250_0 (mv_chD_app _ 124 170 _ (by decide +kernel) ck_250_1 (mv_chD_app _ 170 222 _ (by decide +kernel) ck_250_2 ck_250_3)))
theorem ck_251_0 : mv_chD prog_12_method_3_code 0 tb_251_0 = true := by decide +kernel
theorem ck_251_1 : mv_chD prog_12_method_3_code 66 tb_251_1 = true := by decide +kernel
theorem ck_251 : mv_chD prog_12_method_3_code 0 tb_251 = true := (mv_chD_app _ 0 66 _ (by decide +kernel) ck_251_0 ck_251_1)
theorem ck_252 : mv_chD prog_12_method_4_code 0 tb_252 = true := by decide +kernel
theorem ck_253_0 : mv_chD prog_12_method_5_code 0 tb_253_0 = true := by decide +kernel
theorem ck_253_1 : mv_chD prog_12_method_5_code 67 tb_253_1 = true := by decide +kernel
theorem ck_253_2 : mv_chD prog_12_method_5_code 130 tb_253_2 = true := by decide +kernel
theorem ck_253 : mv_chD prog_12_method_5_code 0 tb_253 = true := (mv_chD_app _ 0 67 _ (by decide +kernel) ck_253_0 (mv_chD_app _ 67 130 _ (by decide +kernel) ck_253_1 ck_253_2))
theorem ck_254_0 : mv_chD prog_12_method_6_code 0 tb_254_0 = true := by decide +kernel
theorem ck_254_1 : mv_chD prog_12_method_6_code 62 tb_254_1 = true := by decide +kernel
theorem ck_254_2 : mv_chD prog_12_method_6_code 113 tb_254_2 = true := by decide +kernel
theorem ck_254_3 : mv_chD prog_12_method_6_code 171 tb_254_3 = true := by decide +kernel
theorem ck_254 : mv_chD prog_12_method_6_code 0 tb_254 = true := (mv_chD_app _ 0 62 _ (by decide +kernel) ck_254_0 (mv_chD_app _ 62 113 _ (by decide +kernel) ck_254_1 (mv_chD_app _ 113 171 _ (by decide +kernel) ck_254_2 ck_254_3)))
theorem ck_255_0 : mv_chD prog_12_method_7_code 0 tb_255_0 = true := by decide +kernel
theorem ck_255_1 : mv_chD prog_12_method_7_code 95 tb_255_1 = true := by decide +kernel
theorem ck_255 : mv_chD prog_12_method_7_code 0 tb_255 = true := (mv_chD_app _ 0 95 _ (by decide +kernel) ck_255_0 ck_255_1)
theorem ck_256_0 : mv_chD prog_12_method_8_code 0 tb_256_0 = true := by decide +kernel
theorem ck_256_1 : mv_chD prog_12_method_8_code 110 tb_256_1 = true := by decide +kernel
theorem ck_256_2 : mv_chD prog_12_method_8_code 166 tb_256_2 = true := by decide +kernel
theorem ck_256_3 : mv_chD prog_12_method_8_code 218 tb_256_3 = true := by decide +kernel
theorem ck_256 : mv_chD prog_12_method_8_code 0 tb_256 = true := (mv_chD_app _ 0 110 _ (by decide +kernel) ck_256_0 (mv_chD_app _ 110 166 _ (by decide +kernel) ck_256_1 (mv_chD_app _ 166 218 _ (by decide +kernel) ck_256_2 ck_256_3)))
theorem ck_257 : mv_chD prog_12_method_9_code 0 tb_257 = true := by decide +kernel
theorem ck_258 : mv_chD prog_12_method_10_code 0 tb_258 = true := by decide +kernel
theorem ck_259_0 : mv_chD prog_12_method_11_code 0 tb_259_0 = true := by decide +kernel
theorem ck_259_1 : mv_chD prog_12_method_11_code 95 tb_259_1 = true := by decide +kernel
theorem ck_259_2 : mv_chD prog_12_method_11_code 154 tb_259_2 = true := by decide +kernel
theorem ck_259 : mv_chD prog_12_method_11_code 0 tb_259 = true := (mv_chD_app _ 0 95 _ (by decide +kernel) ck_259_0 (mv_chD_app _ 95 154 _ (by decide +kernel) ck_259_1 ck_259_2))
theorem ck_260_0 : mv_chD prog_12_method_12_code 0 tb_260_0 = true := by decide +kernel
theorem ck_260_1 : mv_chD prog_12_method_12_code 57 tb_260_1 = true := by decide +kernel
theorem ck_260 : mv_chD prog_12_method_12_code 0 tb_260 = true := (mv_chD_app _ 0 57 _ (by decide +kernel) ck_260_0 ck_260_1)
theorem ck_261_0 : mv_chD prog_12_method_13_code 0 tb_261_0 = true := by decide +kernel
theorem ck_261_1 : mv_chD prog_12_method_13_code 96 tb_261_1 = true := by decide +kernel
theorem ck_261_2 : mv_chD prog_12_method_13_code 156 tb_261_2 = true := by decide +kernel
theorem ck_261_3 : mv_chD prog_12_method_13_code 219 tb_261_3 = true := by decide +kernel
theorem ck_261 : mv_chD prog_12_method_13_code 0 tb_261 = true := (mv_chD_app _ 0 96 _ (by decide +kernel) ck_261_0 (mv_chD_app _ 96 156 _ (by decide +kernel) ck_261_1 (mv_chD_app _ 156 219 _ (by decide +kernel) ck_261_2 ck_261_3)))
theorem ck_262_0 : mv_chD prog_12_method_14_code 0 tb_262_0 = true := by decide +kernel
theorem ck_262_1 : mv_chD prog_12_method_14_code 58 tb_262_1 = true := by decide +kernel
theorem ck_262 : mv_chD prog_12_method_14_code 0 tb_262 = true := (mv_chD_app _ 0 58 _ (by decide +kernel) ck_262_0 ck_262_1)
theorem ck_263_0 : mv_chD prog_12_method_15_code 0 tb_263_0 = true := by decide +kernel
theorem ck_263_1 : mv_chD prog_12_method_15_code 61 tb_263_1 = true := by decide +kernel
theorem ck_263 : mv_chD prog_12_method_15_code 0 tb_263 = true := (mv_chD_app _ 0 61 _ (by decide +kernel) ck_263_0 ck_263_1)
theorem ck_264_0 : mv_chD prog_12_method_16_code 0 tb_264_0 = true := by decide +kernel
theorem ck_264_1 : mv_chD prog_12_method_16_code 59 tb_264_1 = true := by decide +kernel
theorem ck_264 : mv_chD prog_12_method_16_code 0 tb_264 = true := (mv_chD_app _ 0 59 _ (by decide +kernel) ck_264_0 ck_264_1)
theorem ck_265 : mv_chD prog_12_method_17_code 0 tb_265 = true := by decide +kernel
theorem ck_266_0 : mv_chD prog_1_method_1_code 0 tb_266_0 = true := by decide +kernel
theorem ck_266_1 : mv_chD prog_1_method_1_code 62 tb_266_1 = true := by decide +kernel
theorem ck_266_2 : mv_chD prog_1_method_1_code 123 tb_266_2 = true := by decide +kernel
theorem ck_266_3 : mv_chD prog_1_method_1_code 187 tb_266_3 = true := by decide +kernel
theorem ck_266_4 : mv_chD prog_1_method_1_code 249 tb_266_4 = true := by decide +kernel
theorem ck_266_5 : mv_chD prog_1_method_1_code 313 tb_266_5 = true := by decide +kernel
theorem ck_266 : mv_chD prog_1_method_1_code 0 tb_266 = true := (mv_chD_app _ 0 62 _ (by decide +kernel) ck_266_0 (mv_chD_app _ 62 123 _ (by decide +kernel) ck_266_1 (mv_chD_app _ 123 187 _ (by decide +kernel) ck_266_2 (mv_chD_app _ 187 249 _ (by decide +kernel) ck_266_3 (mv_chD_app _ 249 313 _ (by decide +kernel) ck_266_4 ck_266_5)))))
theorem ck_267 : mv_chD prog_1_method_2_code 0 tb_267 = true := by decide +kernel
theorem ck_268 : mv_chD prog_1_method_3_code 0 tb_268 = true := by decide +kernel
theorem ck_269_0 : mv_chD prog_1_method_4_code 0 tb_269_0 = true := by decide +kernel
theorem ck_269_1 : mv_chD prog_1_method_4_code 62 tb_269_1 = true := by decide +kernel
theorem ck_269 : mv_chD prog_1_method_4_code 0 tb_269 = true := (mv_chD_app _ 0 62 _ (by decide +kernel) ck_269_0 ck_269_1)
theorem ck_270_0 : mv_chD prog_1_method_5_code 0 tb_270_0 = true := by decide +kernel
theorem ck_270_1 : mv_chD prog_1_method_5_code 52 tb_270_1 = true := by decide +kernel
theorem ck_270_2 : mv_chD prog_1_method_5_code 108 tb_270_2 = true := by decide +kernel
theorem ck_270_3 : mv_chD prog_1_method_5_code 164 tb_270_3 = true := by decide +kernel
theorem ck_270 : mv_chD prog_1_method_5_code 0 tb_270 = true := (mv_chD_app _ 0 52 _ (by decide +kernel) ck_270_0 (mv_chD_app _ 52 108 _ (by decide +kernel) ck_270_1 (mv_chD_app _ 108 164 _ (by decide +kernel) ck_270_2 ck_270_3)))
theorem ck_271 : mv_chD prog_1_method_6_code 0 tb_271 = true := by decide +kernel
theorem ck_272 : mv_chD prog_1_method_7_code 0 tb_272 = true := by decide +kernel
theorem ck_273 : mv_chD prog_1_method_8_code 0 tb_273 = true := by decide +kernel
theorem ck_274_0 : mv_chD prog_1_method_9_code 0 tb_274_0 = true := by decide +kernel
theorem ck_274_1 : mv_chD prog_1_method_9_code 84 tb_274_1 = true := by decide +kernel
theorem ck_274 : mv_chD prog_1_method_9_code 0 tb_274 = true := (mv_chD_app _ 0 84 _ (by decide +kernel) ck_274_0 ck_274_1)
theorem ck_275 : mv_chD prog_1_method_10_code 0 tb_275 = true := by decide +kernel
theorem ck_276_0 : mv_chD prog_1_method_11_code 0 tb_276_0 = true := by decide +kernel
theorem ck_276_1 : mv_chD prog_1_method_11_code 118 tb_276_1 = true := by decide +kernel
theorem ck_276 : mv_chD prog_1_method_11_code 0 tb_276 = true := (mv_chD_app _ 0 118 _ (by decide +kernel) ck_276_0 ck_276_1)
theorem ck_277_0 : mv_chD prog_1_method_12_code 0 tb_277_0 = true := by decide +kernel
theorem ck_277_1 : mv_chD prog_1_method_12_code 60 tb_277_1 = true := by decide +kernel
theorem ck_277_2 : mv_chD prog_1_method_12_code 128 tb_277_2 = true := by decide +kernel
theorem ck_277 : mv_chD prog_1_method_12_code 0 tb_277 = true := (mv_chD_app _ 0 60 _ (by decide +kernel) ck_277_0 (mv_chD_app _ 60 128 _ (by decide +kernel) ck_277_1 ck_277_2))
theorem ck_278_0 : mv_chD prog_1_method_13_code 0 tb_278_0 = true := by decide +kernel
theorem ck_278_1 : mv_chD prog_1_method_13_code 60 tb_278_1 = true := by decide +kernel
theorem ck_278 : mv_chD prog_1_method_13_code 0 tb_278 = true := (mv_chD_app _ 0 60 _ (by decide +kernel) ck_278_0 ck_278_1)
theorem ck_279_0 : mv_chD prog_1_method_14_code 0 tb_279_0 = true := by decide +kernel
theorem ck_279_1 : mv_chD prog_1_method_14_code 74 tb_279_1 = true := by decide +kernel
theorem ck_279 : mv_chD prog_1_method_14_code 0 tb_279 = true := (mv_chD_app _ 0 74 _ (by decide +kernel) ck_279_0 ck_279_1)
theorem ck_280_0 : mv_chD prog_1_method_15_code 0 tb_280_0 = true := by decide +kernel
theorem ck_280_1 : mv_chD prog_1_method_15_code 66 tb_280_1 = true := by decide +kernel
theorem ck_280 : mv_chD prog_1_method_15_code 0 tb_280 = true := (mv_chD_app _ 0 66 _ (by decide +kernel) ck_280_0 ck_280_1)
theorem ck_281_0 : mv_chD prog_1_method_16_code 0 tb_281_0 = true := by decide +kernel
theorem ck_281_1 : mv_chD prog_1_method_16_code 60 tb_281_1 = true := by decide +kernel
theorem ck_281 : mv_chD prog_1_method_16_code 0 tb_281 = true := (mv_chD_app _ 0 60 _ (by decide +kernel) ck_281_0 ck_281_1)
theorem ck_282 : mv_chD prog_1_method_17_code 0 tb_282 = true := by decide +kernel
theorem ck_283 : mv_chD prog_1_method_18_code 0 tb_283 = true := by decide +kernel
theorem ck_284 : mv_chD prog_1_method_19_code 0 tb_284 = true := by decide +kernel
theorem ck_285 : mv_chD prog_1_method_20_code 0 tb_285 = true := by decide +kernel
theorem ck_286 : mv_chD prog_1_method_21_code 0 tb_286 = true := by decide +kernel
theorem ck_287 : mv_chD prog_1_method_22_code 0 tb_287 = true := by decide +kernel
theorem ck_288 : mv_chD prog_1_method_23_code 0 tb_288 = true := by decide +kernel
theorem ck_289 : mv_chD prog_1_method_24_code 0 tb_289 = true := by decide +kernel
theorem ck_290 : mv_chD prog_1_method_25_code 0 tb_290 = true := by decide +kernel
theorem ck_291_0 : mv_chD prog_1_method_26_code 0 tb_291_0 = true := by decide +kernel
theorem ck_291_1 : mv_chD prog_1_method_26_code 46 tb_291_1 = true := by decide +kernel
theorem ck_291 : mv_chD prog_1_method_26_code 0 tb_291 = true := (mv_chD_app _ 0 46 _ (by decide +kernel) ck_291_0 ck_291_1)
theorem ck_292_0 : mv_chD prog_1_method_27_code 0 tb_292_0 = true := by decide +kernel
theorem ck_292_1 : mv_chD prog_1_method_27_code 48 tb_292_1 = true := by decide +kernel
theorem ck_292 : mv_chD prog_1_method_27_code 0 tb_292 = true := (mv_chD_app _ 0 48 _ (by decide +kernel) ck_292_0 ck_292_1)
theorem ck_293_0 : mv_chD prog_14_method_1_code 0 tb_293_0 = true := by decide +kernel
theorem ck_293_1 : mv_chD prog_14_method_1_code 67 tb_293_1 = true := by decide +kernel
theorem ck_293_2 : mv_chD prog_14_method_1_code 134 tb_293_2 = true := by decide +kernel
theorem ck_293_3 : mv_chD prog_14_method_1_code 195 tb_293_3 = true := by decide +kernel
theorem ck_293_4 : mv_chD prog_14_method_1_code 261 tb_293_4 = true := by decide +kernel
theorem ck_293_5 : mv_chD prog_14_method_1_code 327 tb_293_5 = true := by decide +kernel
theorem ck_293_6 : mv_chD prog_14_method_1_code 389 tb_293_6 = true := by decide +kernel
theorem ck_293_7 : mv_chD prog_14_method_1_code 451 tb_293_7 = true := by decide +kernel
theorem ck_293_8 : mv_chD prog_14_method_1_code 511 tb_293_8 = true := by decide +kernel
theorem ck_293_9 : mv_chD prog_14_method_1_code 572 tb_293_9 = true := by decide +kernel
theorem ck_293_10 : mv_chD prog_14_method_1_code 633 tb_293_10 = true := by decide +kernel
theorem ck_293_11 : mv_chD prog_14_method_1_code 697 tb_293_11 = true := by decide +kernel
theorem ck_293_12 : mv_chD prog_14_method_1_code 763 tb_293_12 = true := by decide +kernel
theorem ck_293_13 : mv_chD prog_14_method_1_code 829 tb_293_13 = true := by decide +kernel
theorem ck_293_14 : mv_chD prog_14_method_1_code 895 tb_293_14 = true := by decide +kernel
theorem ck_293_15 : mv_chD prog_14_method_1_code 961 tb_293_15 = true := by decide +kernel
theorem ck_293_16 : mv_chD prog_14_method_1_code 1027 tb_293_16 = true := by decide +kernel
theorem ck_293_17 : mv_chD prog_14_method_1_code 1087 tb_293_17 = true := by decide +kernel
theorem ck_293_18 : mv_chD prog_14_method_1_code 1137 tb_293_18 = true := by decide +kernel
theorem ck_293_19 : mv_chD prog_14_method_1_code 1184 tb_293_19 = true := by decide +kernel
theorem ck_293 : mv_chD prog_14_method_1_code 0 tb_293 = true := (mv_chD_app _ 0 67 _ (by decide +kernel) ck_293_0 (mv_chD_app _ 67 134 _ (by decide +kernel) ck_293_1 (mv_chD_app _ 134 195 _ (by decide +kernel) ck_293_2 (mv_chD_app _ 195 261 _ (by decide +kernel) ck_293_3 (mv_chD_app _ 261 327 _ (by decide +kernel) ck_293_4 (mv_chD_app _ 327 389 _ (by decide +kernel) ck_293_5 (mv_chD_app _ 389 451 _ (by decide +kernel) ck_293_6 (mv_chD_app _ 451 511 _ (by decide +kernel) ck_293_7 (mv_chD_app _ 511 572 _ (by decide +kernel) ck_293_8 (mv_chD_app _ 572 633 _ (by decide +kernel) ck_293_9 (mv_chD_app _ 633 697 _ (by decide +kernel) ck_293_10 (mv_chD_app _ 697 763 _ (by decide +kernel) ck_293_11 (mv_chD_app _ 763 829 _ (by decide +kernel) ck_293_12 (mv_chD_app _ 829 895 _ (by decide +kernel) ck_293_13 (mv_chD_app _ 895 961 _ (by decide +kernel) ck_293_14 (mv_chD_app _ 961 1027 _ (by decide +kernel) ck_293_15 (mv_chD_app _ 1027 1087 _ (by decide +kernel) ck_293_16 (mv_chD_app _ 1087 1137 _ (by decide +kernel) ck_293_17 (mv_chD_app _ 1137 1184 _ (by decide +kernel) ck_293_18 ck_293_19)))))))))))))))))))
theorem ck_294 : mv_chD prog_14_method_2_code 0 tb_294 = true := by decide +kernel
theorem ck_295 : mv_chD prog_14_method_3_code 0 tb_295 = true := by decide +kernel
theorem ck_296 : mv_chD prog_14_method_4_code 0 tb_296 = true := by decide +kernel
theorem ck_297 : mv_chD prog_14_method_5_code 0 tb_297 = true := by decide +kernel
theorem ck_298 : mv_chD prog_14_method_6_code 0 tb_298 = true := by decide +kernel
theorem ck_299 : mv_chD prog_14_method_7_code 0 tb_299 = true := by decide +kernel
theorem ck_300 : mv_chD prog_14_method_8_code 0 tb_300 = true := by decide +kernel
theorem ck_301 : mv_chD prog_14_method_9_code 0 tb_301 = true := by decide +kernel
theorem ck_302 : mv_chD prog_14_method_10_code 0 tb_302 = true := by decide +kernel
theorem ck_303 : mv_chD prog_14_method_11_code 0 tb_303 = true := by decide +kernel
theorem ck_304 : mv_chD prog_14_method_12_code 0 tb_304 = true := by decide +kernel
theorem ck_305 : mv_chD prog_14_method_13_code 0 tb_305 = true := by decide +kernel
theorem ck_306 : mv_chD prog_14_method_14_code 0 tb_306 = true := by decide +kernel
theorem ck_307_0 : mv_chD prog_14_method_15_code 0 tb_307_0 = true := by decide +kernel
theorem ck_307_1 : mv_chD prog_14_method_15_code 55 tb_307_1 = true := by decide +kernel
theorem ck_307 : mv_chD prog_14_method_15_code 0 tb_307 = true := (mv_chD_app _ 0 55 _ (by decide +kernel) ck_307_0 ck_307_1)
theorem ck_308 : mv_chD prog_14_method_16_code 0 tb_308 = true := by decide +kernel
theorem ck_309 : mv_chD prog_14_method_17_code 0 tb_309 = true := by decide +kernel
theorem ck_310_0 : mv_chD prog_14_method_18_code 0 tb_310_0 = true := by decide +kernel
theorem ck_310_1 : mv_chD prog_14_method_18_code 49 tb_310_1 = true := by decide +kernel
theorem ck_310 : mv_chD prog_14_method_18_code 0 tb_310 = true := (mv_chD_app _ 0 49 _ (by decide +kernel) ck_310_0 ck_310_1)
theorem ck_311_0 : mv_chD prog_14_method_19_code 0 tb_311_0 = true := by decide +kernel
theorem ck_311_1 : mv_chD prog_14_method_19_code 58 tb_311_1 = true := by decide +kernel
theorem ck_311_2 : mv_chD prog_14_method_19_code 111 tb_311_2 = true := by decide +kernel
theorem ck_311 : mv_chD prog_14_method_19_code 0 tb_311 = true := (mv_chD_app _ 0 58 _ (by decide +kernel) ck_311_0 (mv_chD_app _ 58 111 _ (by decide +kernel) ck_311_1 ck_311_2))
theorem ck_312_0 : mv_chD prog_14_method_20_code 0 tb_312_0 = true := by decide +kernel
theorem ck_312_1 : mv_chD prog_14_method_20_code 57 tb_312_1 = true := by decide +kernel
theorem ck_312 : mv_chD prog_14_method_20_code 0 tb_312 = true := (mv_chD_app _ 0 57 _ (by decide +kernel) ck_312_0 ck_312_1)
theorem ck_313 : mv_chD prog_14_method_21_code 0 tb_313 = true := by decide +kernel
theorem ck_314_0 : mv_chD prog_14_method_22_code 0 tb_314_0 = true := by decide +kernel
theorem ck_314_1 : mv_chD prog_14_method_22_code 54 tb_314_1 = true := by decide +kernel
theorem ck_314 : mv_chD prog_14_method_22_code 0 tb_314 = true := (mv_chD_app _ 0 54 _ (by decide +kernel) ck_314_0 ck_314_1)
theorem ck_315_0 : mv_chD prog_14_method_23_code 0 tb_315_0 = true := by decide +kernel
theorem ck_315_1 : mv_chD prog_14_method_23_code 56 tb_315_1 = true := by decide +kernel
theorem ck_315_2 : mv_chD prog_14_method_23_code 110 tb_315_2 = true := by decide +kernel
theorem ck_315 : mv_chD prog_14_method_23_code 0 tb_315 = true := (mv_chD_app _ 0 56 _ (by decide +kernel) ck_315_0 (mv_chD_app _ 56 110 _ (by decide +kernel) ck_315_1 ck_315_2))
theorem ck_316 : mv_chD prog_14_method_24_code 0 tb_316 = true := by decide +kernel
theorem ck_317 : mv_chD prog_14_method_25_code 0 tb_317 = true := by decide +kernel
theorem ck_318 : mv_chD prog_14_method_26_code 0 tb_318 = true := by decide +kernel
theorem ck_319_0 : mv_chD prog_14_method_27_code 0 tb_319_0 = true := by decide +kernel
theorem ck_319_1 : mv_chD prog_14_method_27_code 56 tb_319_1 = true := by decide +kernel
theorem ck_319 : mv_chD prog_14_method_27_code 0 tb_319 = true := (mv_chD_app _ 0 56 _ (by decide +kernel) ck_319_0 ck_319_1)
theorem ck_320_0 : mv_chD prog_14_method_28_code 0 tb_320_0 = true := by decide +kernel
theorem ck_320_1 : mv_chD prog_14_method_28_code 56 tb_320_1 = true := by decide +kernel
theorem ck_320 : mv_chD prog_14_method_28_code 0 tb_320 = true := (mv_chD_app _ 0 56 _ (by decide +kernel) ck_320_0 ck_320_1)
theorem ck_321_0 : mv_chD prog_14_method_29_code 0 tb_321_0 = true := by decide +kernel
theorem ck_321_1 : mv_chD prog_14_method_29_code 51 tb_321_1 = true := by decide +kernel
theorem ck_321_2 : mv_chD prog_14_method_29_code 103 tb_321_2 = true := by decide +kernel
theorem ck_321_3 : mv_chD prog_14_method_29_code 159 tb_321_3 = true := by decide +kernel
theorem ck_321_4 : mv_chD prog_14_method_29_code 209 tb_321_4 = true := by decide +kernel
theorem ck_321_5 : mv_chD prog_14_method_29_code 259 tb_321_5 = true := by decide +kernel
theorem ck_321_6 : mv_chD prog_14_method_29_code 305 tb_321_6 = true := by decide +kernel
theorem ck_321_7 : mv_chD prog_14_method_29_code 354 tb_321_7 = true := by decide +kernel
theorem ck_321_8 : mv_chD prog_14_method_29_code 408 tb_321_8 = true := by decide +kernel
theorem ck_321 : mv_chD prog_14_method_29_code 0 tb_321 = true := (mv_chD_app _ 0 51 _ (by decide +kernel) ck_321_0 (mv_chD_app _ 51 103 _ (by decide +kernel) ck_321_1 (mv_chD_app _ 103 159 _ (by decide +kernel) ck_321_2 (mv_chD_app _ 159 209 _ (by decide +kernel) ck_321_3 (mv_chD_app _ 209 259 _ (by decide +kernel) ck_321_4 (mv_chD_app _ 259 305 _ (by decide +kernel) ck_321_5 (mv_chD_app _ 305 354 _ (by decide +kernel) ck_321_6 (mv_chD_app _ 354 408 _ (by decide +kernel) ck_321_7 ck_321_8))))))))
theorem ck_322 : mv_chD prog_14_method_30_code 0 tb_322 = true := by decide +kernel
theorem ck_323 : mv_chD prog_14_method_31_code 0 tb_323 = true := by decide +kernel
theorem ck_324_0 : mv_chD prog_14_method_32_code 0 tb_324_0 = true := by decide +kernel
theorem ck_324_1 : mv_chD prog_14_method_32_code 60 tb_324_1 = true := by decide +kernel
theorem ck_324 : mv_chD prog_14_method_32_code 0 tb_324 = true := (mv_chD_app _ 0 60 _ (by decide +kernel) ck_324_0 ck_324_1)
theorem ck_325 : mv_chD prog_14_method_33_code 0 tb_325 = true := by decide +kernel
theorem ck_326_0 : mv_chD prog_14_method_34_code 0 tb_326_0 = true := by decide +kernel
theorem ck_326_1 : mv_chD prog_14_method_34_code 57 tb_326_1 = true := by decide +kernel
theorem ck_326_2 : mv_chD prog_14_method_34_code 113 tb_326_2 = true := by decide +kernel
theorem ck_326 : mv_chD prog_14_method_34_code 0 tb_326 = true := (mv_chD_app _ 0 57 _ (by decide +kernel) ck_326_0 (mv_chD_app _ 57 113 _ (by decide +kernel) ck_326_1 ck_326_2))
theorem ck_327 : mv_chD prog_14_method_35_code 0 tb_327 = true := by decide +kernel
theorem ck_328_0 : mv_chD prog_14_method_36_code 0 tb_328_0 = true := by decide +kernel
theorem ck_328_1 : mv_chD prog_14_method_36_code 59 tb_328_1 = true := by decide +kernel
theorem ck_328_2 : mv_chD prog_14_method_36_code 115 tb_328_2 = true := by decide +kernel
theorem ck_328_3 : mv_chD prog_14_method_36_code 173 tb_328_3 = true := by decide +kernel
theorem ck_328_4 : mv_chD prog_14_method_36_code 228 tb_328_4 = true := by decide +kernel
theorem ck_328 : mv_chD prog_14_method_36_code 0 tb_328 = true := (mv_chD_app _ 0 59 _ (by decide +kernel) ck_328_0 (mv_chD_app _ 59 115 _ (by decide +kernel) ck_328_1 (mv_chD_app _ 115 173 _ (by decide +kernel) ck_328_2 (mv_chD_app _ 173 228 _ (by decide +kernel) ck_328_3 ck_328_4))))
theorem ck_329_0 : mv_chD prog_14_method_37_code 0 tb_329_0 = true := by decide +kernel
theorem ck_329_1 : mv_chD prog_14_method_37_code 53 tb_329_1 = true := by decide +kernel
theorem ck_329 : mv_chD prog_14_method_37_code 0 tb_329 = true := (mv_chD_app _ 0 53 _ (by decide +kernel) ck_329_0 ck_329_1)
theorem ck_330_0 : mv_chD prog_14_method_38_code 0 tb_330_0 = true := by decide +kernel
theorem ck_330_1 : mv_chD prog_14_method_38_code 55 tb_330_1 = true := by decide +kernel
theorem ck_330_2 : mv_chD prog_14_method_38_code 111 tb_330_2 = true := by decide +kernel
theorem ck_330 : mv_chD prog_14_method_38_code 0 tb_330 = true := (mv_chD_app _ 0 55 _ (by decide +kernel) ck_330_0 (mv_chD_app _ 55 111 _ (by decide +kernel) ck_330_1 ck_330_2))
theorem ck_331 : mv_chD prog_14_method_39_code 0 tb_331 = true := by decide +kernel
theorem ck_332_0 : mv_chD prog_14_method_40_code 0 tb_332_0 = true := by decide +kernel
theorem ck_332_1 : mv_chD prog_14_method_40_code 60 tb_332_1 = true := by decide +kernel
theorem ck_332 : mv_chD prog_14_method_40_code 0 tb_332 = true := (mv_chD_app _ 0 60 _ (by decide +kernel) ck_332_0 ck_332_1)
theorem ck_333_0 : mv_chD prog_14_method_41_code 0 tb_333_0 = true := by decide +kernel
theorem ck_333_1 : mv_chD prog_14_method_41_code 47 tb_333_1 = true := by decide +kernel
theorem ck_333 : mv_chD prog_14_method_41_code 0 tb_333 = true := (mv_chD_app _ 0 47 _ (by decide +kernel) ck_333_0 ck_333_1)
theorem ck_334_0 : mv_chD prog_14_method_42_code 0 tb_334_0 = true := by decide +kernel
theorem ck_334_1 : mv_chD prog_14_method_42_code 48 tb_334_1 = true := by decide +kernel
theorem ck_334 : mv_chD prog_14_method_42_code 0 tb_334 = true := (mv_chD_app _ 0 48 _ (by decide +kernel) ck_334_0 ck_334_1)
theorem ck_335 : mv_chD prog_14_method_43_code 0 tb_335 = true := by decide +kernel
theorem ck_336_0 : mv_chD prog_14_method_44_code 0 tb_336_0 = true := by decide +kernel
theorem ck_336_1 : mv_chD prog_14_method_44_code 57 tb_336_1 = true := by decide +kernel
theorem ck_336_2 : mv_chD prog_14_method_44_code 111 tb_336_2 = true := by decide +kernel
theorem ck_336 : mv_chD prog_14_method_44_code 0 tb_336 = true := (mv_chD_app _ 0 57 _ (by decide +kernel) ck_336_0 (mv_chD_app _ 57 111 _ (by decide +kernel) ck_336_1 ck_336_2))
theorem ck_337 : mv_chD prog_14_method_45_code 0 tb_337 = true := by decide +kernel
theorem ck_338 : mv_chD prog_14_method_46_code 0 tb_338 = true := by decide +kernel
theorem ck_339 : mv_chD prog_14_method_47_code 0 tb_339 = true := by decide +kernel
theorem ck_340_0 : mv_chD prog_14_method_48_code 0 tb_340_0 = true := by decide +kernel
theorem ck_340_1 : mv_chD prog_14_method_48_code 54 tb_340_1 = true := by decide +kernel
theorem ck_340_2 : mv_chD prog_14_method_48_code 112 tb_340_2 = true := by decide +kernel
theorem ck_340_3 : mv_chD prog_14_method_48_code 175 tb_340_3 = true := by decide +kernel
theorem ck_340_4 : mv_chD prog_14_method_48_code 232 tb_340_4 = true := by decide +kernel
theorem ck_340_5 : mv_chD prog_14_method_48_code 293 tb_340_5 = true := by decide +kernel
theorem ck_340 : mv_chD prog_14_method_48_code 0 tb_340 = true := (mv_chD_app _ 0 54 _ (by decide +kernel) ck_340_0 (mv_chD_app _ 54 112 _ (by decide +kernel) ck_340_1 (mv_chD_app _ 112 175 _ (by decide +kernel) ck_340_2 (mv_chD_app _ 175 232 _ (by decide +kernel) ck_340_3 (mv_chD_app _ 232 293 _ (by decide +kernel) ck_340_4 ck_340_5)))))
theorem ck_341 : mv_chD prog_14_method_49_code 0 tb_341 = true := by decide +kernel
theorem ck_342_0 : mv_chD prog_14_method_50_code 0 tb_342_0 = true := by decide +kernel
theorem ck_342_1 : mv_chD prog_14_method_50_code 55 tb_342_1 = true := by decide +kernel
theorem ck_342 : mv_chD prog_14_method_50_code 0 tb_342 = true := (mv_chD_app _ 0 55 _ (by decide +kernel) ck_342_0 ck_342_1)
theorem ck_343 : mv_chD prog_14_method_51_code 0 tb_343 = true := by decide +kernel
theorem ck_344 : mv_chD prog_14_method_52_code 0 tb_344 = true := by decide +kernel
theorem ck_345_0 : mv_chD prog_14_method_53_code 0 tb_345_0 = true := by decide +kernel
theorem ck_345_1 : mv_chD prog_14_method_53_code 53 tb_345_1 = true := by decide +kernel
theorem ck_345_2 : mv_chD prog_14_method_53_code 114 tb_345_2 = true := by decide +kernel
theorem ck_345_3 : mv_chD prog_14_method_53_code 179 tb_345_3 = true := by decide +kernel
theorem ck_345_4 : mv_chD prog_14_method_53_code 242 tb_345_4 = true := by decide +kernel
theorem ck_345_5 : mv_chD prog_14_method_53_code 304 tb_345_5 = true := by decide +kernel
theorem ck_345 : mv_chD prog_14_method_53_code 0 tb_345 = true := (mv_chD_app _ 0 53 _ (by decide +kernel) ck_345_0 (mv_chD_app _ 53 114 _ (by decide +kernel) ck_345_1 (mv_chD_app _ 114 179 _ (by decide +kernel) ck_345_2 (mv_chD_app _ 179 242 _ (by decide +kernel) ck_345_3 (mv_chD_app _ 242 304 _ (by decide +kernel) ck_345_4 ck_345_5)))))
theorem ck_346_0 : mv_chD prog_14_method_54_code 0 tb_346_0 = true := by decide +kernel
theorem ck_346_1 : mv_chD prog_14_method_54_code 57 tb_346_1 = true := by decide +kernel
theorem ck_346_2 : mv_chD prog_14_method_54_code 115 tb_346_2 = true := by decide +kernel
theorem ck_346_3 : mv_chD prog_14_method_54_code 176 tb_346_3 = true := by decide +kernel
theorem ck_346 : mv_chD prog_14_method_54_code 0 tb_346 = true := (mv_chD_app _ 0 57 _ (by decide +kernel) ck_346_0 (mv_chD_app _ 57 115 _ (by decide +kernel) ck_346_1 (mv_chD_app _ 115 176 _ (by decide +kernel) ck_346_2 ck_346_3)))
theorem ck_347 : mv_chD prog_14_method_55_code 0 tb_347 = true := by decide +kernel
theorem ck_348 : mv_chD prog_14_method_56_code 0 tb_348 = true := by decide +kernel
theorem ck_349 : mv_chD prog_14_method_57_code 0 tb_349 = true := by decide +kernel
theorem ck_350 : mv_chD prog_14_method_58_code 0 tb_350 = true := by decide +kernel
theorem ck_351 : mv_chD prog_14_method_59_code 0 tb_351 = true := by decide +kernel
theorem ck_352 : mv_chD prog_14_method_60_code 0 tb_352 = true := by decide +kernel
theorem ck_353 : mv_chD prog_14_method_61_code 0 tb_353 = true := by decide +kernel
theorem ck_354 : mv_chD prog_14_method_62_code 0 tb_354 = true := by decide +kernel
theorem ck_355 : mv_chD prog_14_method_63_code 0 tb_355 = true := by decide +kernel
theorem ck_356_0 : mv_chD prog_14_method_64_code 0 tb_356_0 = true := by decide +kernel
theorem ck_356_1 : mv_chD prog_14_method_64_code 129 tb_356_1 = true := by decide +kernel
theorem ck_356_2 : mv_chD prog_14_method_64_code 182 tb_356_2 = true := by decide +kernel
theorem ck_356_3 : mv_chD prog_14_method_64_code 238 tb_356_3 = true := by decide +kernel
theorem ck_356 : mv_chD prog_14_method_64_code 0 tb_356 = true := (mv_chD_app _ 0 129 _ (by decide +kernel) ck_356_0 (mv_chD_app _ 129 182 _ (by decide +kernel) ck_356_1 (mv_chD_app _ 182 238 _ (by decide +kernel) ck_356_2 ck_356_3)))
theorem ck_357_0 : mv_chD prog_14_method_65_code 0 tb_357_0 = true := by decide +kernel
theorem ck_357_1 : mv_chD prog_14_method_65_code 135 tb_357_1 = true := by decide +kernel
theorem ck_357_2 : mv_chD prog_14_method_65_code 179 tb_357_2 = true := by decide +kernel
theorem ck_357_3 : mv_chD prog_14_method_65_code 223 tb_357_3 = true := by decide +kernel
theorem ck_357 : mv_chD prog_14_method_65_code 0 tb_357 = true := (mv_chD_app _ 0 135 _ (by decide +kernel) ck_357_0 (mv_chD_app _ 135 179 _ (by decide +kernel) ck_357_1 (mv_chD_app _ 179 223 _ (by decide +kernel) ck_357_2 ck_357_3)))
theorem ck_358_0 : mv_chD prog_14_method_66_code 0 tb_358_0 = true := by decide +kernel
theorem ck_358_1 : mv_chD prog_14_method_66_code 58 tb_358_1 = true := by decide +kernel
theorem ck_358 : mv_chD prog_14_method_66_code 0 tb_358 = true := (mv_chD_app _ 0 58 _ (by decide +kernel) ck_358_0 ck_358_1)
theorem ck_359_0 : mv_chD prog_14_method_67_code 0 tb_359_0 = true := by decide +kernel
theorem ck_359_1 : mv_chD prog_14_method_67_code 52 tb_359_1 = true := by decide +kernel
theorem ck_359 : mv_chD prog_14_method_67_code 0 tb_359 = true := (mv_chD_app _ 0 52 _ (by decide +kernel) ck_359_0 ck_359_1)
theorem ck_360_0 : mv_chD prog_14_method_68_code 0 tb_360_0 = true := by decide +kernel
theorem ck_360_1 : mv_chD prog_14_method_68_code 53 tb_360_1 = true := by decide +kernel
theorem ck_360 : mv_chD prog_14_method_68_code 0 tb_360 = true := (mv_chD_app _ 0 53 _ (by decide +kernel) ck_360_0 ck_360_1)
theorem ck_361 : mv_chD prog_14_method_69_code 0 tb_361 = true := by decide +kernel
theorem ck_362_0 : mv_chD prog_14_method_70_code 0 tb_362_0 = true := by decide +kernel
theorem ck_362_1 : mv_chD prog_14_method_70_code 59 tb_362_1 = true := by decide +kernel
theorem ck_362 : mv_chD prog_14_method_70_code 0 tb_362 = true := (mv_chD_app _ 0 59 _ (by decide +kernel) ck_362_0 ck_362_1)
theorem ck_363_0 : mv_chD prog_14_method_71_code 0 tb_363_0 = true := by decide +kernel
theorem ck_363_1 : mv_chD prog_14_method_71_code 60 tb_363_1 = true := by decide +kernel
theorem ck_363_2 : mv_chD prog_14_method_71_code 127 tb_363_2 = true := by decide +kernel
theorem ck_363_3 : mv_chD prog_14_method_71_code 190 tb_363_3 = true := by decide +kernel
theorem ck_363_4 : mv_chD prog_14_method_71_code 247 tb_363_4 = true := by decide +kernel
theorem ck_363 : mv_chD prog_14_method_71_code 0 tb_363 = true := (mv_chD_app _ 0 60 _ (by decide +kernel) ck_363_0 (mv_chD_app _ 60 127 _ (by decide +kernel) ck_363_1 (mv_chD_app _ 127 190 _ (by decide +kernel) ck_363_2 (mv_chD_app _ 190 247 _ (by decide +kernel) ck_363_3 ck_363_4))))
theorem ck_364_0 : mv_chD prog_14_method_72_code 0 tb_364_0 = true := by decide +kernel
theorem ck_364_1 : mv_chD prog_14_method_72_code 56 tb_364_1 = true := by decide +kernel
theorem ck_364 : mv_chD prog_14_method_72_code 0 tb_364 = true := (mv_chD_app _ 0 56 _ (by decide +kernel) ck_364_0 ck_364_1)
theorem ck_365_0 : mv_chD prog_14_method_73_code 0 tb_365_0 = true := by decide +kernel
theorem ck_365_1 : mv_chD prog_14_method_73_code 52 tb_365_1 = true := by decide +kernel
theorem ck_365 : mv_chD prog_14_method_73_code 0 tb_365 = true := (mv_chD_app _ 0 52 _ (by decide +kernel) ck_365_0 ck_365_1)
theorem ck_366_0 : mv_chD prog_14_method_74_code 0 tb_366_0 = true := by decide +kernel
theorem ck_366_1 : mv_chD prog_14_method_74_code 52 tb_366_1 = true := by decide +kernel
theorem ck_366 : mv_chD prog_14_method_74_code 0 tb_366 = true := (mv_chD_app _ 0 52 _ (by decide +kernel) ck_366_0 ck_366_1)
theorem ck_367_0 : mv_chD prog_14_method_75_code 0 tb_367_0 = true := by decide +kernel
theorem ck_367_1 : mv_chD prog_14_method_75_code 58 tb_367_1 = true := by decide +kernel
theorem ck_367 : mv_chD prog_14_method_75_code 0 tb_367 = true := (mv_chD_app _ 0 58 _ (by decide +kernel) ck_367_0 ck_367_1)
theorem ck_368_0 : mv_chD prog_14_method_76_code 0 tb_368_0 = true := by decide +kernel
theorem ck_368_1 : mv_chD prog_14_method_76_code 54 tb_368_1 = true := by decide +kernel
theorem ck_368_2 : mv_chD prog_14_method_76_code 116 tb_368_2 = true := by decide +kernel
theorem ck_368_3 : mv_chD prog_14_method_76_code 175 tb_368_3 = true := by decide +kernel
theorem ck_368 : mv_chD prog_14_method_76_code 0 tb_368 = true := (mv_chD_app _ 0 54 _ (by decide +kernel) ck_368_0 (mv_chD_app _ 54 116 _ (by decide +kernel) ck_368_1 (mv_chD_app _ 116 175 _ (by decide +kernel) ck_368_2 ck_368_3)))
theorem ck_369_0 : mv_chD prog_14_method_77_code 0 tb_369_0 = true := by decide +kernel
theorem ck_369_1 : mv_chD prog_14_method_77_code 56 tb_369_1 = true := by decide +kernel
theorem ck_369 : mv_chD prog_14_method_77_code 0 tb_369 = true := (mv_chD_app _ 0 56 _ (by decide +kernel) ck_369_0 ck_369_1)
theorem ck_370_0 : mv_chD prog_14_method_78_code 0 tb_370_0 = true := by decide +kernel
theorem ck_370_1 : mv_chD prog_14_method_78_code 56 tb_370_1 = true := by decide +kernel
theorem ck_370_2 : mv_chD prog_14_method_78_code 112 tb_370_2 = true := by decide +kernel
theorem ck_370 : mv_chD prog_14_method_78_code 0 tb_370 = true := (mv_chD_app _ 0 56 _ (by decide +kernel) ck_370_0 (mv_chD_app _ 56 112 _ (by decide +kernel) ck_370_1 ck_370_2))
theorem ck_371_0 : mv_chD prog_14_method_79_code 0 tb_371_0 = true := by decide +kernel
theorem ck_371_1 : mv_chD prog_14_method_79_code 50 tb_371_1 = true := by decide +kernel
theorem ck_371 : mv_chD prog_14_method_79_code 0 tb_371 = true := (mv_chD_app _ 0 50 _ (by decide +kernel) ck_371_0 ck_371_1)
theorem ck_372_0 : mv_chD prog_14_method_80_code 0 tb_372_0 = true := by decide +kernel
theorem ck_372_1 : mv_chD prog_14_method_80_code 60 tb_372_1 = true := by decide +kernel
theorem ck_372 : mv_chD prog_14_method_80_code 0 tb_372 = true := (mv_chD_app _ 0 60 _ (by decide +kernel) ck_372_0 ck_372_1)
theorem ck_373_0 : mv_chD prog_14_method_81_code 0 tb_373_0 = true := by decide +kernel
theorem ck_373_1 : mv_chD prog_14_method_81_code 60 tb_373_1 = true := by decide +kernel
theorem ck_373 : mv_chD prog_14_method_81_code 0 tb_373 = true := (mv_chD_app _ 0 60 _ (by decide +kernel) ck_373_0 ck_373_1)
theorem ck_374_0 : mv_chD prog_14_method_82_code 0 tb_374_0 = true := by decide +kernel
theorem ck_374_1 : mv_chD prog_14_method_82_code 55 tb_374_1 = true := by decide +kernel
theorem ck_374_2 : mv_chD prog_14_method_82_code 124 tb_374_2 = true := by decide +kernel
theorem ck_374 : mv_chD prog_14_method_82_code 0 tb_374 = true := (mv_chD_app _ 0 55 _ (by decide +kernel) ck_374_0 (mv_chD_app _ 55 124 _ (by decide +kernel) ck_374_1 ck_374_2))
theorem ck_375_0 : mv_chD prog_14_method_83_code 0 tb_375_0 = true := by decide +kernel
theorem ck_375_1 : mv_chD prog_14_method_83_code 250 tb_375_1 = true := by decide +kernel
theorem ck_375_2 : mv_chD prog_14_method_83_code 304 tb_375_2 = true := by decide +kernel
theorem ck_375_3 : mv_chD prog_14_method_83_code 362 tb_375_3 = true := by decide +kernel
theorem ck_375_4 : mv_chD prog_14_method_83_code 419 tb_375_4 = true := by decide +kernel
theorem ck_375 : mv_chD prog_14_method_83_code 0 tb_375 = true := (mv_chD_app _ 0 250 _ (by decide +kernel) ck_375_0 (mv_chD_app _ 250 304 _ (by decide +kernel) ck_375_1 (mv_chD_app _ 304 362 _ (by decide +kernel) ck_375_2 (mv_chD_app _ 362 419 _ (by decide +kernel) ck_375_3 ck_375_4))))
theorem ck_376 : mv_chD prog_14_method_84_code 0 tb_376 = true := by decide +kernel
theorem ck_377 : mv_chD prog_14_method_85_code 0 tb_377 = true := by decide +kernel
theorem ck_378_0 : mv_chD prog_14_method_86_code 0 tb_378_0 = true := by decide +kernel
theorem ck_378_1 : mv_chD prog_14_method_86_code 50 tb_378_1 = true := by decide +kernel
theorem ck_378_2 : mv_chD prog_14_method_86_code 110 tb_378_2 = true := by decide +kernel
theorem ck_378_3 : mv_chD prog_14_method_86_code 169 tb_378_3 = true := by decide +kernel
theorem ck_378 : mv_chD prog_14_method_86_code 0 tb_378 = true := (mv_chD_app _ 0 50 _ (by decide +kernel) ck_378_0 (mv_chD_app _ 50 110 _ (by decide +kernel) ck_378_1 (mv_chD_app _ 110 169 _ (by decide +kernel) ck_378_2 ck_378_3)))
theorem ck_379_0 : mv_chD prog_14_method_87_code 0 tb_379_0 = true := by decide +kernel
theorem ck_379_1 : mv_chD prog_14_method_87_code 51 tb_379_1 = true := by decide +kernel
theorem ck_379_2 : mv_chD prog_14_method_87_code 102 tb_379_2 = true := by decide +kernel
theorem ck_379_3 : mv_chD prog_14_method_87_code 152 tb_379_3 = true := by decide +kernel
theorem ck_379_4 : mv_chD prog_14_method_87_code 203 tb_379_4 = true := by decide +kernel
theorem ck_379 : mv_chD prog_14_method_87_code 0 tb_379 = true := (mv_chD_app _ 0 51 _ (by decide +kernel) ck_379_0 (mv_chD_app _ 51 102 _ (by decide +kernel) ck_379_1 (mv_chD_app _ 102 152 _ (by decide +kernel) ck_379_2 (mv_chD_app _ 152 203 _ (by decide +kernel) ck_379_3 ck_379_4))))
theorem ck_380_0 : mv_chD prog_14_method_88_code 0 tb_380_0 = true := by decide +kernel
theorem ck_380_1 : mv_chD prog_14_method_88_code 129 tb_380_1 = true := by decide +kernel
theorem ck_380_2 : mv_chD prog_14_method_88_code 185 tb_380_2 = true := by decide +kernel
theorem ck_380_3 : mv_chD prog_14_method_88_code 242 tb_380_3 = true := by decide +kernel
theorem ck_380 : mv_chD prog_14_method_88_code 0 tb_380 = true := (mv_chD_app _ 0 129 _ (by decide +kernel) ck_380_0 (mv_chD_app _ 129 185 _ (by decide +kernel) ck_380_1 (mv_chD_app _ 185 242 _ (by decide +kernel) ck_380_2 ck_380_3)))
theorem ck_381 : mv_chD prog_14_method_89_code 0 tb_381 = true := by decide +kernel
theorem ck_382_0 : mv_chD prog_14_method_90_code 0 tb_382_0 = true := by decide +kernel
theorem ck_382_1 : mv_chD prog_14_method_90_code 62 tb_382_1 = true := by decide +kernel
theorem ck_382 : mv_chD prog_14_method_90_code 0 tb_382 = true := (mv_chD_app _ 0 62 _ (by decide +kernel) ck_382_0 ck_382_1)
theorem ck_383_0 : mv_chD prog_14_method_91_code 0 tb_383_0 = true := by decide +kernel
theorem ck_383_1 : mv_chD prog_14_method_91_code 52 tb_383_1 = true := by decide +kernel
theorem ck_383 : mv_chD prog_14_method_91_code 0 tb_383 = true := (mv_chD_app _ 0 52 _ (by decide +kernel) ck_383_0 ck_383_1)
theorem ck_384_0 : mv_chD prog_14_method_92_code 0 tb_384_0 = true := by decide +kernel
theorem ck_384_1 : mv_chD prog_14_method_92_code 58 tb_384_1 = true := by decide +kernel
theorem ck_384 : mv_chD prog_14_method_92_code 0 tb_384 = true := (mv_chD_app _ 0 58 _ (by decide +kernel) ck_384_0 ck_384_1)
theorem ck_385_0 : mv_chD prog_14_method_93_code 0 tb_385_0 = true := by decide +kernel
theorem ck_385_1 : mv_chD prog_14_method_93_code 60 tb_385_1 = true := by decide +kernel
theorem ck_385 : mv_chD prog_14_method_93_code 0 tb_385 = true := (mv_chD_app _ 0 60 _ (by decide +kernel) ck_385_0 ck_385_1)
theorem ck_386_0 : mv_chD prog_14_method_94_code 0 tb_386_0 = true := by decide +kernel
theorem ck_386_1 : mv_chD prog_14_method_94_code 62 tb_386_1 = true := by decide +kernel
theorem ck_386 : mv_chD prog_14_method_94_code 0 tb_386 = true := (mv_chD_app _ 0 62 _ (by decide +kernel) ck_386_0 ck_386_1)
theorem ck_387_0 : mv_chD prog_14_method_95_code 0 tb_387_0 = true := by decide +kernel
theorem ck_387_1 : mv_chD prog_14_method_95_code 50 tb_387_1 = true := by decide +kernel
theorem ck_387 : mv_chD prog_14_method_95_code 0 tb_387 = true := (mv_chD_app _ 0 50 _ (by decide +kernel) ck_387_0 ck_387_1)
theorem ck_388_0 : mv_chD prog_14_method_96_code 0 tb_388_0 = true := by decide +kernel
theorem ck_388_1 : mv_chD prog_14_method_96_code 58 tb_388_1 = true := by decide +kernel
theorem ck_388_2 : mv_chD prog_14_method_96_code 114 tb_388_2 = true := by decide +kernel
theorem ck_388 : mv_chD prog_14_method_96_code 0 tb_388 = true := (mv_chD_app _ 0 58 _ (by decide +kernel) ck_388_0 (mv_chD_app _ 58 114 _ (by decide +kernel) ck_388_1 ck_388_2))
theorem ck_389_0 : mv_chD prog_14_method_97_code 0 tb_389_0 = true := by decide +kernel
theorem ck_389_1 : mv_chD prog_14_method_97_code 90 tb_389_1 = true := by decide +kernel
theorem ck_389_2 : mv_chD prog_14_method_97_code 144 tb_389_2 = true := by decide +kernel
theorem ck_389 : mv_chD prog_14_method_97_code 0 tb_389 = true := (mv_chD_app _ 0 90 _ (by decide +kernel) ck_389_0 (mv_chD_app _ 90 144 _ (by decide +kernel) ck_389_1 ck_389_2))
theorem ck_390_0 : mv_chD prog_14_method_98_code 0 tb_390_0 = true := by decide +kernel
theorem ck_390_1 : mv_chD prog_14_method_98_code 59 tb_390_1 = true := by decide +kernel
theorem ck_390 : mv_chD prog_14_method_98_code 0 tb_390 = true := (mv_chD_app _ 0 59 _ (by decide +kernel) ck_390_0 ck_390_1)
theorem ck_391_0 : mv_chD prog_14_method_99_code 0 tb_391_0 = true := by decide +kernel
theorem ck_391_1 : mv_chD prog_14_method_99_code 56 tb_391_1 = true := by decide +kernel
theorem ck_391_2 : mv_chD prog_14_method_99_code 116 tb_391_2 = true := by decide +kernel
theorem ck_391_3 : mv_chD prog_14_method_99_code 177 tb_391_3 = true := by decide +kernel
theorem ck_391 : mv_chD prog_14_method_99_code 0 tb_391 = true := (mv_chD_app _ 0 56 _ (by decide +kernel) ck_391_0 (mv_chD_app _ 56 116 _ (by decide +kernel) ck_391_1 (mv_chD_app _ 116 177 _ (by decide +kernel) ck_391_2 ck_391_3)))
theorem ck_392_0 : mv_chD prog_14_method_100_code 0 tb_392_0 = true := by decide +kernel
theorem ck_392_1 : mv_chD prog_14_method_100_code 101 tb_392_1 = true := by decide +kernel
theorem ck_392_2 : mv_chD prog_14_method_100_code 160 tb_392_2 = true := by decide +kernel
theorem ck_392_3 : mv_chD prog_14_method_100_code 214 tb_392_3 = true := by decide +kernel
theorem ck_392 : mv_chD prog_14_method_100_code 0 tb_392 = true := (mv_chD_app _ 0 101 _ (by decide +kernel) ck_392_0 (mv_chD_app _ 101 160 _ (by decide +kernel) ck_392_1 (mv_chD_app _ 160 214 _ (by decide +kernel) ck_392_2 ck_392_3)))
theorem ck_393 : mv_chD prog_14_method_101_code 0 tb_393 = true := by decide +kernel
theorem ck_394 : mv_chD prog_14_method_102_code 0 tb_394 = true := by decide +kernel
theorem ck_395_0 : mv_chD prog_14_method_103_code 0 tb_395_0 = true := by decide +kernel
theorem ck_395_1 : mv_chD prog_14_method_103_code 47 tb_395_1 = true := by decide +kernel
theorem ck_395 : mv_chD prog_14_method_103_code 0 tb_395 = true := (mv_chD_app _ 0 47 _ (by decide +kernel) ck_395_0 ck_395_1)
theorem ck_396_0 : mv_chD prog_14_method_104_code 0 tb_396_0 = true := by decide +kernel
theorem ck_396_1 : mv_chD prog_14_method_104_code 123 tb_396_1 = true := by decide +kernel
theorem ck_396_2 : mv_chD prog_14_method_104_code 179 tb_396_2 = true := by decide +kernel
theorem ck_396_3 : mv_chD prog_14_method_104_code 241 tb_396_3 = true := by decide +kernel
theorem ck_396_4 : mv_chD prog_14_method_104_code 295 tb_396_4 = true := by decide +kernel
theorem ck_396 : mv_chD prog_14_method_104_code 0 tb_396 = true := (mv_chD_app _ 0 123 _ (by decide +kernel) ck_396_0 (mv_chD_app _ 123 179 _ (by decide +kernel) ck_396_1 (mv_chD_app _ 179 241 _ (by decide +kernel) ck_396_2 (mv_chD_app _ 241 295 _ (by decide +kernel) ck_396_3 ck_396_4))))
theorem ck_397 : mv_chD prog_14_method_105_code 0 tb_397 = true := by decide +kernel
theorem ck_398 : mv_chD prog_14_method_106_code 0 tb_398 = true := by decide +kernel
theorem ck_399_0 : mv_chD prog_14_method_107_code 0 tb_399_0 = true := by decide +kernel
theorem ck_399_1 : mv_chD prog_14_method_107_code 56 tb_399_1 = true := by decide +kernel
theorem ck_399 : mv_chD prog_14_method_107_code 0 tb_399 = true := (mv_chD_app _ 0 56 _ (by decide +kernel) ck_399_0 ck_399_1)
theorem ck_400 : mv_chD prog_14_method_108_code 0 tb_400 = true := by decide +kernel
theorem ck_401_0 : mv_chD prog_14_method_109_code 0 tb_401_0 = true := by decide +kernel
theorem ck_401_1 : mv_chD prog_14_method_109_code 52 tb_401_1 = true := by decide +kernel
theorem ck_401 : mv_chD prog_14_method_109_code 0 tb_401 = true := (mv_chD_app _ 0 52 _ (by decide +kernel) ck_401_0 ck_401_1)
theorem ck_402_0 : mv_chD prog_14_method_110_code 0 tb_402_0 = true := by decide +kernel
theorem ck_402_1 : mv_chD prog_14_method_110_code 90 tb_402_1 = true := by decide +kernel
theorem ck_402_2 : mv_chD prog_14_method_110_code 151 tb_402_2 = true := by decide +kernel
theorem ck_402_3 : mv_chD prog_14_method_110_code 208 tb_402_3 = true := by decide +kernel
theorem ck_402 : mv_chD prog_14_method_110_code 0 tb_402 = true := (mv_chD_app _ 0 90 _ (by decide +kernel) ck_402_0 (mv_chD_app _ 90 151 _ (by decide +kernel) ck_402_1 (mv_chD_app _ 151 208 _ (by decide +kernel) ck_402_2 ck_402_3)))
theorem ck_403_0 : mv_chD prog_14_method_111_code 0 tb_403_0 = true := by decide +kernel
theorem ck_403_1 : mv_chD prog_14_method_111_code 53 tb_403_1 = true := by decide +kernel
theorem ck_403_2 : mv_chD prog_14_method_111_code 107 tb_403_2 = true := by decide +kernel
theorem ck_403 : mv_chD prog_14_method_111_code 0 tb_403 = true := (mv_chD_app _ 0 53 _ (by decide +kernel) ck_403_0 (mv_chD_app _ 53 107 _ (by decide +kernel) ck_403_1 ck_403_2))
theorem ck_404_0 : mv_chD prog_14_method_112_code 0 tb_404_0 = true := by decide +kernel
theorem ck_404_1 : mv_chD prog_14_method_112_code 56 tb_404_1 = true := by decide +kernel
theorem ck_404 : mv_chD prog_14_method_112_code 0 tb_404 = true := (mv_chD_app _ 0 56 _ (by decide +kernel) ck_404_0 ck_404_1)
theorem ck_405_0 : mv_chD prog_14_method_113_code 0 tb_405_0 = true := by decide +kernel
theorem ck_405_1 : mv_chD prog_14_method_113_code 52 tb_405_1 = true := by decide +kernel
theorem ck_405 : mv_chD prog_14_method_113_code 0 tb_405 = true := (mv_chD_app _ 0 52 _ (by decide +kernel) ck_405_0 ck_405_1)
theorem ck_406 : mv_chD prog_14_method_114_code 0 tb_406 = true := by decide +kernel
theorem ck_407 : mv_chD prog_14_method_115_code 0 tb_407 = true := by decide +kernel
theorem ck_408_0 : mv_chD prog_14_method_116_code 0 tb_408_0 = true := by decide +kernel
theorem ck_408_1 : mv_chD prog_14_method_116_code 50 tb_408_1 = true := by decide +kernel
theorem ck_408 : mv_chD prog_14_method_116_code 0 tb_408 = true := (mv_chD_app _ 0 50 _ (by decide +kernel) ck_408_0 ck_408_1)
theorem ck_409_0 : mv_chD prog_14_method_117_code 0 tb_409_0 = true := by decide +kernel
theorem ck_409_1 : mv_chD prog_14_method_117_code 52 tb_409_1 = true := by decide +kernel
theorem ck_409 : mv_chD prog_14_method_117_code 0 tb_409 = true := (mv_chD_app _ 0 52 _ (by decide +kernel) ck_409_0 ck_409_1)
theorem ck_410 : mv_chD prog_14_method_118_code 0 tb_410 = true := by decide +kernel
theorem ck_411_0 : mv_chD prog_14_method_119_code 0 tb_411_0 = true := by decide +kernel
theorem ck_411_1 : mv_chD prog_14_method_119_code 100 tb_411_1 = true := by decide +kernel
theorem ck_411 : mv_chD prog_14_method_119_code 0 tb_411 = true := (mv_chD_app _ 0 100 _ (by decide +kernel) ck_411_0 ck_411_1)
theorem ck_412_0 : mv_chD prog_14_method_120_code 0 tb_412_0 = true := by decide +kernel
theorem ck_412_1 : mv_chD prog_14_method_120_code 59 tb_412_1 = true := by decide +kernel
theorem ck_412_2 : mv_chD prog_14_method_120_code 117 tb_412_2 = true := by decide +kernel
theorem ck_412 : mv_chD prog_14_method_120_code 0 tb_412 = true := (mv_chD_app _ 0 59 _ (by decide +kernel) ck_412_0 (mv_chD_app _ 59 117 _ (by decide +kernel) ck_412_1 ck_412_2))
theorem ck_413 : mv_chD prog_14_method_121_code 0 tb_413 = true := by decide +kernel
theorem ck_414_0 : mv_chD prog_14_method_122_code 0 tb_414_0 = true := by decide +kernel
theorem ck_414_1 : mv_chD prog_14_method_122_code 52 tb_414_1 = true := by decide +kernel
theorem ck_414_2 : mv_chD prog_14_method_122_code 107 tb_414_2 = true := by decide +kernel
theorem ck_414 : mv_chD prog_14_method_122_code 0 tb_414 = true := (mv_chD_app _ 0 52 _ (by decide +kernel) ck_414_0 (mv_chD_app _ 52 107 _ (by decide +kernel) ck_414_1 ck_414_2))
theorem ck_415_0 : mv_chD prog_14_method_123_code 0 tb_415_0 = true := by decide +kernel
theorem ck_415_1 : mv_chD prog_14_method_123_code 49 tb_415_1 = true := by decide +kernel
theorem ck_415 : mv_chD prog_14_method_123_code 0 tb_415 = true := (mv_chD_app _ 0 49 _ (by decide +kernel) ck_415_0 ck_415_1)
theorem ck_416_0 : mv_chD prog_14_method_124_code 0 tb_416_0 = true := by decide +kernel
theorem ck_416_1 : mv_chD prog_14_method_124_code 54 tb_416_1 = true := by decide +kernel
theorem ck_416 : mv_chD prog_14_method_124_code 0 tb_416 = true := (mv_chD_app _ 0 54 _ (by decide +kernel) ck_416_0 ck_416_1)
theorem ck_417 : mv_chD prog_14_method_125_code 0 tb_417 = true := by decide +kernel
theorem ck_418 : mv_chD prog_14_method_126_code 0 tb_418 = true := by decide +kernel
theorem ck_419 : mv_chD prog_14_method_127_code 0 tb_419 = true := by decide +kernel
theorem ck_420_0 : mv_chD prog_14_method_128_code 0 tb_420_0 = true := by decide +kernel
theorem ck_420_1 : mv_chD prog_14_method_128_code 50 tb_420_1 = true := by decide +kernel
theorem ck_420_2 : mv_chD prog_14_method_128_code 97 tb_420_2 = true := by decide +kernel
theorem ck_420_3 : mv_chD prog_14_method_128_code 143 tb_420_3 = true := by decide +kernel
theorem ck_420_4 : mv_chD prog_14_method_128_code 192 tb_420_4 = true := by decide +kernel
theorem ck_420_5 : mv_chD prog_14_method_128_code 246 tb_420_5 = true := by decide +kernel
theorem ck_420_6 : mv_chD prog_14_method_128_code 304 tb_420_6 = true := by decide +kernel
theorem ck_420_7 : mv_chD prog_14_method_128_code 356 tb_420_7 = true := by decide +kernel
theorem ck_420_8 : mv_chD prog_14_method_128_code 410 tb_420_8 = true := by decide +kernel
theorem ck_420 : mv_chD prog_14_method_128_code 0 tb_420 = true := (mv_chD_app _ 0 50 _ (by decide +kernel) ck_420_0 (mv_chD_app _ 50 97 _ (by decide +kernel) ck_420_1 (mv_chD_app _ 97 143 _ (by decide +kernel) ck_420_2 (mv_chD_app _ 143 192 _ (by decide +kernel) ck_420_3 (mv_chD_app _ 192 246 _ (by decide +kernel) ck_420_4 (mv_chD_app _ 246 304 _ (by decide +kernel) ck_420_5 (mv_chD_app _ 304 356 _ (by decide +kernel) ck_420_6 (mv_chD_app _ 356 410 _ (by decide +kernel) ck_420_7 ck_420_8))))))))
theorem ck_421 : mv_chD prog_14_method_129_code 0 tb_421 = true := by decide +kernel
theorem ck_422_0 : mv_chD prog_14_method_130_code 0 tb_422_0 = true := by decide +kernel
theorem ck_422_1 : mv_chD prog_14_method_130_code 48 tb_422_1 = true := by decide +kernel
theorem ck_422_2 : mv_chD prog_14_method_130_code 95 tb_422_2 = true := by decide +kernel
theorem ck_422_3 : mv_chD prog_14_method_130_code 145 tb_422_3 = true := by decide +kernel
theorem ck_422_4 : mv_chD prog_14_method_130_code 202 tb_422_4 = true := by decide +kernel
theorem ck_422_5 : mv_chD prog_14_method_130_code 257 tb_422_5 = true := by decide +kernel
theorem ck_422 : mv_chD prog_14_method_130_code 0 tb_422 = true := (mv_chD_app _ 0 48 _ (by decide +kernel) ck_422_0 (mv_chD_app _ 48 95 _ (by decide +kernel) ck_422_1 (mv_chD_app _ 95 145 _ (by decide +kernel) ck_422_2 (mv_chD_app _ 145 202 _ (by decide +kernel) ck_422_3 (mv_chD_app _ 202 257 _ (by decide +kernel) ck_422_4 ck_422_5)))))
theorem ck_423 : mv_chD prog_14_method_131_code 0 tb_423 = true := by decide +kernel
theorem ck_424_0 : mv_chD prog_14_method_132_code 0 tb_424_0 = true := by decide +kernel
theorem ck_424_1 : mv_chD prog_14_method_132_code 48 tb_424_1 = true := by decide +kernel
theorem ck_424_2 : mv_chD prog_14_method_132_code 91 tb_424_2 = true := by decide +kernel
theorem ck_424_3 : mv_chD prog_14_method_132_code 133 tb_424_3 = true := by decide +kernel
theorem ck_424 : mv_chD prog_14_method_132_code 0 tb_424 = true := (mv_chD_app _ 0 48 _ (by decide +kernel) ck_424_0 (mv_chD_app _ 48 91 _ (by decide +kernel) ck_424_1 (mv_chD_app _ 91 133 _ (by decide +kernel) ck_424_2 ck_424_3)))
theorem ck_425_0 : mv_chD prog_14_method_133_code 0 tb_425_0 = true := by decide +kernel
theorem ck_425_1 : mv_chD prog_14_method_133_code 53 tb_425_1 = true := by decide +kernel
theorem ck_425_2 : mv_chD prog_14_method_133_code 103 tb_425_2 = true := by decide +kernel
theorem ck_425 : mv_chD prog_14_method_133_code 0 tb_425 = true := (mv_chD_app _ 0 53 _ (by decide +kernel) ck_425_0 (mv_chD_app _ 53 103 _ (by decide +kernel) ck_425_1 ck_425_2))
theorem ck_426 : mv_chD prog_14_method_134_code 0 tb_426 = true := by decide +kernel
theorem ck_427_0 : mv_chD prog_14_method_135_code 0 tb_427_0 = true := by decide +kernel
theorem ck_427_1 : mv_chD prog_14_method_135_code 48 tb_427_1 = true := by decide +kernel
theorem ck_427_2 : mv_chD prog_14_method_135_code 92 tb_427_2 = true := by decide +kernel
theorem ck_427_3 : mv_chD prog_14_method_135_code 139 tb_427_3 = true := by decide +kernel
theorem ck_427_4 : mv_chD prog_14_method_135_code 190 tb_427_4 = true := by decide +kernel
theorem ck_427 : mv_chD prog_14_method_135_code 0 tb_427 = true := (mv_chD_app _ 0 48 _ (by decide +kernel) ck_427_0 (mv_chD_app _ 48 92 _ (by decide +kernel) ck_427_1 (mv_chD_app _ 92 139 _ (by decide +kernel) ck_427_2 (mv_chD_app _ 139 190 _ (by decide +kernel) ck_427_3 ck_427_4))))
theorem ck_428_0 : mv_chD prog_14_method_136_code 0 tb_428_0 = true := by decide +kernel
theorem ck_428_1 : mv_chD prog_14_method_136_code 109 tb_428_1 = true := by decide +kernel
theorem ck_428_2 : mv_chD prog_14_method_136_code 160 tb_428_2 = true := by decide +kernel
theorem ck_428_3 : mv_chD prog_14_method_136_code 222 tb_428_3 = true := by decide +kernel
theorem ck_428_4 : mv_chD prog_14_method_136_code 281 tb_428_4 = true := by decide +kernel
theorem ck_428 : mv_chD prog_14_method_136_code 0 tb_428 = true := (mv_chD_app _ 0 109 _ (by decide +kernel) ck_428_0 (mv_chD_app _ 109 160 _ (by decide +kernel) ck_428_1 (mv_chD_app _ 160 222 _ (by decide +kernel) ck_428_2 (mv_chD_app _ 222 281 _ (by decide +kernel) ck_428_3 ck_428_4))))
theorem ck_429 : mv_chD prog_14_method_137_code 0 tb_429 = true := by decide +kernel
theorem ck_430 : mv_chD prog_14_method_138_code 0 tb_430 = true := by decide +kernel
theorem ck_431_0 : mv_chD prog_14_method_139_code 0 tb_431_0 = true := by decide +kernel
theorem ck_431_1 : mv_chD prog_14_method_139_code 52 tb_431_1 = true := by decide +kernel
theorem ck_431_2 : mv_chD prog_14_method_139_code 108 tb_431_2 = true := by decide +kernel
theorem ck_431_3 : mv_chD prog_14_method_139_code 162 tb_431_3 = true := by decide +kernel
theorem ck_431 : mv_chD prog_14_method_139_code 0 tb_431 = true := (mv_chD_app _ 0 52 _ (by decide +kernel) ck_431_0 (mv_chD_app _ 52 108 _ (by decide +kernel) ck_431_1 (mv_chD_app _ 108 162 _ (by decide +kernel) ck_431_2 ck_431_3)))
theorem ck_432 : mv_chD prog_14_method_140_code 0 tb_432 = true := by decide +kernel
theorem ck_433_0 : mv_chD prog_14_method_141_code 0 tb_433_0 = true := by decide +kernel
theorem ck_433_1 : mv_chD prog_14_method_141_code 46 tb_433_1 = true := by decide +kernel
theorem ck_433 : mv_chD prog_14_method_141_code 0 tb_433 = true := (mv_chD_app _ 0 46 _ (by decide +kernel) ck_433_0 ck_433_1)
theorem ck_434 : mv_chD prog_14_method_142_code 0 tb_434 = true := by decide +kernel
theorem ck_435_0 : mv_chD prog_14_method_143_code 0 tb_435_0 = true := by decide +kernel
theorem ck_435_1 : mv_chD prog_14_method_143_code 103 tb_435_1 = true := by decide +kernel
theorem ck_435_2 : mv_chD prog_14_method_143_code 163 tb_435_2 = true := by decide +kernel
theorem ck_435_3 : mv_chD prog_14_method_143_code 217 tb_435_3 = true := by decide +kernel
theorem ck_435_4 : mv_chD prog_14_method_143_code 264 tb_435_4 = true := by decide +kernel
theorem ck_435 : mv_chD prog_14_method_143_code 0 tb_435 = true := (mv_chD_app _ 0 103 _ (by decide +kernel) ck_435_0 (mv_chD_app _ 103 163 _ (by decide +kernel) ck_435_1 (mv_chD_app _ 163 217 _ (by decide +kernel) ck_435_2 (mv_chD_app _ 217 264 _ (by decide +kernel) ck_435_3 ck_435_4))))
theorem ck_436 : mv_chD prog_14_method_144_code 0 tb_436 = true := by decide +kernel
theorem ck_437_0 : mv_chD prog_14_method_145_code 0 tb_437_0 = true := by decide +kernel
theorem ck_437_1 : mv_chD prog_14_method_145_code 52 tb_437_1 = true := by decide +kernel
theorem ck_437 : mv_chD prog_14_method_145_code 0 tb_437 = true := (mv_chD_app _ 0 52 _ (by decide +kernel) ck_437_0 ck_437_1)
theorem ck_438_0 : mv_chD prog_14_method_146_code 0 tb_438_0 = true := by decide +kernel
theorem ck_438_1 : mv_chD prog_14_method_146_code 51 tb_438_1 = true := by decide +kernel
theorem ck_438_2 : mv_chD prog_14_method_146_code 108 tb_438_2 = true := by decide +kernel
theorem ck_438 : mv_chD prog_14_method_146_code 0 tb_438 = true := (mv_chD_app _ 0 51 _ (by decide +kernel) ck_438_0 (mv_chD_app _ 51 108 _ (by decide +kernel) ck_438_1 ck_438_2))
theorem ck_439 : mv_chD prog_14_method_147_code 0 tb_439 = true := by decide +kernel
theorem ck_440_0 : mv_chD prog_14_method_148_code 0 tb_440_0 = true := by decide +kernel
theorem ck_440_1 : mv_chD prog_14_method_148_code 58 tb_440_1 = true := by decide +kernel
theorem ck_440_2 : mv_chD prog_14_method_148_code 117 tb_440_2 = true := by decide +kernel
theorem ck_440 : mv_chD prog_14_method_148_code 0 tb_440 = true := (mv_chD_app _ 0 58 _ (by decide +kernel) ck_440_0 (mv_chD_app _ 58 117 _ (by decide +kernel) ck_440_1 ck_440_2))
theorem ck_441_0 : mv_chD prog_14_method_149_code 0 tb_441_0 = true := by decide +kernel
theorem ck_441_1 : mv_chD prog_14_method_149_code 54 tb_441_1 = true := by decide +kernel
theorem ck_441 : mv_chD prog_14_method_149_code 0 tb_441 = true := (mv_chD_app _ 0 54 _ (by decide +kernel) ck_441_0 ck_441_1)
theorem ck_442 : mv_chD prog_14_method_150_code 0 tb_442 = true := by decide +kernel
theorem ck_443_0 : mv_chD prog_14_method_151_code 0 tb_443_0 = true := by decide +kernel
theorem ck_443_1 : mv_chD prog_14_method_151_code 99 tb_443_1 = true := by decide +kernel
theorem ck_443_2 : mv_chD prog_14_method_151_code 152 tb_443_2 = true := by decide +kernel
theorem ck_443_3 : mv_chD prog_14_method_151_code 204 tb_443_3 = true := by decide +kernel
theorem ck_443_4 : mv_chD prog_14_method_151_code 256 tb_443_4 = true := by decide +kernel
theorem ck_443 : mv_chD prog_14_method_151_code 0 tb_443 = true := (mv_chD_app _ 0 99 _ (by decide +kernel) ck_443_0 (mv_chD_app _ 99 152 _ (by decide +kernel) ck_443_1 (mv_chD_app _ 152 204 _ (by decide +kernel) ck_443_2 (mv_chD_app _ 204 256 _ (by decide +kernel) ck_443_3 ck_443_4))))
theorem ck_444_0 : mv_chD prog_14_method_152_code 0 tb_444_0 = true := by decide +kernel
theorem ck_444_1 : mv_chD prog_14_method_152_code 56 tb_444_1 = true := by decide +kernel
theorem ck_444 : mv_chD prog_14_method_152_code 0 tb_444 = true := (mv_chD_app _ 0 56 _ (by decide +kernel) ck_444_0 ck_444_1)
theorem ck_445 : mv_chD prog_14_method_153_code 0 tb_445 = true := by decide +kernel
theorem ck_446_0 : mv_chD prog_14_method_154_code 0 tb_446_0 = true := by decide +kernel
theorem ck_446_1 : mv_chD prog_14_method_154_code 56 tb_446_1 = true := by decide +kernel
theorem ck_446 : mv_chD prog_14_method_154_code 0 tb_446 = true := (mv_chD_app _ 0 56 _ (by decide +kernel) ck_446_0 ck_446_1)
theorem ck_447 : mv_chD prog_14_method_155_code 0 tb_447 = true := by decide +kernel
theorem ck_448_0 : mv_chD prog_14_method_156_code 0 tb_448_0 = true := by decide +kernel
theorem ck_448_1 : mv_chD prog_14_method_156_code 51 tb_448_1 = true := by decide +kernel
theorem ck_448 : mv_chD prog_14_method_156_code 0 tb_448 = true := (mv_chD_app _ 0 51 _ (by decide +kernel) ck_448_0 ck_448_1)
theorem ck_449_0 : mv_chD prog_14_method_157_code 0 tb_449_0 = true := by decide +kernel
theorem ck_449_1 : mv_chD prog_14_method_157_code 78 tb_449_1 = true := by decide +kernel
theorem ck_449 : mv_chD prog_14_method_157_code 0 tb_449 = true := (mv_chD_app _ 0 78 _ (by decide +kernel) ck_449_0 ck_449_1)
theorem ck_450_0 : mv_chD prog_14_method_158_code 0 tb_450_0 = true := by decide +kernel
theorem ck_450_1 : mv_chD prog_14_method_158_code 52 tb_450_1 = true := by decide +kernel
theorem ck_450_2 : mv_chD prog_14_method_158_code 110 tb_450_2 = true := by decide +kernel
theorem ck_450 : mv_chD prog_14_method_158_code 0 tb_450 = true := (mv_chD_app _ 0 52 _ (by decide +kernel) ck_450_0 (mv_chD_app _ 52 110 _ (by decide +kernel) ck_450_1 ck_450_2))
theorem ck_451 : mv_chD prog_14_method_159_code 0 tb_451 = true := by decide +kernel
theorem ck_452 : mv_chD prog_14_method_160_code 0 tb_452 = true := by decide +kernel
theorem ck_453 : mv_chD prog_14_method_161_code 0 tb_453 = true := by decide +kernel
theorem ck_454_0 : mv_chD prog_14_method_162_code 0 tb_454_0 = true := by decide +kernel
theorem ck_454_1 : mv_chD prog_14_method_162_code 48 tb_454_1 = true := by decide +kernel
theorem ck_454_2 : mv_chD prog_14_method_162_code 95 tb_454_2 = true := by decide +kernel
theorem ck_454_3 : mv_chD prog_14_method_162_code 142 tb_454_3 = true := by decide +kernel
theorem ck_454 : mv_chD prog_14_method_162_code 0 tb_454 = true := (mv_chD_app _ 0 48 _ (by decide +kernel) ck_454_0 (mv_chD_app _ 48 95 _ (by decide +kernel) ck_454_1 (mv_chD_app _ 95 142 _ (by decide +kernel) ck_454_2 ck_454_3)))
theorem ck_455 : mv_chD prog_14_method_163_code 0 tb_455 = true := by decide +kernel
theorem ck_456_0 : mv_chD prog_14_method_164_code 0 tb_456_0 = true := by decide +kernel
theorem ck_456_1 : mv_chD prog_14_method_164_code 48 tb_456_1 = true := by decide +kernel
theorem ck_456 : mv_chD prog_14_method_164_code 0 tb_456 = true := (mv_chD_app _ 0 48 _ (by decide +kernel) ck_456_0 ck_456_1)
theorem ck_457_0 : mv_chD prog_14_method_165_code 0 tb_457_0 = true := by decide +kernel
theorem ck_457_1 : mv_chD prog_14_method_165_code 52 tb_457_1 = true := by decide +kernel
theorem ck_457_2 : mv_chD prog_14_method_165_code 104 tb_457_2 = true := by decide +kernel
theorem ck_457_3 : mv_chD prog_14_method_165_code 153 tb_457_3 = true := by decide +kernel
theorem ck_457 : mv_chD prog_14_method_165_code 0 tb_457 = true := (mv_chD_app _ 0 52 _ (by decide +kernel) ck_457_0 (mv_chD_app _ 52 104 _ (by decide +kernel) ck_457_1 (mv_chD_app _ 104 153 _ (by decide +kernel) ck_457_2 ck_457_3)))
theorem ck_458 : mv_chD prog_14_method_166_code 0 tb_458 = true := by decide +kernel
theorem ck_459_0 : mv_chD prog_14_method_167_code 0 tb_459_0 = true := by decide +kernel
theorem ck_459_1 : mv_chD prog_14_method_167_code 56 tb_459_1 = true := by decide +kernel
theorem ck_459 : mv_chD prog_14_method_167_code 0 tb_459 = true := (mv_chD_app _ 0 56 _ (by decide +kernel) ck_459_0 ck_459_1)
theorem ck_460_0 : mv_chD prog_14_method_168_code 0 tb_460_0 = true := by decide +kernel
theorem ck_460_1 : mv_chD prog_14_method_168_code 52 tb_460_1 = true := by decide +kernel
theorem ck_460_2 : mv_chD prog_14_method_168_code 100 tb_460_2 = true := by decide +kernel
theorem ck_460 : mv_chD prog_14_method_168_code 0 tb_460 = true := (mv_chD_app _ 0 52 _ (by decide +kernel) ck_460_0 (mv_chD_app _ 52 100 _ (by decide +kernel) ck_460_1 ck_460_2))
theorem ck_461_0 : mv_chD prog_14_method_169_code 0 tb_461_0 = true := by decide +kernel
theorem ck_461_1 : mv_chD prog_14_method_169_code 55 tb_461_1 = true := by decide +kernel
theorem ck_461 : mv_chD prog_14_method_169_code 0 tb_461 = true := (mv_chD_app _ 0 55 _ (by decide +kernel) ck_461_0 ck_461_1)
theorem ck_462_0 : mv_chD prog_14_method_170_code 0 tb_462_0 = true := by decide +kernel
theorem ck_462_1 : mv_chD prog_14_method_170_code 96 tb_462_1 = true := by decide +kernel
theorem ck_462_2 : mv_chD prog_14_method_170_code 150 tb_462_2 = true := by decide +kernel
theorem ck_462_3 : mv_chD prog_14_method_170_code 200 tb_462_3 = true := by decide +kernel
theorem ck_462 : mv_chD prog_14_method_170_code 0 tb_462 = true := (mv_chD_app _ 0 96 _ (by decide +kernel) ck_462_0 (mv_chD_app _ 96 150 _ (by decide +kernel) ck_462_1 (mv_chD_app _ 150 200 _ (by decide +kernel) ck_462_2 ck_462_3)))
theorem ck_463 : mv_chD prog_14_method_171_code 0 tb_463 = true := by decide +kernel
theorem ck_464 : mv_chD prog_14_method_172_code 0 tb_464 = true := by decide +kernel
theorem ck_465 : mv_chD prog_14_method_173_code 0 tb_465 = true := by decide +kernel
theorem ck_466_0 : mv_chD prog_14_method_174_code 0 tb_466_0 = true := by decide +kernel
theorem ck_466_1 : mv_chD prog_14_method_174_code 53 tb_466_1 = true := by decide +kernel
theorem ck_466_2 : mv_chD prog_14_method_174_code 104 tb_466_2 = true := by decide +kernel
theorem ck_466 : mv_chD prog_14_method_174_code 0 tb_466 = true := (mv_chD_app _ 0 53 _ (by decide +kernel) ck_466_0 (mv_chD_app _ 53 104 _ (by decide +kernel) ck_466_1 ck_466_2))
theorem ck_467 : mv_chD prog_14_method_175_code 0 tb_467 = true := by decide +kernel
theorem ck_468_0 : mv_chD prog_14_method_176_code 0 tb_468_0 = true := by decide +kernel
theorem ck_468_1 : mv_chD prog_14_method_176_code 43 tb_468_1 = true := by decide +kernel
theorem ck_468_2 : mv_chD prog_14_method_176_code 94 tb_468_2 = true := by decide +kernel
theorem ck_468_3 : mv_chD prog_14_method_176_code 147 tb_468_3 = true := by decide +kernel
theorem ck_468_4 : mv_chD prog_14_method_176_code 198 tb_468_4 = true := by decide +kernel
theorem ck_468_5 : mv_chD prog_14_method_176_code 253 tb_468_5 = true := by decide +kernel
theorem ck_468_6 : mv_chD prog_14_method_176_code 302 tb_468_6 = true := by decide +kernel
theorem ck_468 : mv_chD prog_14_method_176_code 0 tb_468 = true := (mv_chD_app _ 0 43 _ (by decide +kernel) ck_468_0 (mv_chD_app _ 43 94 _ (by decide +kernel) ck_468_1 (mv_chD_app _ 94 147 _ (by decide +kernel) ck_468_2 (mv_chD_app _ 147 198 _ (by decide +kernel) ck_468_3 (mv_chD_app _ 198 253 _ (by decide +kernel) ck_468_4 (mv_chD_app _ 253 302 _ (by decide +kernel) ck_468_5 ck_468_6))))))
theorem ck_469 : mv_chD prog_14_method_177_code 0 tb_469 = true := by decide +kernel
theorem ck_470_0 : mv_chD prog_14_method_178_code 0 tb_470_0 = true := by decide +kernel
theorem ck_470_1 : mv_chD prog_14_method_178_code 56 tb_470_1 = true := by decide +kernel
theorem ck_470_2 : mv_chD prog_14_method_178_code 110 tb_470_2 = true := by decide +kernel
theorem ck_470 : mv_chD prog_14_method_178_code 0 tb_470 = true := (mv_chD_app _ 0 56 _ (by decide +kernel) ck_470_0 (mv_chD_app _ 56 110 _ (by decide +kernel) ck_470_1 ck_470_2))
theorem ck_471_0 : mv_chD prog_14_method_179_code 0 tb_471_0 = true := by decide +kernel
theorem ck_471_1 : mv_chD prog_14_method_179_code 54 tb_471_1 = true := by decide +kernel
theorem ck_471_2 : mv_chD prog_14_method_179_code 108 tb_471_2 = true := by decide +kernel
theorem ck_471_3 : mv_chD prog_14_method_179_code 161 tb_471_3 = true := by decide +kernel
theorem ck_471 : mv_chD prog_14_method_179_code 0 tb_471 = true := (mv_chD_app _ 0 54 _ (by decide +kernel) ck_471_0 (mv_chD_app _ 54 108 _ (by decide +kernel) ck_471_1 (mv_chD_app _ 108 161 _ (by decide +kernel) ck_471_2 ck_471_3)))
theorem ck_472_0 : mv_chD prog_14_method_180_code 0 tb_472_0 = true := by decide +kernel
theorem ck_472_1 : mv_chD prog_14_method_180_code 50 tb_472_1 = true := by decide +kernel
theorem ck_472 : mv_chD prog_14_method_180_code 0 tb_472 = true := (mv_chD_app _ 0 50 _ (by decide +kernel) ck_472_0 ck_472_1)
theorem ck_473 : mv_chD prog_14_method_181_code 0 tb_473 = true := by decide +kernel
theorem ck_474_0 : mv_chD prog_14_method_182_code 0 tb_474_0 = true := by decide +kernel
theorem ck_474_1 : mv_chD prog_14_method_182_code 60 tb_474_1 = true := by decide +kernel
theorem ck_474 : mv_chD prog_14_method_182_code 0 tb_474 = true := (mv_chD_app _ 0 60 _ (by decide +kernel) ck_474_0 ck_474_1)
theorem ck_475 : mv_chD prog_14_method_183_code 0 tb_475 = true := by decide +kernel
theorem ck_476_0 : mv_chD prog_14_method_184_code 0 tb_476_0 = true := by decide +kernel
theorem ck_476_1 : mv_chD prog_14_method_184_code 66 tb_476_1 = true := by decide +kernel
theorem ck_476 : mv_chD prog_14_method_184_code 0 tb_476 = true := (mv_chD_app _ 0 66 _ (by decide +kernel) ck_476_0 ck_476_1)
theorem ck_477 : mv_chD prog_14_method_185_code 0 tb_477 = true := by decide +kernel
theorem ck_478_0 : mv_chD prog_14_method_186_code 0 tb_478_0 = true := by decide +kernel
theorem ck_478_1 : mv_chD prog_14_method_186_code 58 tb_478_1 = true := by decide +kernel
theorem ck_478 : mv_chD prog_14_method_186_code 0 tb_478 = true := (mv_chD_app _ 0 58 _ (by decide +kernel) ck_478_0 ck_478_1)
theorem ck_479_0 : mv_chD prog_14_method_187_code 0 tb_479_0 = true := by decide +kernel
theorem ck_479_1 : mv_chD prog_14_method_187_code 53 tb_479_1 = true := by decide +kernel
theorem ck_479 : mv_chD prog_14_method_187_code 0 tb_479 = true := (mv_chD_app _ 0 53 _ (by decide +kernel) ck_479_0 ck_479_1)
theorem ck_480_0 : mv_chD prog_14_method_188_code 0 tb_480_0 = true := by decide +kernel
theorem ck_480_1 : mv_chD prog_14_method_188_code 52 tb_480_1 = true := by decide +kernel
theorem ck_480_2 : mv_chD prog_14_method_188_code 108 tb_480_2 = true := by decide +kernel
theorem ck_480_3 : mv_chD prog_14_method_188_code 162 tb_480_3 = true := by decide +kernel
theorem ck_480_4 : mv_chD prog_14_method_188_code 216 tb_480_4 = true := by decide +kernel
theorem ck_480 : mv_chD prog_14_method_188_code 0 tb_480 = true := (mv_chD_app _ 0 52 _ (by decide +kernel) ck_480_0 (mv_chD_app _ 52 108 _ (by decide +kernel) ck_480_1 (mv_chD_app _ 108 162 _ (by decide +kernel) ck_480_2 (mv_chD_app _ 162 216 _ (by decide +kernel) ck_480_3 ck_480_4))))
theorem ck_481 : mv_chD prog_14_method_189_code 0 tb_481 = true := by decide +kernel
theorem ck_482 : mv_chD prog_14_method_190_code 0 tb_482 = true := by decide +kernel
theorem ck_483 : mv_chD prog_14_method_191_code 0 tb_483 = true := by decide +kernel
theorem ck_484_0 : mv_chD prog_14_method_192_code 0 tb_484_0 = true := by decide +kernel
theorem ck_484_1 : mv_chD prog_14_method_192_code 78 tb_484_1 = true := by decide +kernel
theorem ck_484 : mv_chD prog_14_method_192_code 0 tb_484 = true := (mv_chD_app _ 0 78 _ (by decide +kernel) ck_484_0 ck_484_1)
theorem ck_485_0 : mv_chD prog_14_method_193_code 0 tb_485_0 = true := by decide +kernel
theorem ck_485_1 : mv_chD prog_14_method_193_code 91 tb_485_1 = true := by decide +kernel
theorem ck_485_2 : mv_chD prog_14_method_193_code 135 tb_485_2 = true := by decide +kernel
theorem ck_485 : mv_chD prog_14_method_193_code 0 tb_485 = true := (mv_chD_app _ 0 91 _ (by decide +kernel) ck_485_0 (mv_chD_app _ 91 135 _ (by decide +kernel) ck_485_1 ck_485_2))
theorem ck_486_0 : mv_chD prog_14_method_194_code 0 tb_486_0 = true := by decide +kernel
theorem ck_486_1 : mv_chD prog_14_method_194_code 110 tb_486_1 = true := by decide +kernel
theorem ck_486 : mv_chD prog_14_method_194_code 0 tb_486 = true := (mv_chD_app _ 0 110 _ (by decide +kernel) ck_486_0 ck_486_1)
theorem ck_487 : mv_chD prog_14_method_195_code 0 tb_487 = true := by decide +kernel
theorem ck_488_0 : mv_chD prog_20_method_30_code 0 tb_488_0 = true := by decide +kernel
theorem ck_488_1 : mv_chD prog_20_method_30_code 61 tb_488_1 = true := by decide +kernel
theorem ck_488 : mv_chD prog_20_method_30_code 0 tb_488 = true := (mv_chD_app _ 0 61 _ (by decide +kernel) ck_488_0 ck_488_1)
theorem ck_489 : mv_chD prog_20_method_103_code 0 tb_489 = true := by decide +kernel
theorem ck_490 : mv_chD prog_20_method_104_code 0 tb_490 = true := by decide +kernel
theorem ck_491 : mv_chD prog_20_method_110_code 0 tb_491 = true := by decide +kernel
theorem ck_492 : mv_chD prog_16_method_54_code 0 tb_492 = true := by decide +kernel
theorem ck_493 : mv_chD prog_16_method_56_code 0 tb_493 = true := by decide +kernel
theorem ch_D0 : (tbs_0.zip mt_ml0).all (fun q => mv_chD q.2.2.2.1 0 q.1) = true := (mv_allC ck_0 (mv_allC ck_1 (mv_allC ck_2 (mv_allC ck_3 (mv_allC ck_4 (mv_allC ck_5 (mv_allC ck_6 (mv_allC ck_7 (mv_allC ck_8 (mv_allC ck_9 (mv_allC ck_10 (mv_allC ck_11 (mv_allC ck_12 (mv_allC ck_13 (mv_allC ck_14 (mv_allC ck_15 (mv_allC ck_16 (mv_allC ck_17 (mv_allC ck_18 (mv_allC ck_19 (mv_allC ck_20 (mv_allC ck_21 (mv_allC ck_22 (mv_allC ck_23 (mv_allC ck_24 (mv_allC ck_25 (mv_allC ck_26 (mv_allC ck_27 (mv_allC ck_28 (mv_allC ck_29 (mv_allC ck_30 (mv_allC ck_31 (mv_allC ck_32 (mv_allC ck_33 (mv_allC ck_34 (mv_allC ck_35 (mv_allC ck_36 (mv_allC ck_37 (mv_allC ck_38 (mv_allC ck_39 mv_all0))))))))))))))))))))))))))))))))))))))))
theorem ch_L0 : tbs_0.length = mt_ml0.length := by decide +kernel
theorem ch_D1 : (tbs_1.zip mt_ml1).all (fun q => mv_chD q.2.2.2.1 0 q.1) = true := (mv_allC ck_40 (mv_allC ck_41 (mv_allC ck_42 (mv_allC ck_43 (mv_allC ck_44 (mv_allC ck_45 (mv_allC ck_46 (mv_allC ck_47 (mv_allC ck_48 (mv_allC ck_49 (mv_allC ck_50 (mv_allC ck_51 (mv_allC ck_52 (mv_allC ck_53 (mv_allC ck_54 (mv_allC ck_55 (mv_allC ck_56 (mv_allC ck_57 (mv_allC ck_58 (mv_allC ck_59 (mv_allC ck_60 (mv_allC ck_61 (mv_allC ck_62 (mv_allC ck_63 (mv_allC ck_64 (mv_allC ck_65 (mv_allC ck_66 (mv_allC ck_67 (mv_allC ck_68 (mv_allC ck_69 (mv_allC ck_70 (mv_allC ck_71 (mv_allC ck_72 (mv_allC ck_73 (mv_allC ck_74 (mv_allC ck_75 (mv_allC ck_76 (mv_allC ck_77 (mv_allC ck_78 (mv_allC ck_79 mv_all0))))))))))))))))))))))))))))))))))))))))
theorem ch_L1 : tbs_1.length = mt_ml1.length := by decide +kernel
theorem ch_D2 : (tbs_2.zip mt_ml2).all (fun q => mv_chD q.2.2.2.1 0 q.1) = true := (mv_allC ck_80 (mv_allC ck_81 (mv_allC ck_82 (mv_allC ck_83 (mv_allC ck_84 (mv_allC ck_85 (mv_allC ck_86 (mv_allC ck_87 (mv_allC ck_88 (mv_allC ck_89 (mv_allC ck_90 (mv_allC ck_91 (mv_allC ck_92 (mv_allC ck_93 (mv_allC ck_94 (mv_allC ck_95 (mv_allC ck_96 (mv_allC ck_97 (mv_allC ck_98 (mv_allC ck_99 (mv_allC ck_100 (mv_allC ck_101 (mv_allC ck_102 (mv_allC ck_103 (mv_allC ck_104 (mv_allC ck_105 (mv_allC ck_106 (mv_allC ck_107 (mv_allC ck_108 (mv_allC ck_109 (mv_allC ck_110 (mv_allC ck_111 (mv_allC ck_112 (mv_allC ck_113 (mv_allC ck_114 (mv_allC ck_115 (mv_allC ck_116 (mv_allC ck_117 (mv_allC ck_118 (mv_allC ck_119 mv_all0))))))))))))))))))))))))))))))))))))))))
theorem ch_L2 : tbs_2.length = mt_ml2.length := by decide +kernel
theorem ch_D3 : (tbs_3.zip mt_ml3).all (fun q => mv_chD q.2.2.2.1 0 q.1) = true := (mv_allC ck_120 (mv_allC ck_121 (mv_allC ck_122 (mv_allC ck_123 (mv_allC ck_124 (mv_allC ck_125 (mv_allC ck_126 (mv_allC ck_127 (mv_allC ck_128 (mv_allC ck_129 (mv_allC ck_130 (mv_allC ck_131 (mv_allC ck_132 (mv_allC ck_133 (mv_allC ck_134 (mv_allC ck_135 (mv_allC ck_136 (mv_allC ck_137 (mv_allC ck_138 (mv_allC ck_139 (mv_allC ck_140 (mv_allC ck_141 (mv_allC ck_142 (mv_allC ck_143 (mv_allC ck_144 (mv_allC ck_145 (mv_allC ck_146 (mv_allC ck_147 (mv_allC ck_148 (mv_allC ck_149 (mv_allC ck_150 (mv_allC ck_151 (mv_allC ck_152 (mv_allC ck_153 (mv_allC ck_154 (mv_allC ck_155 (mv_allC ck_156 (mv_allC ck_157 (mv_allC ck_158 (mv_allC ck_159 mv_all0))))))))))))))))))))))))))))))))))))))))
theorem ch_L3 : tbs_3.length = mt_ml3.length := by decide +kernel
theorem ch_D4 : (tbs_4.zip mt_ml4).all (fun q => mv_chD q.2.2.2.1 0 q.1) = true := (mv_allC ck_160 (mv_allC ck_161 (mv_allC ck_162 (mv_allC ck_163 (mv_allC ck_164 (mv_allC ck_165 (mv_allC ck_166 (mv_allC ck_167 (mv_allC ck_168 (mv_allC ck_169 (mv_allC ck_170 (mv_allC ck_171 (mv_allC ck_172 (mv_allC ck_173 (mv_allC ck_174 (mv_allC ck_175 (mv_allC ck_176 (mv_allC ck_177 (mv_allC ck_178 (mv_allC ck_179 (mv_allC ck_180 (mv_allC ck_181 (mv_allC ck_182 (mv_allC ck_183 (mv_allC ck_184 (mv_allC ck_185 (mv_allC ck_186 (mv_allC ck_187 (mv_allC ck_188 (mv_allC ck_189 (mv_allC ck_190 (mv_allC ck_191 (mv_allC ck_192 (mv_allC ck_193 (mv_allC ck_194 (mv_allC ck_195 (mv_allC ck_196 (mv_allC ck_197 (mv_allC ck_198 (mv_allC ck_199 mv_all0))))))))))))))))))))))))))))))))))))))))
theorem ch_L4 : tbs_4.length = mt_ml4.length := by decide +kernel
theorem ch_D5 : (tbs_5.zip mt_ml5).all (fun q => mv_chD q.2.2.2.1 0 q.1) = true := (mv_allC ck_200 (mv_allC ck_201 (mv_allC ck_202 (mv_allC ck_203 (mv_allC ck_204 (mv_allC ck_205 (mv_allC ck_206 (mv_allC ck_207 (mv_allC ck_208 (mv_allC ck_209 (mv_allC ck_210 (mv_allC ck_211 (mv_allC ck_212 (mv_allC ck_213 (mv_allC ck_214 (mv_allC ck_215 (mv_allC ck_216 (mv_allC ck_217 (mv_allC ck_218 (mv_allC ck_219 (mv_allC ck_220 (mv_allC ck_221 (mv_allC ck_222 (mv_allC ck_223 (mv_allC ck_224 (mv_allC ck_225 (mv_allC ck_226 (mv_allC ck_227 (mv_allC ck_228 (mv_allC ck_229 (mv_allC ck_230 (mv_allC ck_231 (mv_allC ck_232 (mv_allC ck_233 (mv_allC ck_234 (mv_allC ck_235 (mv_allC ck_236 (mv_allC ck_237 (mv_allC ck_238 (mv_allC ck_239 mv_all0))))))))))))))))))))))))))))))))))))))))
theorem ch_L5 : tbs_5.length = mt_ml5.length := by decide +kernel
theorem ch_D6 : (tbs_6.zip mt_ml6).all (fun q => mv_chD q.2.2.2.1 0 q.1) = true := (mv_allC ck_240 (mv_allC ck_241 (mv_allC ck_242 (mv_allC ck_243 (mv_allC ck_244 (mv_allC ck_245 (mv_allC ck_246 (mv_allC ck_247 (mv_allC ck_248 (mv_allC ck_249 (mv_allC ck_250 (mv_allC ck_251 (mv_allC ck_252 (mv_allC ck_253 (mv_allC ck_254 (mv_allC ck_255 (mv_allC ck_256 (mv_allC ck_257 (mv_allC ck_258 (mv_allC ck_259 (mv_allC ck_260 (mv_allC ck_261 (mv_allC ck_262 (mv_allC ck_263 (mv_allC ck_264 (mv_allC ck_265 (mv_allC ck_266 (mv_allC ck_267 (mv_allC ck_268 (mv_allC ck_269 (mv_allC ck_270 (mv_allC ck_271 (mv_allC ck_272 (mv_allC ck_273 (mv_allC ck_274 (mv_allC ck_275 (mv_allC ck_276 (mv_allC ck_277 (mv_allC ck_278 (mv_allC ck_279 mv_all0))))))))))))))))))))))))))))))))))))))))
theorem ch_L6 : tbs_6.length = mt_ml6.length := by decide +kernel
theorem ch_D7 : (tbs_7.zip mt_ml7).all (fun q => mv_chD q.2.2.2.1 0 q.1) = true := (mv_allC ck_280 (mv_allC ck_281 (mv_allC ck_282 (mv_allC ck_283 (mv_allC ck_284 (mv_allC ck_285 (mv_allC ck_286 (mv_allC ck_287 (mv_allC ck_288 (mv_allC ck_289 (mv_allC ck_290 (mv_allC ck_291 (mv_allC ck_292 (mv_allC ck_293 (mv_allC ck_294 (mv_allC ck_295 (mv_allC ck_296 (mv_allC ck_297 (mv_allC ck_298 (mv_allC ck_299 (mv_allC ck_300 (mv_allC ck_301 (mv_allC ck_302 (mv_allC ck_303 (mv_allC ck_304 (mv_allC ck_305 (mv_allC ck_306 (mv_allC ck_307 (mv_allC ck_308 (mv_allC ck_309 (mv_allC ck_310 (mv_allC ck_311 (mv_allC ck_312 (mv_allC ck_313 (mv_allC ck_314 (mv_allC ck_315 (mv_allC ck_316 (mv_allC ck_317 (mv_allC ck_318 (mv_allC ck_319 mv_all0))))))))))))))))))))))))))))))))))))))))
theorem ch_L7 : tbs_7.length = mt_ml7.length := by decide +kernel
theorem ch_D8 : (tbs_8.zip mt_ml8).all (fun q => mv_chD q.2.2.2.1 0 q.1) = true := (mv_allC ck_320 (mv_allC ck_321 (mv_allC ck_322 (mv_allC ck_323 (mv_allC ck_324 (mv_allC ck_325 (mv_allC ck_326 (mv_allC ck_327 (mv_allC ck_328 (mv_allC ck_329 (mv_allC ck_330 (mv_allC ck_331 (mv_allC ck_332 (mv_allC ck_333 (mv_allC ck_334 (mv_allC ck_335 (mv_allC ck_336 (mv_allC ck_337 (mv_allC ck_338 (mv_allC ck_339 (mv_allC ck_340 (mv_allC ck_341 (mv_allC ck_342 (mv_allC ck_343 (mv_allC ck_344 (mv_allC ck_345 (mv_allC ck_346 (mv_allC ck_347 (mv_allC ck_348 (mv_allC ck_349 (mv_allC ck_350 (mv_allC ck_351 (mv_allC ck_352 (mv_allC ck_353 (mv_allC ck_354 (mv_allC ck_355 (mv_allC ck_356 (mv_allC ck_357 (mv_allC ck_358 (mv_allC ck_359 mv_all0))))))))))))))))))))))))))))))))))))))))
theorem ch_L8 : tbs_8.length = mt_ml8.length := by decide +kernel
theorem ch_D9 : (tbs_9.zip mt_ml9).all (fun q => mv_chD q.2.2.2.1 0 q.1) = true := (mv_allC ck_360 (mv_allC ck_361 (mv_allC ck_362 (mv_allC ck_363 (mv_allC ck_364 (mv_allC ck_365 (mv_allC ck_366 (mv_allC ck_367 (mv_allC ck_368 (mv_allC ck_369 (mv_allC ck_370 (mv_allC ck_371 (mv_allC ck_372 (mv_allC ck_373 (mv_allC ck_374 (mv_allC ck_375 (mv_allC ck_376 (mv_allC ck_377 (mv_allC ck_378 (mv_allC ck_379 (mv_allC ck_380 (mv_allC ck_381 (mv_allC ck_382 (mv_allC ck_383 (mv_allC ck_384 (mv_allC ck_385 (mv_allC ck_386 (mv_allC ck_387 (mv_allC ck_388 (mv_allC ck_389 (mv_allC ck_390 (mv_allC ck_391 (mv_allC ck_392 (mv_allC ck_393 (mv_allC ck_394 (mv_allC ck_395 (mv_allC ck_396 (mv_allC ck_397 (mv_allC ck_398 (mv_allC ck_399 mv_all0))))))))))))))))))))))))))))))))))))))))
theorem ch_L9 : tbs_9.length = mt_ml9.length := by decide +kernel
theorem ch_D10 : (tbs_10.zip mt_ml10).all (fun q => mv_chD q.2.2.2.1 0 q.1) = true := (mv_allC ck_400 (mv_allC ck_401 (mv_allC ck_402 (mv_allC ck_403 (mv_allC ck_404 (mv_allC ck_405 (mv_allC ck_406 (mv_allC ck_407 (mv_allC ck_408 (mv_allC ck_409 (mv_allC ck_410 (mv_allC ck_411 (mv_allC ck_412 (mv_allC ck_413 (mv_allC ck_414 (mv_allC ck_415 (mv_allC ck_416 (mv_allC ck_417 (mv_allC ck_418 (mv_allC ck_419 (mv_allC ck_420 (mv_allC ck_421 (mv_allC ck_422 (mv_allC ck_423 (mv_allC ck_424 (mv_allC ck_425 (mv_allC ck_426 (mv_allC ck_427 (mv_allC ck_428 (mv_allC ck_429 (mv_allC ck_430 (mv_allC ck_431 (mv_allC ck_432 (mv_allC ck_433 (mv_allC ck_434 (mv_allC ck_435 (mv_allC ck_436 (mv_allC ck_437 (mv_allC ck_438 (mv_allC ck_439 mv_all0))))))))))))))))))))))))))))))))))))))))
theorem ch_L10 : tbs_10.length = mt_ml10.length := by decide +kernel
theorem ch_D11 : (tbs_11.zip mt_ml11).all (fun q => mv_chD q.2.2.2.1 0 q.1) = true := (mv_allC ck_440 (mv_allC ck_441 (mv_allC ck_442 (mv_allC ck_443 (mv_allC ck_444 (mv_allC ck_445 (mv_allC ck_446 (mv_allC ck_447 (mv_allC ck_448 (mv_allC ck_449 (mv_allC ck_450 (mv_allC ck_451 (mv_allC ck_452 (mv_allC ck_453 (mv_allC ck_454 (mv_allC ck_455 (mv_allC ck_456 (mv_allC ck_457 (mv_allC ck_458 (mv_allC ck_459 (mv_allC ck_460 (mv_allC ck_461 (mv_allC ck_462 (mv_allC ck_463 (mv_allC ck_464 (mv_allC ck_465 (mv_allC ck_466 (mv_allC ck_467 (mv_allC ck_468 (mv_allC ck_469 (mv_allC ck_470 (mv_allC ck_471 (mv_allC ck_472 (mv_allC ck_473 (mv_allC ck_474 (mv_allC ck_475 (mv_allC ck_476 (mv_allC ck_477 (mv_allC ck_478 (mv_allC ck_479 mv_all0))))))))))))))))))))))))))))))))))))))))
theorem ch_L11 : tbs_11.length = mt_ml11.length := by decide +kernel
theorem ch_D12 : (tbs_12.zip mt_ml12).all (fun q => mv_chD q.2.2.2.1 0 q.1) = true := (mv_allC ck_480 (mv_allC ck_481 (mv_allC ck_482 (mv_allC ck_483 (mv_allC ck_484 (mv_allC ck_485 (mv_allC ck_486 (mv_allC ck_487 (mv_allC ck_488 (mv_allC ck_489 (mv_allC ck_490 (mv_allC ck_491 (mv_allC ck_492 (mv_allC ck_493 mv_all0))))))))))))))
theorem ch_L12 : tbs_12.length = mt_ml12.length := by decide +kernel
theorem mv_lenA {α β : Type} {a b : List α} {c d : List β} (h1 : a.length = c.length) (h2 : b.length = d.length) : (a ++ b).length = (c ++ d).length := by rw [List.length_append, List.length_append, h1, h2]
theorem mv_zipA {α β : Type} {a b : List α} {c d : List β} {f : α × β → Bool} (hl : a.length = c.length) (h1 : (a.zip c).all f = true) (h2 : (b.zip d).all f = true) : ((a ++ b).zip (c ++ d)).all f = true := by
  rw [List.zip_append hl, List.all_append, h1, h2]; rfl
theorem ch_D : (mt_tbs.zip mt_ml).all (fun q => mv_chD q.2.2.2.1 0 q.1) = true := (mv_zipA (mv_lenA (mv_lenA (mv_lenA (mv_lenA (mv_lenA (mv_lenA (mv_lenA (mv_lenA (mv_lenA (mv_lenA (mv_lenA ch_L0 ch_L1) ch_L2) ch_L3) ch_L4) ch_L5) ch_L6) ch_L7) ch_L8) ch_L9) ch_L10) ch_L11) (mv_zipA (mv_lenA (mv_lenA (mv_lenA (mv_lenA (mv_lenA (mv_lenA (mv_lenA (mv_lenA (mv_lenA (mv_lenA ch_L0 ch_L1) ch_L2) ch_L3) ch_L4) ch_L5) ch_L6) ch_L7) ch_L8) ch_L9) ch_L10) (mv_zipA (mv_lenA (mv_lenA (mv_lenA (mv_lenA (mv_lenA (mv_lenA (mv_lenA (mv_lenA (mv_lenA ch_L0 ch_L1) ch_L2) ch_L3) ch_L4) ch_L5) ch_L6) ch_L7) ch_L8) ch_L9) (mv_zipA (mv_lenA (mv_lenA (mv_lenA (mv_lenA (mv_lenA (mv_lenA (mv_lenA (mv_lenA ch_L0 ch_L1) ch_L2) ch_L3) ch_L4) ch_L5) ch_L6) ch_L7) ch_L8) (mv_zipA (mv_lenA (mv_lenA (mv_lenA (mv_lenA (mv_lenA (mv_lenA (mv_lenA ch_L0 ch_L1) ch_L2) ch_L3) ch_L4) ch_L5) ch_L6) ch_L7) (mv_zipA (mv_lenA (mv_lenA (mv_lenA (mv_lenA (mv_lenA (mv_lenA ch_L0 ch_L1) ch_L2) ch_L3) ch_L4) ch_L5) ch_L6) (mv_zipA (mv_lenA (mv_lenA (mv_lenA (mv_lenA (mv_lenA ch_L0 ch_L1) ch_L2) ch_L3) ch_L4) ch_L5) (mv_zipA (mv_lenA (mv_lenA (mv_lenA (mv_lenA ch_L0 ch_L1) ch_L2) ch_L3) ch_L4) (mv_zipA (mv_lenA (mv_lenA (mv_lenA ch_L0 ch_L1) ch_L2) ch_L3) (mv_zipA (mv_lenA (mv_lenA ch_L0 ch_L1) ch_L2) (mv_zipA (mv_lenA ch_L0 ch_L1) (mv_zipA ch_L0 ch_D0 ch_D1) ch_D2) ch_D3) ch_D4) ch_D5) ch_D6) ch_D7) ch_D8) ch_D9) ch_D10) ch_D11) ch_D12)
theorem mt_okD_ok (mi oc : Nat) (y : MethodName) (cc : ByteArray) (nL : Nat) (rt : Option FieldType) (h : mt_m mi = some (oc, y, cc, nL, rt)) : mt_okD mi cc := by
  intro pc i hi
  obtain ⟨l, h1, h2⟩ := mt_tb_eq hi
  have hz : (l, (oc, y, cc, nL, rt)) ∈ mt_tbs.zip mt_ml := by
    refine List.mem_of_getElem? (i := mi) ?_
    rw [List.getElem?_zip_eq_some]
    refine ⟨?_, ?_⟩
    · rw [← mv_nth_eq]; exact h1
    · rw [← mv_nth_eq]; exact h
  have hc := List.all_eq_true.mp ch_D _ hz
  have := mv_chD_at l 0 pc i hc h2
  rw [Nat.zero_add] at this
  exact this
theorem mt_OK : mt_ok := ⟨mt_okF_ok, mt_okM_of mt_okD_ok, mt_okL_ok, mt_okG_ok, mt_okC_ok⟩
