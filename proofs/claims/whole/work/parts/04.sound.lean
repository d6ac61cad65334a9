/-! THE SMALL MACHINE IS SOUND -/
def mv_tys (tc : FieldType → ClassId) : List (ClassId × FieldType) := [(tc .int, .int), (tc .byte, .byte), (tc .boolean, .boolean), (tc .char, .char), (tc (.object "EditorBox$Text"), .object "EditorBox$Text")]
def mv_shok : mv_Sh → Bool
  | .inl (.int, n) => Nat.blt n 2147483648
  | .inl (.byte, n) => Nat.blt n 2147483648
  | .inl (.boolean, n) => Nat.blt n 2147483648
  | .inl (.char, n) => Nat.blt n 2147483648
  | .inl (.object C, n) => C == "EditorBox$Text" && Nat.blt n 2147483648
  | .inl _ => false
  | .inr _ => true
def mv_B (h : mv_Hp) : Prop := ∀ (i : Nat) (sh : mv_Sh), h.1[i]? = some sh → mv_shok sh = true ∧ ∀ (ty : FieldType) (n : Nat), sh = .inl (ty, n) → refKind ty = false → ∀ j : Nat, fits ty (.int (h.2.1 i j)) = true
def mv_R (ad : Nat → Nat) (tc : FieldType → ClassId) (D : va_G) (h : mv_Hp) (H : Heap) : Prop := va_P D mt_cl (mv_W ad tc h) H ∧ mv_B h
/-- a type of arrays, by its place among the types -/
theorem mv_ty_at {tc : FieldType → ClassId} {ty : FieldType} {n : Nat} (h : mv_shok (.inl (ty, n)) = true) : ∃ t0 : Nat, (mv_tys tc)[t0]? = some (tc ty, ty) := by
  cases ty with
  | int => exact ⟨0, rfl⟩
  | byte => exact ⟨1, rfl⟩
  | boolean => exact ⟨2, rfl⟩
  | char => exact ⟨3, rfl⟩
  | object C =>
    simp only [mv_shok, Bool.and_eq_true, beq_iff_eq] at h
    rw [h.1]
    exact ⟨4, rfl⟩
  | _ => exact absurd h (by simp [mv_shok])
theorem mv_fitz (x : Int32) : fits .boolean (.int (vp_nar .boolean x)) = true := by
  have e : vp_nar .boolean x = x &&& 1 := rfl
  rw [e, pk_and x (m := 1) 1 (by decide)]
  have : x.toBitVec.toNat % 2 ^ 1 = 0 ∨ x.toBitVec.toNat % 2 ^ 1 = 1 := by omega
  rcases this with q | q <;> rw [q] <;> decide
theorem mv_fitb (x : Int32) : fits .byte (.int (vp_nar .byte x)) = true := by rw [vp_nar_byte]; exact pk_fb x
theorem mv_fitc (x : Int32) : fits .char (.int (vp_nar .char x)) = true := by
  rw [vp_nar_char]
  have e : x.toUInt32.toUInt16.toUInt32.toInt32 = (x.toUInt32 % 65536).toInt32 := by
    rw [← vp_nar_char]
    have := pk_vc x
    sorry
  rw [e]
  exact pk_fc x
theorem mv_B_put {S : List mv_Sh} {V : Nat → Nat → Int32} {Rf : Nat → Nat → Option Nat} {a k : Nat} {x : Int32} (hB : mv_B (S, V, Rf)) (hx : ∀ (ty : FieldType) (n : Nat), S[a]? = some (.inl (ty, n)) → refKind ty = false → fits ty (.int x) = true) : mv_B (S, mv_rw V a (upd (V a) k x), Rf) := by
  intro i sh hi
  refine ⟨(hB i sh hi).1, fun ty n e hr j => ?_⟩
  by_cases hia : i = a
  · subst hia
    show fits ty (.int (mv_rw V i (upd (V i) k x) i j)) = true
    rw [mv_rw_s]
    by_cases hj : j = k
    · subst hj
      rw [pk_us]
      exact hx ty n (by rw [← e]; exact hi) hr
    · rw [pk_un hj]
      exact (hB i sh hi).2 ty n e hr j
  · show fits ty (.int (mv_rw V a (upd (V a) k x) i j)) = true
    rw [mv_rw_n V _ hia]
    exact (hB i sh hi).2 ty n e hr j
theorem mv_B_ref {S : List mv_Sh} {V : Nat → Nat → Int32} {Rf Rg : Nat → Nat → Option Nat} (hB : mv_B (S, V, Rf)) : mv_B (S, V, Rg) := hB
/-- the tables' own facts: fields -/
def mt_okF : Prop := ∀ (oc ix ci f : Nat), mt_lf oc ix = some (ci, f) → ∃ (C : String) (T : u_T) (N : Nat), mt_cl[ci]? = some (C, T, N) ∧ f < N ∧ N = mt_N ci ∧ Cond.fieldLink (mt_on oc) ix C (T f).2.1 (T f).2.2.1 ∈ mt_TB ∧ (T f).1 = C ∧ (∀ w ∈ u_ws C T N, w ∈ mt_TB) ∧ (∀ k, k < N → parseFieldDescriptor (T k).2.2.1 = some (mt_ft ci k)) ∧ (∀ a, a < N → ∀ b, b < N → a ≠ b → (T a).2.1 ≠ (T b).2.1) ∧ (T f).2.2.2 = mt_fin ci f ∧ (mt_fin ci f = true → C = mt_on oc)
def mt_okD (mi : Nat) (cc : ByteArray) : Prop := ∀ (pc : Nat) (i : Instr), mt_tb mi pc = some i → ∃ n, decode cc pc = .ok (i, n) ∧ (mv_ln i = 0 ∨ n = mv_ln i) ∧ mv_okI i = true
theorem mv_d1 {cc : ByteArray} {pc n : Nat} {i : Instr} (ln : Nat) (hd : decode cc pc = .ok (i, n)) (hn : mv_ln i = 0 ∨ n = mv_ln i) (h : mv_ln i = ln + 1) : decode cc pc = .ok (i, ln + 1) := by
  rcases hn with q | q
  · rw [h] at q; cases q
  · rw [hd, q, h]
section MVS
variable {p : Program} {l : Launch} {e : Env} {R : Room} {s : State} {m : MethodId} {args : Array Value} {below : List Frame} {meth : Method} {c : Code}
def mv_Wm (p : Program) (l : Launch) (e : Env) (R : Room) (s : State) (m : MethodId) (args : Array Value) (below : List Frame) (meth : Method) (c : Code) (cells slots : Nat) (Q : State → Prop) (ad sa : Nat → Nat) (A : Nat → Prop) (tc : FieldType → ClassId) (D : va_G) (nL : Nat) (pc : Nat) (L : mv_Ls) (st : List Value) (h : mv_Hp) : Prop :=
  ∀ (H : Heap) (locs : List Loc) (ls : Array Slot), mv_R ad tc D h H → mv_J ad h.1.length → (∀ i, i < h.1.length → A (ad i)) → va_S A s.heap H locs → lv_has ls nL (mv_ps (mv_v ad sa) 0 L) → L.length = nL → W p l e R s m args below meth c H locs cells slots Q (F0 m pc ls (st.map (mv_v ad sa)))
set_option maxHeartbeats 4000000 in
theorem mv_snd {cells slots : Nat} {Q : State → Prop} {ad sa : Nat → Nat} {A : Nat → Prop} {tc : FieldType → ClassId} {D : va_G} {nL : Nat} {cc : ByteArray} {mi oc : Nat} {ini : Bool} {rt : Option FieldType} {Rt : Option Value → mv_Hp → Prop} {k : Nat → mv_Ls → List Value → mv_Hp → Prop} {E : Nat → List Value → mv_Hp → Option Value → mv_Hp → Prop}
    (hx : p.tables.exec = Jvm.exec) (hb : c.code = cc) (hown : s.vm.findClass (mt_on oc) = some m.cls) (hts : ∀ w ∈ mt_TB, w.before args s = true) (hK : va_K D mt_cl (mv_tys tc) s) (hdec : mt_okD mi cc) (hF : mt_okF) (hini : ini = true → meth.name = "<init>")
    (hk : ∀ pc L st h, k pc L st h → mv_Wm p l e R s m args below meth c cells slots Q ad sa A tc D nL pc L st h)
    (hRt : ∀ r h pc, Rt r h → ∀ i : Instr, decode cc pc = .ok (i, 1) → True)
    {pc : Nat} {L : mv_Ls} {st : List Value} {h : mv_Hp} {i : Instr} (hi : mt_tb mi pc = some i) (hw : mv_i E oc ini rt Rt k pc L st h i) :
    mv_Wm p l e R s m args below meth c cells slots Q ad sa A tc D nL pc L st h := by
  intro H locs ls hR hJ hA hS hl hL
  obtain ⟨n, hd, hn, hok⟩ := hdec pc i hi
  have hcat : ∀ v, (mv_v ad sa v).category = v.category := mv_v_cat ad sa
  cases i with
  | iconst n =>
    simp only [mv_i] at hw
    exact lv_iconst hx hb (mv_d1 0 hd hn rfl) (of_decide_eq_true hok) (hk _ _ _ _ hw H locs ls hR hJ hA hS hl hL)
  | bipush n =>
    simp only [mv_i] at hw
    exact lv_bipush hx hb (mv_d1 1 hd hn rfl) (of_decide_eq_true hok) (hk _ _ _ _ hw H locs ls hR hJ hA hS hl hL)
  | sipush n =>
    simp only [mv_i] at hw
    exact lv_sipush hx hb (mv_d1 2 hd hn rfl) (of_decide_eq_true hok) (hk _ _ _ _ hw H locs ls hR hJ hA hS hl hL)
  | lconst n =>
    simp only [mv_i] at hw
    exact lv_lconst hx hb (mv_d1 0 hd hn rfl) rfl (hk _ _ _ _ hw H locs ls hR hJ hA hS hl hL)
  | iload i =>
    simp only [mv_i] at hw
    split at hw
    · rename_i x e1
      exact lv_iload hx hb (mv_d1 1 hd hn rfl) (hl.2.2 _ (mv_ps_in e1)) (hk _ _ _ _ hw H locs ls hR hJ hA hS hl hL)
    · exact hw.elim
  | iload_n i =>
    simp only [mv_i] at hw
    split at hw
    · rename_i x e1
      exact lv_iload_n hx hb (mv_d1 0 hd hn rfl) rfl (hl.2.2 _ (mv_ps_in e1)) (hk _ _ _ _ hw H locs ls hR hJ hA hS hl hL)
    · exact hw.elim
  | lload i =>
    simp only [mv_i] at hw
    split at hw
    · rename_i x e1
      exact lv_lload hx hb (mv_d1 1 hd hn rfl) (hl.2.2 _ (mv_ps_in e1)) (hk _ _ _ _ hw H locs ls hR hJ hA hS hl hL)
    · exact hw.elim
  | lload_n i =>
    simp only [mv_i] at hw
    split at hw
    · rename_i x e1
      exact lv_lload_n hx hb (mv_d1 0 hd hn rfl) rfl (hl.2.2 _ (mv_ps_in e1)) (hk _ _ _ _ hw H locs ls hR hJ hA hS hl hL)
    · exact hw.elim
  | aload i =>
    simp only [mv_i] at hw
    split at hw
    · rename_i x e1
      exact lv_aload hx hb (mv_d1 1 hd hn rfl) (hl.2.2 _ (mv_ps_in e1)) (hk _ _ _ _ hw H locs ls hR hJ hA hS hl hL)
    · rename_i x e1
      exact lv_aload hx hb (mv_d1 1 hd hn rfl) (hl.2.2 _ (mv_ps_in e1)) (hk _ _ _ _ hw H locs ls hR hJ hA hS hl hL)
    · exact hw.elim
  | aload_n i =>
    simp only [mv_i] at hw
    split at hw
    · rename_i x e1
      exact lv_aload_n hx hb (mv_d1 0 hd hn rfl) rfl (hl.2.2 _ (mv_ps_in e1)) (hk _ _ _ _ hw H locs ls hR hJ hA hS hl hL)
    · rename_i x e1
      exact lv_aload_n hx hb (mv_d1 0 hd hn rfl) rfl (hl.2.2 _ (mv_ps_in e1)) (hk _ _ _ _ hw H locs ls hR hJ hA hS hl hL)
    · exact hw.elim
  | istore i =>
    simp only [mv_i] at hw
    split at hw
    · rename_i x st
      cases hlt : Nat.blt i L.length with
      | false => rw [hlt] at hw; exact hw.elim
      | true =>
        rw [hlt] at hw
        have hlt := Nat.le_of_ble_eq_true hlt
        exact lv_istore hx hb (mv_d1 1 hd hn rfl) hl (by omega) rfl (fun ls2 hl2 => hk _ _ _ _ hw H locs ls2 hR hJ hA hS (mv_put1 hcat hl2) (by rw [mv_s1_len]; exact hL))
    · exact hw.elim
  | istore_n i =>
    simp only [mv_i] at hw
    split at hw
    · rename_i x st
      cases hlt : Nat.blt i.val L.length with
      | false => rw [hlt] at hw; exact hw.elim
      | true =>
        rw [hlt] at hw
        have hlt := Nat.le_of_ble_eq_true hlt
        exact lv_istore_n hx hb (mv_d1 0 hd hn rfl) rfl hl (by omega) rfl (fun ls2 hl2 => hk _ _ _ _ hw H locs ls2 hR hJ hA hS (mv_put1 hcat hl2) (by rw [mv_s1_len]; exact hL))
    · exact hw.elim
  | astore i =>
    simp only [mv_i] at hw
    split at hw
    · rename_i x st
      cases hlt : Nat.blt i L.length with
      | false => rw [hlt] at hw; exact hw.elim
      | true =>
        rw [hlt] at hw
        have hlt := Nat.le_of_ble_eq_true hlt
        exact lv_astore hx hb (mv_d1 1 hd hn rfl) hl (by omega) rfl (fun ls2 hl2 => hk _ _ _ _ hw H locs ls2 hR hJ hA hS (mv_put1 hcat hl2) (by rw [mv_s1_len]; exact hL))
    · exact hw.elim
  | astore_n i =>
    simp only [mv_i] at hw
    split at hw
    · rename_i x st
      cases hlt : Nat.blt i.val L.length with
      | false => rw [hlt] at hw; exact hw.elim
      | true =>
        rw [hlt] at hw
        have hlt := Nat.le_of_ble_eq_true hlt
        exact lv_astore_n hx hb (mv_d1 0 hd hn rfl) rfl hl (by omega) rfl (fun ls2 hl2 => hk _ _ _ _ hw H locs ls2 hR hJ hA hS (mv_put1 hcat hl2) (by rw [mv_s1_len]; exact hL))
    · exact hw.elim
  | lstore i =>
    simp only [mv_i] at hw
    split at hw
    · rename_i x st
      cases hlt : Nat.blt (i + 1) L.length with
      | false => rw [hlt] at hw; exact hw.elim
      | true =>
        rw [hlt] at hw
        have hlt := Nat.le_of_ble_eq_true hlt
        exact lv_lstore hx hb (mv_d1 1 hd hn rfl) hl (by omega) rfl (fun ls2 hl2 => hk _ _ _ _ hw H locs ls2 hR hJ hA hS (mv_put2 hcat hl2) (by rw [mv_s2_len]; exact hL))
    · exact hw.elim
  | lstore_n i =>
    simp only [mv_i] at hw
    split at hw
    · rename_i x st
      cases hlt : Nat.blt (i.val + 1) L.length with
      | false => rw [hlt] at hw; exact hw.elim
      | true =>
        rw [hlt] at hw
        have hlt := Nat.le_of_ble_eq_true hlt
        exact lv_lstore_n hx hb (mv_d1 0 hd hn rfl) rfl hl (by omega) rfl (fun ls2 hl2 => hk _ _ _ _ hw H locs ls2 hR hJ hA hS (mv_put2 hcat hl2) (by rw [mv_s2_len]; exact hL))
    · exact hw.elim
  | iinc i n =>
    simp only [mv_i] at hw
    split at hw
    · rename_i x e1
      obtain ⟨q, hq⟩ := List.getElem?_of_mem (mv_ps_in (f := mv_v ad sa) e1)
      have hlt := (List.getElem?_eq_some_iff.mp e1).1
      exact lv_iinc hx hb (mv_d1 2 hd hn rfl) hl hq (by rw [of_decide_eq_true hok]) (by omega) rfl (fun ls2 hl2 => hk _ _ _ _ hw H locs ls2 hR hJ hA hS (mv_put1 (v := .int (x + mv_lit n)) hcat hl2) (by rw [mv_s1_len]; exact hL))
    · exact hw.elim
  | iadd =>
    simp only [mv_i] at hw
    split at hw
    · exact lv_iadd hx hb (mv_d1 0 hd hn rfl) (hk _ _ _ _ hw H locs ls hR hJ hA hS hl hL)
    · exact hw.elim
  | isub =>
    simp only [mv_i] at hw
    split at hw
    · exact lv_isub hx hb (mv_d1 0 hd hn rfl) (hk _ _ _ _ hw H locs ls hR hJ hA hS hl hL)
    · exact hw.elim
  | imul =>
    simp only [mv_i] at hw
    split at hw
    · exact lv_imul hx hb (mv_d1 0 hd hn rfl) (hk _ _ _ _ hw H locs ls hR hJ hA hS hl hL)
    · exact hw.elim
  | iand =>
    simp only [mv_i] at hw
    split at hw
    · exact lv_iand hx hb (mv_d1 0 hd hn rfl) (hk _ _ _ _ hw H locs ls hR hJ hA hS hl hL)
    · exact hw.elim
  | ior =>
    simp only [mv_i] at hw
    split at hw
    · exact lv_ior hx hb (mv_d1 0 hd hn rfl) (hk _ _ _ _ hw H locs ls hR hJ hA hS hl hL)
    · exact hw.elim
  | ixor =>
    simp only [mv_i] at hw
    split at hw
    · exact lv_ixor hx hb (mv_d1 0 hd hn rfl) (hk _ _ _ _ hw H locs ls hR hJ hA hS hl hL)
    · exact hw.elim
  | ishl =>
    simp only [mv_i] at hw
    split at hw
    · exact lv_ishl hx hb (mv_d1 0 hd hn rfl) (hk _ _ _ _ hw H locs ls hR hJ hA hS hl hL)
    · exact hw.elim
  | ishr =>
    simp only [mv_i] at hw
    split at hw
    · exact lv_ishr hx hb (mv_d1 0 hd hn rfl) (hk _ _ _ _ hw H locs ls hR hJ hA hS hl hL)
    · exact hw.elim
  | ladd =>
    simp only [mv_i] at hw
    split at hw
    · exact lv_ladd hx hb (mv_d1 0 hd hn rfl) (hk _ _ _ _ hw H locs ls hR hJ hA hS hl hL)
    · exact hw.elim
  | lsub =>
    simp only [mv_i] at hw
    split at hw
    · exact lv_lsub hx hb (mv_d1 0 hd hn rfl) (hk _ _ _ _ hw H locs ls hR hJ hA hS hl hL)
    · exact hw.elim
  | lmul =>
    simp only [mv_i] at hw
    split at hw
    · exact lv_lmul hx hb (mv_d1 0 hd hn rfl) (hk _ _ _ _ hw H locs ls hR hJ hA hS hl hL)
    · exact hw.elim
  | land =>
    simp only [mv_i] at hw
    split at hw
    · exact lv_land hx hb (mv_d1 0 hd hn rfl) (hk _ _ _ _ hw H locs ls hR hJ hA hS hl hL)
    · exact hw.elim
  | lor =>
    simp only [mv_i] at hw
    split at hw
    · exact lv_lor hx hb (mv_d1 0 hd hn rfl) (hk _ _ _ _ hw H locs ls hR hJ hA hS hl hL)
    · exact hw.elim
  | idiv =>
    simp only [mv_i] at hw
    split at hw
    · exact lv_idiv hx hb (mv_d1 0 hd hn rfl) hw.1 (hk _ _ _ _ hw.2 H locs ls hR hJ hA hS hl hL)
    · exact hw.elim
  | irem =>
    simp only [mv_i] at hw
    split at hw
    · exact lv_irem hx hb (mv_d1 0 hd hn rfl) hw.1 (hk _ _ _ _ hw.2 H locs ls hR hJ hA hS hl hL)
    · exact hw.elim
  | ldiv =>
    simp only [mv_i] at hw
    split at hw
    · exact lv_ldiv hx hb (mv_d1 0 hd hn rfl) hw.1 (hk _ _ _ _ hw.2 H locs ls hR hJ hA hS hl hL)
    · exact hw.elim
  | lrem =>
    simp only [mv_i] at hw
    split at hw
    · exact lv_lrem hx hb (mv_d1 0 hd hn rfl) hw.1 (hk _ _ _ _ hw.2 H locs ls hR hJ hA hS hl hL)
    · exact hw.elim
  | ineg =>
    simp only [mv_i] at hw
    split at hw
    · exact lv_ineg hx hb (mv_d1 0 hd hn rfl) (hk _ _ _ _ hw H locs ls hR hJ hA hS hl hL)
    · exact hw.elim
  | lneg =>
    simp only [mv_i] at hw
    split at hw
    · exact lv_lneg hx hb (mv_d1 0 hd hn rfl) (hk _ _ _ _ hw H locs ls hR hJ hA hS hl hL)
    · exact hw.elim
  | i2b =>
    simp only [mv_i] at hw
    split at hw
    · exact lv_i2b hx hb (mv_d1 0 hd hn rfl) rfl (hk _ _ _ _ hw H locs ls hR hJ hA hS hl hL)
    · exact hw.elim
  | i2l =>
    simp only [mv_i] at hw
    split at hw
    · exact lv_i2l hx hb (mv_d1 0 hd hn rfl) rfl (hk _ _ _ _ hw H locs ls hR hJ hA hS hl hL)
    · exact hw.elim
  | l2i =>
    simp only [mv_i] at hw
    split at hw
    · exact lv_l2i hx hb (mv_d1 0 hd hn rfl) rfl (hk _ _ _ _ hw H locs ls hR hJ hA hS hl hL)
    · exact hw.elim
  | lshl =>
    simp only [mv_i] at hw
    split at hw
    · exact lv_lshl hx hb (mv_d1 0 hd hn rfl) rfl (hk _ _ _ _ hw H locs ls hR hJ hA hS hl hL)
    · exact hw.elim
  | lshr =>
    simp only [mv_i] at hw
    split at hw
    · exact lv_lshr hx hb (mv_d1 0 hd hn rfl) rfl (hk _ _ _ _ hw H locs ls hR hJ hA hS hl hL)
    · exact hw.elim
  | lcmp =>
    simp only [mv_i] at hw
    split at hw
    · exact W.lcmp hx hb (mv_d1 0 hd hn rfl) (hk _ _ _ _ hw H locs ls hR hJ hA hS hl hL)
    · exact hw.elim
  | dup =>
    simp only [mv_i] at hw
    split at hw
    · rename_i v st
      cases hc : Nat.beq v.category 1 with
      | false => rw [hc] at hw; exact hw.elim
      | true => rw [hc] at hw; exact lv_dup hx hb (mv_d1 0 hd hn rfl) ((hcat v).trans (Nat.eq_of_beq_eq_true hc)) (hk _ _ _ _ hw H locs ls hR hJ hA hS hl hL)
    · exact hw.elim
  | pop =>
    simp only [mv_i] at hw
    split at hw
    · rename_i v st
      cases hc : Nat.beq v.category 1 with
      | false => rw [hc] at hw; exact hw.elim
      | true => rw [hc] at hw; exact lv_pop hx hb (mv_d1 0 hd hn rfl) ((hcat v).trans (Nat.eq_of_beq_eq_true hc)) (hk _ _ _ _ hw H locs ls hR hJ hA hS hl hL)
    · exact hw.elim
  | dup2 =>
    simp only [mv_i] at hw
    split at hw
    · rename_i v u st
      cases hc : Nat.beq v.category 1 with
      | false => rw [hc] at hw; exact hw.elim
      | true =>
        cases hc2 : Nat.beq u.category 1 with
        | false => rw [hc, hc2] at hw; exact hw.elim
        | true => rw [hc, hc2] at hw; exact lv_dup2_11 hx hb (mv_d1 0 hd hn rfl) ((hcat v).trans (Nat.eq_of_beq_eq_true hc)) ((hcat u).trans (Nat.eq_of_beq_eq_true hc2)) (hk _ _ _ _ hw H locs ls hR hJ hA hS hl hL)
    · exact hw.elim
  | ifCond q off =>
    simp only [mv_i] at hw
    split at hw
    · split at hw
      · rename_i t ht
        have ht := mv_tg_ok ht
        obtain ⟨hw1, hw2⟩ := hw
        cases q with
        | eq => exact lv_if_eq hx hb (mv_d1 2 hd hn rfl) ht (fun g => hk _ _ _ _ (hw1 g) H locs ls hR hJ hA hS hl hL) (fun g => hk _ _ _ _ (hw2 g) H locs ls hR hJ hA hS hl hL)
        | ne => exact lv_if_ne hx hb (mv_d1 2 hd hn rfl) ht (fun g => hk _ _ _ _ (hw1 g) H locs ls hR hJ hA hS hl hL) (fun g => hk _ _ _ _ (hw2 (fun g2 => g2 g)) H locs ls hR hJ hA hS hl hL)
        | lt => exact lv_if_lt hx hb (mv_d1 2 hd hn rfl) ht (fun g => hk _ _ _ _ (hw1 g) H locs ls hR hJ hA hS hl hL) (fun g => hk _ _ _ _ (hw2 g) H locs ls hR hJ hA hS hl hL)
        | ge => exact lv_if_ge hx hb (mv_d1 2 hd hn rfl) ht (fun g => hk _ _ _ _ (hw1 g) H locs ls hR hJ hA hS hl hL) (fun g => hk _ _ _ _ (hw2 g) H locs ls hR hJ hA hS hl hL)
        | gt => exact lv_if_gt hx hb (mv_d1 2 hd hn rfl) ht (fun g => hk _ _ _ _ (hw1 g) H locs ls hR hJ hA hS hl hL) (fun g => hk _ _ _ _ (hw2 g) H locs ls hR hJ hA hS hl hL)
        | le => exact lv_if_le hx hb (mv_d1 2 hd hn rfl) ht (fun g => hk _ _ _ _ (hw1 g) H locs ls hR hJ hA hS hl hL) (fun g => hk _ _ _ _ (hw2 g) H locs ls hR hJ hA hS hl hL)
      · exact hw.elim
    · exact hw.elim
  | if_icmp q off =>
    simp only [mv_i] at hw
    split at hw
    · split at hw
      · rename_i t ht
        have ht := mv_tg_ok ht
        obtain ⟨hw1, hw2⟩ := hw
        cases q with
        | eq => exact lv_icmp_eq hx hb (mv_d1 2 hd hn rfl) ht (fun g => hk _ _ _ _ (hw1 g) H locs ls hR hJ hA hS hl hL) (fun g => hk _ _ _ _ (hw2 g) H locs ls hR hJ hA hS hl hL)
        | ne => exact lv_icmp_ne hx hb (mv_d1 2 hd hn rfl) ht (fun g => hk _ _ _ _ (hw1 g) H locs ls hR hJ hA hS hl hL) (fun g => hk _ _ _ _ (hw2 (fun g2 => g2 g)) H locs ls hR hJ hA hS hl hL)
        | lt => exact lv_icmp_lt hx hb (mv_d1 2 hd hn rfl) ht (fun g => hk _ _ _ _ (hw1 g) H locs ls hR hJ hA hS hl hL) (fun g => hk _ _ _ _ (hw2 g) H locs ls hR hJ hA hS hl hL)
        | ge => exact lv_icmp_ge hx hb (mv_d1 2 hd hn rfl) ht (fun g => hk _ _ _ _ (hw1 g) H locs ls hR hJ hA hS hl hL) (fun g => hk _ _ _ _ (hw2 g) H locs ls hR hJ hA hS hl hL)
        | gt => exact lv_icmp_gt hx hb (mv_d1 2 hd hn rfl) ht (fun g => hk _ _ _ _ (hw1 g) H locs ls hR hJ hA hS hl hL) (fun g => hk _ _ _ _ (hw2 g) H locs ls hR hJ hA hS hl hL)
        | le => exact lv_icmp_le hx hb (mv_d1 2 hd hn rfl) ht (fun g => hk _ _ _ _ (hw1 g) H locs ls hR hJ hA hS hl hL) (fun g => hk _ _ _ _ (hw2 g) H locs ls hR hJ hA hS hl hL)
      · exact hw.elim
    · exact hw.elim
  | goto off =>
    simp only [mv_i] at hw
    split at hw
    · rename_i t ht
      exact lv_goto hx hb (mv_d1 2 hd hn rfl) (mv_tg_ok ht) (hk _ _ _ _ hw H locs ls hR hJ hA hS hl hL)
    · exact hw.elim
  | tableswitch dflt lo hi offs =>
    simp only [mv_i] at hw
    split at hw
    · rename_i x st
      obtain ⟨hw1, hw2, hw3⟩ := hw
      split at hw1
      · rename_i t ht
        by_cases hlo : x.toInt < lo
        · exact lv_tableOut hx hb hd (Or.inl hlo) (mv_tg_ok ht) (hk _ _ _ _ (hw1 (Or.inl hlo)) H locs ls hR hJ hA hS hl hL)
        · by_cases hhi : hi < x.toInt
          · exact lv_tableOut hx hb hd (Or.inr hhi) (mv_tg_ok ht) (hk _ _ _ _ (hw1 (Or.inr hhi)) H locs ls hR hJ hA hS hl hL)
          · have hlt : (x.toInt - lo).toNat < offs.toList.length := by omega
            have ho : offs.toList[(x.toInt - lo).toNat]? = some offs.toList[(x.toInt - lo).toNat] := List.getElem?_eq_getElem hlt
            obtain ⟨t2, ht2, hk2⟩ := mv_ts_at _ lo _ _ (hw2 hlo hhi) ho (by omega)
            exact lv_tableIn hx hb hd hlo hhi (by rw [← Array.getElem?_toList]; exact ho) (mv_tg_ok ht2) (hk _ _ _ _ hk2 H locs ls hR hJ hA hS hl hL)
      · exact hw1.elim
    · exact hw.elim
  | _ => sorry
end MVS
