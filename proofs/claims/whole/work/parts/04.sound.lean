/-! THE SMALL MACHINE IS SOUND -/
def mv_tys (tc : FieldType → ClassId) : List (ClassId × FieldType) := [(tc .int, .int), (tc .byte, .byte), (tc .boolean, .boolean), (tc .char, .char), (tc (.object "EditorBox$Text"), .object "EditorBox$Text")]
def mv_shok : mv_Sh → Bool
  | .inl (.int, n) => Nat.blt n 2147483648
  | .inl (.byte, n) => Nat.blt n 2147483648
  | .inl (.boolean, n) => Nat.blt n 2147483648
  | .inl (.char, n) => Nat.blt n 2147483648
  | .inl (.object C, n) => C == "EditorBox$Text" && Nat.blt n 2147483648
  | .inl _ => false
  | .inr _ => true
def mv_B (h : mv_Hp) : Prop := ∀ (i : Nat) (sh : mv_Sh), h.1[i]? = some sh → mv_shok sh = true ∧ ∀ (ty : FieldType) (n : Nat), sh = .inl (ty, n) → refKind ty = false → ∀ j : Nat, fits ty (.int (h.2.1 i j)) = true
def mv_R (ad : Nat → Nat) (tc : FieldType → ClassId) (D : va_G) (h : mv_Hp) (H : Heap) : Prop := va_P D mt_cl (mv_W ad tc h) H ∧ mv_B h
/-- a type of arrays, by its place among the types -/
theorem mv_ty_at {tc : FieldType → ClassId} {ty : FieldType} {n : Nat} (h : mv_shok (.inl (ty, n)) = true) : ∃ t0 : Nat, (mv_tys tc)[t0]? = some (tc ty, ty) := by
  cases ty with
  | int => exact ⟨0, rfl⟩
  | byte => exact ⟨1, rfl⟩
  | boolean => exact ⟨2, rfl⟩
  | char => exact ⟨3, rfl⟩
  | object C =>
    simp only [mv_shok, Bool.and_eq_true, beq_iff_eq] at h
    rw [h.1]
    exact ⟨4, rfl⟩
  | _ => exact absurd h (by simp [mv_shok])
theorem mv_fitz (x : Int32) : fits .boolean (.int (vp_nar .boolean x)) = true := by
  have e : vp_nar .boolean x = x &&& 1 := rfl
  rw [e, pk_and x (m := 1) 1 (by decide)]
  have : x.toBitVec.toNat % 2 ^ 1 = 0 ∨ x.toBitVec.toNat % 2 ^ 1 = 1 := by omega
  rcases this with q | q <;> rw [q] <;> decide
theorem mv_fitb (x : Int32) : fits .byte (.int (vp_nar .byte x)) = true := by rw [vp_nar_byte]; exact pk_fb x
theorem mv_fitc (x : Int32) : fits .char (.int (vp_nar .char x)) = true := by
  rw [vp_nar_char]
  have e : x.toUInt32.toUInt16.toUInt32 = x.toUInt32 % 65536 := by
    apply UInt32.toNat_inj.mp
    simp
  rw [e]
  exact pk_fc x
theorem mv_B_put {S : List mv_Sh} {V : Nat → Nat → Int32} {Rf : Nat → Nat → Option Nat} {a k : Nat} {x : Int32} (hB : mv_B (S, V, Rf)) (hx : ∀ (ty : FieldType) (n : Nat), S[a]? = some (.inl (ty, n)) → refKind ty = false → fits ty (.int x) = true) : mv_B (S, mv_rw V a (upd (V a) k x), Rf) := by
  intro i sh hi
  refine ⟨(hB i sh hi).1, fun ty n e hr j => ?_⟩
  by_cases hia : i = a
  · subst hia
    show fits ty (.int (mv_rw V i (upd (V i) k x) i j)) = true
    rw [mv_rw_s]
    by_cases hj : j = k
    · subst hj
      rw [pk_us]
      exact hx ty n (by rw [← e]; exact hi) hr
    · rw [pk_un hj]
      exact (hB i sh hi).2 ty n e hr j
  · show fits ty (.int (mv_rw V a (upd (V a) k x) i j)) = true
    rw [mv_rw_n V _ hia]
    exact (hB i sh hi).2 ty n e hr j
theorem mv_B_cpy {h : mv_Hp} {ty : FieldType} {a b : Nat} {sp dp n : Nat} (hB : mv_B h) (ha : ∀ j, fits ty (.int (h.2.1 a j)) = true) (hb : ∀ j, fits ty (.int (h.2.1 b j)) = true) (hrow : ∀ (t2 : FieldType) (n2 : Nat), h.1[b]? = some (.inl (t2, n2)) → t2 = ty) : mv_B (h.1, mv_rw h.2.1 b (va_cpy (h.2.1 a) (h.2.1 b) sp dp n), h.2.2) := by
  intro i sh hi
  refine ⟨(hB i sh hi).1, fun t2 n2 e hr j => ?_⟩
  by_cases hib : i = b
  · subst hib
    show fits t2 (.int (mv_rw h.2.1 i (va_cpy (h.2.1 a) (h.2.1 i) sp dp n) i j)) = true
    rw [mv_rw_s, hrow t2 n2 (by rw [← e]; exact hi)]
    unfold va_cpy
    split
    · exact ha _
    · exact hb _
  · show fits t2 (.int (mv_rw h.2.1 b (va_cpy (h.2.1 a) (h.2.1 b) sp dp n) i j)) = true
    rw [mv_rw_n h.2.1 _ hib]
    exact (hB i sh hi).2 t2 n2 e hr j
theorem mv_B_ref {S : List mv_Sh} {V : Nat → Nat → Int32} {Rf Rg : Nat → Nat → Option Nat} (hB : mv_B (S, V, Rf)) : mv_B (S, V, Rg) := hB
def va_E_of (ci : Nat) (fs : List Value) : va_E := .inr (ci, fs)
theorem mv_c_putI {ad : Nat → Nat} {tc : FieldType → ClassId} {S : List mv_Sh} {V : Nat → Nat → Int32} {Rf : Nat → Nat → Option Nat} {o ci f : Nat} {x : Int32} (hrk : refKind (mt_ft ci f) = false) :
    va_E_of ci (((List.range (mt_N ci)).map (fun k => mv_f ad (S, V, Rf) o ci k)).set f (.int x)) = mv_c ad tc (S, mv_rw V o (upd (V o) f x), Rf) o (.inr ci) := by
  rw [mv_fs_set]
  simp only [va_E_of, mv_c, Sum.inr.injEq, Prod.mk.injEq, true_and]
  apply List.map_congr_left
  intro k _
  simp only [mv_f, mv_rw_s]
  by_cases hk : k = f
  · subst hk
    simp [hrk, pk_us]
  · rw [if_neg hk, pk_un hk]
theorem mv_c_putR {ad : Nat → Nat} {tc : FieldType → ClassId} {S : List mv_Sh} {V : Nat → Nat → Int32} {Rf : Nat → Nat → Option Nat} {o ci f j : Nat} (hrk : refKind (mt_ft ci f) = true) :
    va_E_of ci (((List.range (mt_N ci)).map (fun k => mv_f ad (S, V, Rf) o ci k)).set f (.ref (ad j))) = mv_c ad tc (S, V, mv_rw Rf o (va_up (Rf o) f (some j))) o (.inr ci) := by
  rw [mv_fs_set]
  simp only [va_E_of, mv_c, Sum.inr.injEq, Prod.mk.injEq, true_and]
  apply List.map_congr_left
  intro k _
  simp only [mv_f, mv_rw_s]
  by_cases hk : k = f
  · subst hk
    simp [hrk, va_up, va_rf]
  · rw [if_neg hk]
    simp [va_up, hk]
theorem mv_nz {x : Int32} (h : fits .boolean (.int x) = true) : narrow .boolean (.int x) = .int x := by
  simp only [fits, Bool.or_eq_true, beq_iff_eq] at h
  rcases h with q | q <;> rw [q] <;> decide
theorem mv_nr {ty : FieldType} (h : refKind ty = true) (a : Nat) : narrow ty (.ref a) = .ref a ∧ fits ty (.ref a) = true := by
  cases ty <;> first | exact ⟨rfl, rfl⟩ | exact absurd h (by decide)
theorem mv_toL {f : Value → Value} (r : Option Value) (st : List Value) : (r.toList ++ st).map f = (r.map f).toList ++ st.map f := by cases r <;> simp
theorem mv_cats {ad sa : Nat → Nat} (st : List Value) : ((st.map (mv_v ad sa)).map fun v => v.category) = st.map fun v => v.category := by
  rw [List.map_map]
  exact List.map_congr_left (fun v _ => mv_v_cat ad sa v)
theorem mv_stk {f : Value → Value} (st : List Value) (n : Nat) : st.map f = (((st.take n).reverse).map f).reverse ++ (st.drop n).map f := by
  rw [← List.map_reverse, List.reverse_reverse, ← List.map_append, List.take_append_drop]
theorem mv_P_putI {ad : Nat → Nat} {tc : FieldType → ClassId} {D : va_G} {h : mv_Hp} {H : Heap} {o ci f : Nat} {x : Int32} (e2 : h.1[o]? = some (.inr ci)) (hrk : refKind (mt_ft ci f) = false) (hP : va_P D mt_cl ((mv_W ad tc h).set o (ad o, .inr (ci, ((List.range (mt_N ci)).map (fun k => mv_f ad h o ci k)).set f (.int x)))) H) : va_P D mt_cl (mv_W ad tc (h.1, mv_rw h.2.1 o (upd (h.2.1 o) f x), h.2.2)) H := by
  have hW := mv_W_set (ad := ad) (tc := tc) (h := h) (h' := (h.1, mv_rw h.2.1 o (upd (h.2.1 o) f x), h.2.2)) rfl e2 mv_c_V (mv_c_putI (V := h.2.1) (Rf := h.2.2) (S := h.1) hrk)
  rw [← hW]
  exact hP
theorem mv_P_putR {ad : Nat → Nat} {tc : FieldType → ClassId} {D : va_G} {h : mv_Hp} {H : Heap} {o ci f j : Nat} (e2 : h.1[o]? = some (.inr ci)) (hrk : refKind (mt_ft ci f) = true) (hP : va_P D mt_cl ((mv_W ad tc h).set o (ad o, .inr (ci, ((List.range (mt_N ci)).map (fun k => mv_f ad h o ci k)).set f (.ref (ad j))))) H) : va_P D mt_cl (mv_W ad tc (h.1, h.2.1, mv_rw h.2.2 o (va_up (h.2.2 o) f (some j)))) H := by
  have hW := mv_W_set (ad := ad) (tc := tc) (h := h) (h' := (h.1, h.2.1, mv_rw h.2.2 o (va_up (h.2.2 o) f (some j)))) rfl e2 mv_c_R (mv_c_putR (V := h.2.1) (Rf := h.2.2) (S := h.1) hrk)
  rw [← hW]
  exact hP
theorem mv_P_row {ad : Nat → Nat} {tc : FieldType → ClassId} {D : va_G} {h : mv_Hp} {H : Heap} {a n : Nat} {ty : FieldType} {g : Nat → Int32} (e1 : h.1[a]? = some (.inl (ty, n))) (hty : refKind ty = false) (hP : va_P D mt_cl ((mv_W ad tc h).set a (ad a, .inl (tc ty, n, .inl g))) H) : va_P D mt_cl (mv_W ad tc (h.1, mv_rw h.2.1 a g, h.2.2)) H := by
  have hW := mv_W_set (ad := ad) (tc := tc) (h := h) (h' := (h.1, mv_rw h.2.1 a g, h.2.2)) (x := .inl (tc ty, n, .inl g)) rfl e1 mv_c_V (by simp only [mv_c, mv_rw_s, hty, cond_false])
  rw [← hW]
  exact hP
/-- the tables' own facts: fields -/
def mt_okF : Prop := ∀ (oc ix ci f : Nat), mt_lf oc ix = some (ci, f) → ∃ (C : String) (T : u_T) (N : Nat), mt_cl[ci]? = some (C, T, N) ∧ f < N ∧ N = mt_N ci ∧ Cond.fieldLink (mt_on oc) ix C (T f).2.1 (T f).2.2.1 ∈ mt_TB ∧ (T f).1 = C ∧ (∀ w ∈ u_ws C T N, w ∈ mt_TB) ∧ (∀ k, k < N → parseFieldDescriptor (T k).2.2.1 = some (mt_ft ci k)) ∧ (∀ a, a < N → ∀ b, b < N → a ≠ b → (T a).2.1 ≠ (T b).2.1) ∧ (T f).2.2.2 = mt_fin ci f ∧ C = mt_on ci
theorem mv_lk_at {k : Nat → Prop} {pc : Nat} {x dflt : Int} : ∀ (ps : List (Int × Int)), mv_lk k pc x dflt ps → ∃ (off : Int) (t : Nat), Op.lookupswitch.offset ps dflt x = off ∧ mv_tg pc off = some t ∧ k t := by
  intro ps
  induction ps with
  | nil =>
    intro h
    simp only [mv_lk] at h
    split at h
    · rename_i t ht
      exact ⟨dflt, t, rfl, ht, h⟩
    · exact h.elim
  | cons a ps ih =>
    intro h
    obtain ⟨a, o⟩ := a
    simp only [mv_lk] at h
    by_cases e : x = a
    · have h1 := h.1 e
      split at h1
      · rename_i t ht
        refine ⟨o, t, ?_, ht, h1⟩
        subst e
        simp [Op.lookupswitch.offset]
      · exact h1.elim
    · obtain ⟨off, t, h1, h2, h3⟩ := ih (h.2 e)
      refine ⟨off, t, ?_, h2, h3⟩
      rw [← h1]
      simp [Op.lookupswitch.offset, e]
      exact fun q => absurd q.symm e
def mt_okD (mi : Nat) (cc : ByteArray) : Prop := ∀ (pc : Nat) (i : Instr), mt_tb mi pc = some i → ∃ n, decode cc pc = .ok (i, n) ∧ (mv_ln i = 0 ∨ n = mv_ln i) ∧ mv_okI i = true
theorem mv_d1 {cc : ByteArray} {pc n : Nat} {i : Instr} (ln : Nat) (hd : decode cc pc = .ok (i, n)) (hn : mv_ln i = 0 ∨ n = mv_ln i) (h : mv_ln i = ln + 1) : decode cc pc = .ok (i, ln + 1) := by
  rcases hn with q | q
  · rw [h] at q; cases q
  · rw [hd, q, h]
def mv_X (sa sv : Nat → Nat) (A : Nat → Prop) (U : State) (H : Heap) : Prop := vk_S mt_sn mt_sl mt_sb sa sv A U H ∧ (∀ (oc ix : Nat) (k : UInt32), mt_lc oc ix = some (.inr k) → ∃ tx, vk_R (mt_on oc) ix tx (sa k.toNat) U) ∧ ∀ q ∈ mt_nw, va_Nw (.methodLinkNest q.1 q.2.1 q.2.2.1 q.2.2.2) U
theorem mv_X_to {sa sv : Nat → Nat} {A B : Nat → Prop} {s U : State} {H : Heap} {locs : List Loc} (hX : mv_X sa sv A s s.heap) (hS : va_S A s.heap H locs) (hAB : ∀ q, B q → A q) (hU : U.heap = H) (hW : s.WarmedH U.vm) : mv_X sa sv B U U.heap := by
  refine ⟨?_, fun oc ix k hk => ?_, fun q hq => va_Nw.warmM hW (hX.2.2 q hq)⟩
  · rw [hU]
    exact ((hX.1.kept hS.2.1).moved hW.alike).narrow hAB
  · obtain ⟨tx, h⟩ := hX.2.1 oc ix k hk
    exact ⟨tx, h.warm hW⟩
def mv_Pc (ad sa sv : Nat → Nat) (tc : FieldType → ClassId) (D : va_G) (av : List Value) (h : mv_Hp) : Array Value → State → Prop := fun a U => a = (av.map (mv_v ad sa)).toArray ∧ mv_R ad tc D h U.heap ∧ va_K D mt_cl (mv_tys tc) U ∧ mv_X sa sv (mv_A ad h.1.length) U U.heap ∧ mv_J ad h.1.length
def mv_Qc (ad sa : Nat → Nat) (tc : FieldType → ClassId) (D : va_G) (n : Nat) (r : Option Value) (h : mv_Hp) : Array Value → State → Outcome → State → Prop := fun _ st oc t => oc = .returned (r.map (mv_v ad sa)) ∧ mv_R ad tc D h t.heap ∧ va_F (mv_A ad n) st t
/-- a method, called with av over h, answers r and leaves h'; it needs d frames -/
def mv_Ev (d mi : Nat) (av : List Value) (h : mv_Hp) (r : Option Value) (h' : mv_Hp) : Prop :=
  h'.1 = h.1 ∧ ∃ (oc : Nat) (y : MethodName) (cc : ByteArray) (nL : Nat) (rt : Option FieldType), mt_m mi = some (oc, y, cc, nL, rt) ∧
    ∀ (l : Launch) (ad sa sv : Nat → Nat) (tc : FieldType → ClassId) (D : va_G), Met l y (Cond.code y cc nL rt :: mt_TB) { frames := d, cells := 0, slots := 0, locals := mt_lo * d } (mv_Pc ad sa sv tc D av h) (mv_Qc ad sa tc D h.1.length r h') 0 0 (mv_A ad h.1.length)
/-- the tables' own facts: methods and calls -/
def mt_okM : Prop := ∀ (mi oc : Nat) (y : MethodName) (cc : ByteArray) (nL : Nat) (rt : Option FieldType), mt_m mi = some (oc, y, cc, nL, rt) → Cond.code y cc nL rt ∈ mt_TB ∧ Cond.initialized y.cls ∈ mt_TB ∧ y.cls = mt_on oc ∧ plainName y.cls = true ∧ (y.cls ≠ "java/lang/invoke/MethodHandle" ∧ y.cls ≠ "java/lang/invoke/VarHandle" ∧ (parseMethodDescriptor y.desc).map (fun d => d.parameters.length) = some (mt_ar mi)) ∧ nL + 19 ≤ mt_lo ∧ mt_okD mi cc
def mt_okL : Prop :=
  (∀ (oc ix mi : Nat), mt_lm oc ix = some (0, mi) → ∃ (oc' : Nat) (y : MethodName) (cc : ByteArray) (nL : Nat) (rt : Option FieldType), mt_m mi = some (oc', y, cc, nL, rt) ∧ Cond.methodLink (mt_on oc) ix y ∈ mt_TB ∧ Cond.static y ∈ mt_TB) ∧
  (∀ (oc ix mi : Nat), mt_lm oc ix = some (1, mi) → ∃ (oc' : Nat) (y : MethodName) (cc : ByteArray) (nL : Nat) (rt : Option FieldType), mt_m mi = some (oc', y, cc, nL, rt) ∧ Cond.static y ∈ mt_TB ∧ ∃ host, (mt_on oc, ix, y, host) ∈ mt_nw) ∧
  (∀ (oc ix mi : Nat), mt_lm oc ix = some (2, mi) → ∃ (oc' : Nat) (y : MethodName) (cc : ByteArray) (nL : Nat) (rt : Option FieldType), mt_m mi = some (oc', y, cc, nL, rt) ∧ Cond.methodLink (mt_on oc) ix y ∈ mt_TB ∧ Cond.instanceMethod y ∈ mt_TB ∧ Cond.selects y.cls y y ∈ mt_TB ∧ ∃ q : vw_C, mt_cl[oc']? = some q ∧ q.1 = y.cls) ∧
  (∀ (oc ix mi : Nat), mt_lm oc ix = some (3, mi) → ∃ (oc' : Nat) (y : MethodName) (cc : ByteArray) (nL : Nat) (rt : Option FieldType), mt_m mi = some (oc', y, cc, nL, rt) ∧ Cond.methodLink (mt_on oc) ix y ∈ mt_TB ∧ Cond.instanceMethod y ∈ mt_TB ∧ Cond.selects y.cls y y ∈ mt_TB ∧ y.cls = "java/lang/String") ∧
  (∀ (oc ix mi : Nat), mt_lm oc ix = some (5, mi) → Cond.methodLink (mt_on oc) ix arraycopyName ∈ mt_TB ∧ Cond.native arraycopyName ∈ mt_TB ∧ Cond.static arraycopyName ∈ mt_TB ∧ Cond.initialized "java/lang/System" ∈ mt_TB) ∧
  (∀ (oc ix mi : Nat), mt_lm oc ix = some (6, mi) → Cond.methodLink (mt_on oc) ix Lib.Math.max.name ∈ mt_TB ∧ Cond.static Lib.Math.max.name ∈ mt_TB ∧ Cond.initialized "java/lang/Math" ∈ mt_TB ∧ Cond.code Lib.Math.max.name Lib.Math.max.code 2 (some .int) ∈ mt_TB) ∧
  (∀ (oc ix mi : Nat), mt_lm oc ix = some (7, mi) → Cond.methodLink (mt_on oc) ix Lib.Math.min.name ∈ mt_TB ∧ Cond.static Lib.Math.min.name ∈ mt_TB ∧ Cond.initialized "java/lang/Math" ∈ mt_TB ∧ Cond.code Lib.Math.min.name Lib.Math.min.code 2 (some .int) ∈ mt_TB) ∧
  (∀ (oc ix mi : Nat), mt_lm oc ix = some (8, mi) → Cond.methodLink (mt_on oc) ix Lib.Math.abs.name ∈ mt_TB ∧ Cond.static Lib.Math.abs.name ∈ mt_TB ∧ Cond.initialized "java/lang/Math" ∈ mt_TB ∧ Cond.code Lib.Math.abs.name Lib.Math.abs.code 1 (some .int) ∈ mt_TB)
def mt_okG : Prop := ∀ w ∈ mt_TB, goodWord w = true
def mt_okC : Prop := (∀ (oc ix : Nat) (v : Int32), mt_lc oc ix = some (.inl v) → Cond.constant (mt_on oc) ix v ∈ mt_TB) ∧ ∀ (oc ix : Nat) (v : Int64), mt_ll oc ix = some v → Cond.constantLong (mt_on oc) ix v ∈ mt_TB
theorem mv_good (hG : mt_okG) {w : Cond} (hw : w ∈ mt_TB) : GoodIn mt_TB (w :: mt_TB) := by
  intro x hx
  have : x ∈ mt_TB := by
    rcases List.mem_cons.mp hx with q | q
    · rw [q]; exact hw
    · exact q
  exact ⟨this, good_of_word (hG x this)⟩
theorem mv_blind {ad sa sv : Nat → Nat} {tc : FieldType → ClassId} {D : va_G} {av : List Value} {h : mv_Hp} : FrameBlind (mv_Pc ad sa sv tc D av h) := by
  intro a U g mk q
  obtain ⟨q0, q1, q2, q3, q4⟩ := q
  refine ⟨q0, q1, va_K.moved (u := U) (U := U.calling g mk a) (Vm.Alike.refl U.vm) q2, ⟨?_, fun oc ix k hk => ?_, fun x hx => ?_⟩, q4⟩
  · exact vk_S.moved (u := U) (U := U.calling g mk a) (Vm.Alike.refl U.vm) q3.1
  · obtain ⟨tx, z⟩ := q3.2.1 oc ix k hk
    exact ⟨tx, vk_R.same (u := U) (U := U.calling g mk a) rfl z⟩
  · exact va_Nw.same (u := U) (U := U.calling g mk a) rfl rfl (q3.2.2 x hx)
theorem mv_drop {st : List Value} {n : Nat} {v : Value} {rest : List Value} (h : st.drop n = v :: rest) : st.take (n + 1) = st.take n ++ [v] ∧ st.drop (n + 1) = rest ∧ st = st.take n ++ v :: rest ∧ (st.take n).length = n := by
  have h1 : st = st.take n ++ v :: rest := by rw [← h, List.take_append_drop]
  have h2 : n < st.length := by
    rcases Nat.lt_or_ge n st.length with q | q
    · exact q
    · rw [List.drop_eq_nil_of_le q] at h; cases h
  have h3 : (st.take n).length = n := by rw [List.length_take]; omega
  refine ⟨?_, ?_, h1, h3⟩
  · rw [List.take_succ]
    have : st[n]? = some v := by
      rw [← List.head?_drop, h]; rfl
    rw [this]; rfl
  · have : st.drop (n + 1) = (st.drop n).drop 1 := by rw [List.drop_drop]
    rw [this, h]; rfl
section MVS
variable {p : Program} {l : Launch} {e : Env} {R : Room} {s : State} {m : MethodId} {args : Array Value} {below : List Frame} {meth : Method} {c : Code}
theorem mv_ldcwS {cells slots : Nat} {Q : State → Prop} {H : Heap} {locs : List Loc} {cc : ByteArray} {pc : Nat} {ls : Array Slot} {rest : List Value} (hexec : p.tables.exec = Jvm.exec) (hb : c.code = cc) {own tx : String} {index q : Nat} (hown : s.vm.findClass own = some m.cls) (hZ : vk_R own index tx q s) (hdg : decode cc pc = .ok (.ldc_w index, 3))
    (k : W p l e R s m args below meth c H locs cells slots Q (F0 m (pc + 3) ls (.ref q :: rest))) : W p l e R s m args below meth c H locs cells slots Q (F0 m pc ls rest) := by
  intro T hT X
  obtain ⟨t, a1, b1⟩ := k T hT X
  exact ⟨t, X.ldcStringW hexec hown (text := tx) (a := q) hZ.1 hZ.2 (g := F0 m pc ls rest) rfl (by rw [hb]; exact hdg) t a1, b1⟩
theorem mv_callR {cells slots : Nat} {Q : State → Prop} {ad sa : Nat → Nat} {A : Nat → Prop} {tc : FieldType → ClassId} {D : va_G} {pc n : Nat} {ls : Array Slot} {st0 rest : List Value} {a : Array Value} {H : Heap} {locs : List Loc} {r : Option Value} {h' : mv_Hp}
    (hr : va_Run p l e R s m args below meth c H locs cells slots 0 0 (F0 m pc ls st0) rest (mv_Qc ad sa tc D n r h' a) (mv_A ad n)) (hS : va_S A s.heap H locs) (hf : ∀ q, mv_A ad n q → A q)
    (kk : ∀ (H1 : Heap) (locs1 : List Loc), mv_R ad tc D h' H1 → va_S A s.heap H1 locs1 → W p l e R s m args below meth c H1 locs1 cells slots Q (F0 m (pc + 3) ls ((r.map (mv_v ad sa)).toList ++ rest))) : W p l e R s m args below meth c H locs cells slots Q (F0 m pc ls st0) := by
  intro T hT X
  obtain ⟨v, st₀, t, T', L, h0, X', hL, e1, e2, ⟨hv, hR', hz, hk⟩, st⟩ := hr T hT X
  cases hv
  rw [h0] at hz hk
  obtain ⟨t2, a1, b1⟩ := kk T'.heap (locs ++ L) (by rw [e1]; exact hR')
    ⟨Nat.le_trans hS.1 (by rw [e1]; exact hz), fun q h1 h2 => by rw [e1, hk q (Nat.lt_of_lt_of_le h1 hS.1) (fun z => h2 (hf q z))]; exact hS.2.1 q h1 h2, fun q hq => by
      rcases List.mem_append.mp hq with h | h
      · exact hS.2.2 q h
      · exact hf _ (hL q h)⟩ T' rfl X'
  exact ⟨t2, st t2 a1, b1⟩
def mv_Wm (p : Program) (l : Launch) (e : Env) (R : Room) (s : State) (m : MethodId) (args : Array Value) (below : List Frame) (meth : Method) (c : Code) (cells slots : Nat) (Q : State → Prop) (ad sa : Nat → Nat) (A : Nat → Prop) (tc : FieldType → ClassId) (D : va_G) (nL : Nat) (pc : Nat) (L : mv_Ls) (st : List Value) (h : mv_Hp) : Prop :=
  ∀ (H : Heap) (locs : List Loc) (ls : Array Slot), mv_R ad tc D h H → mv_J ad h.1.length → (∀ i, i < h.1.length → A (ad i)) → va_S A s.heap H locs → lv_has ls nL (mv_ps (mv_v ad sa) 0 L) → L.length = nL → W p l e R s m args below meth c H locs cells slots Q (F0 m pc ls (st.map (mv_v ad sa)))
set_option maxHeartbeats 4000000 in
theorem mv_snd {cells slots : Nat} {Q : State → Prop} {ad sa : Nat → Nat} {A : Nat → Prop} {tc : FieldType → ClassId} {D : va_G} {nL : Nat} {cc : ByteArray} {mi oc : Nat} {ini : Bool} {rt : Option FieldType} {Rt : Option Value → mv_Hp → Prop} {k : Nat → mv_Ls → List Value → mv_Hp → Prop} {E : Nat → List Value → mv_Hp → Option Value → mv_Hp → Prop}
    (hx : p.tables.exec = Jvm.exec) (hb : c.code = cc) (hown : s.vm.findClass (mt_on oc) = some m.cls) (hts : ∀ w ∈ mt_TB, w.before args s = true) (hK : va_K D mt_cl (mv_tys tc) s) (hdec : mt_okD mi cc) (hF : mt_okF) (hini : ini = true → meth.name = "<init>")
    (hM : mt_okM) (hLk : mt_okL) (hG : mt_okG) (hC : mt_okC) {sv : Nat → Nat} (hX : mv_X sa sv A s s.heap) (hml : c.maxLocals = nL) (hlocks : meth.locks = false) (hr : meth.sig.returnType = rt) {d : Nat} (hRm : d + 1 ≤ R.frames ∧ mt_lo * (d + 1) ≤ R.locals) (hcs : cells ≤ R.cells ∧ slots ≤ R.slots)
    (hE : ∀ mi av h r h', E mi av h r h' → mv_Ev d mi av h r h')
    {Qc : Array Value → State → Outcome → State → Prop} {free : Addr → Prop} (hQ : Q = MQ below Qc args s cells slots free) (hfree : ∀ q, A q → free q)
    (hk : ∀ pc L st h, k pc L st h → mv_Wm p l e R s m args below meth c cells slots Q ad sa A tc D nL pc L st h)
    (hRt : ∀ (r : Option Value) (h : mv_Hp) (H : Heap) (locs : List Loc), Rt r h → mv_R ad tc D h H → va_S A s.heap H locs → ∀ t : State, t.heap = H → s.WarmedH t.vm → Qc args s (.returned (r.map (mv_v ad sa))) t)
    {pc : Nat} {L : mv_Ls} {st : List Value} {h : mv_Hp} {i : Instr} (htb : mt_tb mi pc = some i) (hw : mv_i E oc ini rt Rt k pc L st h i) :
    mv_Wm p l e R s m args below meth c cells slots Q ad sa A tc D nL pc L st h := by
  intro H locs ls hR hJ hA hS hl hL
  obtain ⟨n, hd, hn, hok⟩ := hdec pc i htb
  have hcat : ∀ v, (mv_v ad sa v).category = v.category := mv_v_cat ad sa
  cases i with
  | iconst n =>
    simp only [mv_i] at hw
    exact lv_iconst hx hb (mv_d1 0 hd hn rfl) (of_decide_eq_true hok) (hk _ _ _ _ hw H locs ls hR hJ hA hS hl hL)
  | bipush n =>
    simp only [mv_i] at hw
    exact lv_bipush hx hb (mv_d1 1 hd hn rfl) (of_decide_eq_true hok) (hk _ _ _ _ hw H locs ls hR hJ hA hS hl hL)
  | sipush n =>
    simp only [mv_i] at hw
    exact lv_sipush hx hb (mv_d1 2 hd hn rfl) (of_decide_eq_true hok) (hk _ _ _ _ hw H locs ls hR hJ hA hS hl hL)
  | lconst n =>
    simp only [mv_i] at hw
    exact lv_lconst hx hb (mv_d1 0 hd hn rfl) rfl (hk _ _ _ _ hw H locs ls hR hJ hA hS hl hL)
  | iload i =>
    simp only [mv_i] at hw
    split at hw
    · rename_i x e1
      exact lv_iload hx hb (mv_d1 1 hd hn rfl) (hl.2.2 _ (mv_ps_in e1)) (hk _ _ _ _ hw H locs ls hR hJ hA hS hl hL)
    · exact hw.elim
  | iload_n i =>
    simp only [mv_i] at hw
    split at hw
    · rename_i x e1
      exact lv_iload_n hx hb (mv_d1 0 hd hn rfl) rfl (hl.2.2 _ (mv_ps_in e1)) (hk _ _ _ _ hw H locs ls hR hJ hA hS hl hL)
    · exact hw.elim
  | lload i =>
    simp only [mv_i] at hw
    split at hw
    · rename_i x e1
      exact lv_lload hx hb (mv_d1 1 hd hn rfl) (hl.2.2 _ (mv_ps_in e1)) (hk _ _ _ _ hw H locs ls hR hJ hA hS hl hL)
    · exact hw.elim
  | lload_n i =>
    simp only [mv_i] at hw
    split at hw
    · rename_i x e1
      exact lv_lload_n hx hb (mv_d1 0 hd hn rfl) rfl (hl.2.2 _ (mv_ps_in e1)) (hk _ _ _ _ hw H locs ls hR hJ hA hS hl hL)
    · exact hw.elim
  | aload i =>
    simp only [mv_i] at hw
    split at hw
    · rename_i x e1
      exact lv_aload hx hb (mv_d1 1 hd hn rfl) (hl.2.2 _ (mv_ps_in e1)) (hk _ _ _ _ hw H locs ls hR hJ hA hS hl hL)
    · rename_i x e1
      exact lv_aload hx hb (mv_d1 1 hd hn rfl) (hl.2.2 _ (mv_ps_in e1)) (hk _ _ _ _ hw H locs ls hR hJ hA hS hl hL)
    · exact hw.elim
  | aload_n i =>
    simp only [mv_i] at hw
    split at hw
    · rename_i x e1
      exact lv_aload_n hx hb (mv_d1 0 hd hn rfl) rfl (hl.2.2 _ (mv_ps_in e1)) (hk _ _ _ _ hw H locs ls hR hJ hA hS hl hL)
    · rename_i x e1
      exact lv_aload_n hx hb (mv_d1 0 hd hn rfl) rfl (hl.2.2 _ (mv_ps_in e1)) (hk _ _ _ _ hw H locs ls hR hJ hA hS hl hL)
    · exact hw.elim
  | istore i =>
    simp only [mv_i] at hw
    split at hw
    · rename_i x st
      cases hlt : Nat.blt i L.length with
      | false => rw [hlt] at hw; exact hw.elim
      | true =>
        rw [hlt] at hw
        have hlt := Nat.le_of_ble_eq_true hlt
        exact lv_istore hx hb (mv_d1 1 hd hn rfl) hl (by omega) rfl (fun ls2 hl2 => hk _ _ _ _ hw H locs ls2 hR hJ hA hS (mv_put1 hcat hl2) (by rw [mv_s1_len]; exact hL))
    · exact hw.elim
  | istore_n i =>
    simp only [mv_i] at hw
    split at hw
    · rename_i x st
      cases hlt : Nat.blt i.val L.length with
      | false => rw [hlt] at hw; exact hw.elim
      | true =>
        rw [hlt] at hw
        have hlt := Nat.le_of_ble_eq_true hlt
        exact lv_istore_n hx hb (mv_d1 0 hd hn rfl) rfl hl (by omega) rfl (fun ls2 hl2 => hk _ _ _ _ hw H locs ls2 hR hJ hA hS (mv_put1 hcat hl2) (by rw [mv_s1_len]; exact hL))
    · exact hw.elim
  | astore i =>
    simp only [mv_i] at hw
    split at hw
    · rename_i x st
      cases hlt : Nat.blt i L.length with
      | false => rw [hlt] at hw; exact hw.elim
      | true =>
        rw [hlt] at hw
        have hlt := Nat.le_of_ble_eq_true hlt
        exact lv_astore hx hb (mv_d1 1 hd hn rfl) hl (by omega) rfl (fun ls2 hl2 => hk _ _ _ _ hw H locs ls2 hR hJ hA hS (mv_put1 hcat hl2) (by rw [mv_s1_len]; exact hL))
    · exact hw.elim
  | astore_n i =>
    simp only [mv_i] at hw
    split at hw
    · rename_i x st
      cases hlt : Nat.blt i.val L.length with
      | false => rw [hlt] at hw; exact hw.elim
      | true =>
        rw [hlt] at hw
        have hlt := Nat.le_of_ble_eq_true hlt
        exact lv_astore_n hx hb (mv_d1 0 hd hn rfl) rfl hl (by omega) rfl (fun ls2 hl2 => hk _ _ _ _ hw H locs ls2 hR hJ hA hS (mv_put1 hcat hl2) (by rw [mv_s1_len]; exact hL))
    · exact hw.elim
  | lstore i =>
    simp only [mv_i] at hw
    split at hw
    · rename_i x st
      cases hlt : Nat.blt (i + 1) L.length with
      | false => rw [hlt] at hw; exact hw.elim
      | true =>
        rw [hlt] at hw
        have hlt := Nat.le_of_ble_eq_true hlt
        exact lv_lstore hx hb (mv_d1 1 hd hn rfl) hl (by omega) rfl (fun ls2 hl2 => hk _ _ _ _ hw H locs ls2 hR hJ hA hS (mv_put2 hcat hl2) (by rw [mv_s2_len]; exact hL))
    · exact hw.elim
  | lstore_n i =>
    simp only [mv_i] at hw
    split at hw
    · rename_i x st
      cases hlt : Nat.blt (i.val + 1) L.length with
      | false => rw [hlt] at hw; exact hw.elim
      | true =>
        rw [hlt] at hw
        have hlt := Nat.le_of_ble_eq_true hlt
        exact lv_lstore_n hx hb (mv_d1 0 hd hn rfl) rfl hl (by omega) rfl (fun ls2 hl2 => hk _ _ _ _ hw H locs ls2 hR hJ hA hS (mv_put2 hcat hl2) (by rw [mv_s2_len]; exact hL))
    · exact hw.elim
  | iinc i n =>
    simp only [mv_i] at hw
    split at hw
    · rename_i x e1
      obtain ⟨q, hq⟩ := List.getElem?_of_mem (mv_ps_in (f := mv_v ad sa) e1)
      have hlt := (List.getElem?_eq_some_iff.mp e1).1
      exact lv_iinc hx hb (mv_d1 2 hd hn rfl) hl hq (by rw [of_decide_eq_true hok]) (by omega) rfl (fun ls2 hl2 => hk _ _ _ _ hw H locs ls2 hR hJ hA hS (mv_put1 (v := .int (x + mv_lit n)) hcat hl2) (by rw [mv_s1_len]; exact hL))
    · exact hw.elim
  | iadd =>
    simp only [mv_i] at hw
    split at hw
    · exact lv_iadd hx hb (mv_d1 0 hd hn rfl) (hk _ _ _ _ hw H locs ls hR hJ hA hS hl hL)
    · exact hw.elim
  | isub =>
    simp only [mv_i] at hw
    split at hw
    · exact lv_isub hx hb (mv_d1 0 hd hn rfl) (hk _ _ _ _ hw H locs ls hR hJ hA hS hl hL)
    · exact hw.elim
  | imul =>
    simp only [mv_i] at hw
    split at hw
    · exact lv_imul hx hb (mv_d1 0 hd hn rfl) (hk _ _ _ _ hw H locs ls hR hJ hA hS hl hL)
    · exact hw.elim
  | iand =>
    simp only [mv_i] at hw
    split at hw
    · exact lv_iand hx hb (mv_d1 0 hd hn rfl) (hk _ _ _ _ hw H locs ls hR hJ hA hS hl hL)
    · exact hw.elim
  | ior =>
    simp only [mv_i] at hw
    split at hw
    · exact lv_ior hx hb (mv_d1 0 hd hn rfl) (hk _ _ _ _ hw H locs ls hR hJ hA hS hl hL)
    · exact hw.elim
  | ixor =>
    simp only [mv_i] at hw
    split at hw
    · exact lv_ixor hx hb (mv_d1 0 hd hn rfl) (hk _ _ _ _ hw H locs ls hR hJ hA hS hl hL)
    · exact hw.elim
  | ishl =>
    simp only [mv_i] at hw
    split at hw
    · exact lv_ishl hx hb (mv_d1 0 hd hn rfl) (hk _ _ _ _ hw H locs ls hR hJ hA hS hl hL)
    · exact hw.elim
  | ishr =>
    simp only [mv_i] at hw
    split at hw
    · exact lv_ishr hx hb (mv_d1 0 hd hn rfl) (hk _ _ _ _ hw H locs ls hR hJ hA hS hl hL)
    · exact hw.elim
  | ladd =>
    simp only [mv_i] at hw
    split at hw
    · exact lv_ladd hx hb (mv_d1 0 hd hn rfl) (hk _ _ _ _ hw H locs ls hR hJ hA hS hl hL)
    · exact hw.elim
  | lsub =>
    simp only [mv_i] at hw
    split at hw
    · exact lv_lsub hx hb (mv_d1 0 hd hn rfl) (hk _ _ _ _ hw H locs ls hR hJ hA hS hl hL)
    · exact hw.elim
  | lmul =>
    simp only [mv_i] at hw
    split at hw
    · exact lv_lmul hx hb (mv_d1 0 hd hn rfl) (hk _ _ _ _ hw H locs ls hR hJ hA hS hl hL)
    · exact hw.elim
  | land =>
    simp only [mv_i] at hw
    split at hw
    · exact lv_land hx hb (mv_d1 0 hd hn rfl) (hk _ _ _ _ hw H locs ls hR hJ hA hS hl hL)
    · exact hw.elim
  | lor =>
    simp only [mv_i] at hw
    split at hw
    · exact lv_lor hx hb (mv_d1 0 hd hn rfl) (hk _ _ _ _ hw H locs ls hR hJ hA hS hl hL)
    · exact hw.elim
  | idiv =>
    simp only [mv_i] at hw
    split at hw
    · exact lv_idiv hx hb (mv_d1 0 hd hn rfl) hw.1 (hk _ _ _ _ hw.2 H locs ls hR hJ hA hS hl hL)
    · exact hw.elim
  | irem =>
    simp only [mv_i] at hw
    split at hw
    · exact lv_irem hx hb (mv_d1 0 hd hn rfl) hw.1 (hk _ _ _ _ hw.2 H locs ls hR hJ hA hS hl hL)
    · exact hw.elim
  | ldiv =>
    simp only [mv_i] at hw
    split at hw
    · exact lv_ldiv hx hb (mv_d1 0 hd hn rfl) hw.1 (hk _ _ _ _ hw.2 H locs ls hR hJ hA hS hl hL)
    · exact hw.elim
  | lrem =>
    simp only [mv_i] at hw
    split at hw
    · exact lv_lrem hx hb (mv_d1 0 hd hn rfl) hw.1 (hk _ _ _ _ hw.2 H locs ls hR hJ hA hS hl hL)
    · exact hw.elim
  | ineg =>
    simp only [mv_i] at hw
    split at hw
    · exact lv_ineg hx hb (mv_d1 0 hd hn rfl) (hk _ _ _ _ hw H locs ls hR hJ hA hS hl hL)
    · exact hw.elim
  | lneg =>
    simp only [mv_i] at hw
    split at hw
    · exact lv_lneg hx hb (mv_d1 0 hd hn rfl) (hk _ _ _ _ hw H locs ls hR hJ hA hS hl hL)
    · exact hw.elim
  | i2b =>
    simp only [mv_i] at hw
    split at hw
    · exact lv_i2b hx hb (mv_d1 0 hd hn rfl) rfl (hk _ _ _ _ hw H locs ls hR hJ hA hS hl hL)
    · exact hw.elim
  | i2l =>
    simp only [mv_i] at hw
    split at hw
    · exact lv_i2l hx hb (mv_d1 0 hd hn rfl) rfl (hk _ _ _ _ hw H locs ls hR hJ hA hS hl hL)
    · exact hw.elim
  | l2i =>
    simp only [mv_i] at hw
    split at hw
    · exact lv_l2i hx hb (mv_d1 0 hd hn rfl) rfl (hk _ _ _ _ hw H locs ls hR hJ hA hS hl hL)
    · exact hw.elim
  | lshl =>
    simp only [mv_i] at hw
    split at hw
    · exact lv_lshl hx hb (mv_d1 0 hd hn rfl) rfl (hk _ _ _ _ hw H locs ls hR hJ hA hS hl hL)
    · exact hw.elim
  | lshr =>
    simp only [mv_i] at hw
    split at hw
    · exact lv_lshr hx hb (mv_d1 0 hd hn rfl) rfl (hk _ _ _ _ hw H locs ls hR hJ hA hS hl hL)
    · exact hw.elim
  | lcmp =>
    simp only [mv_i] at hw
    split at hw
    · exact W.lcmp hx hb (mv_d1 0 hd hn rfl) (hk _ _ _ _ hw H locs ls hR hJ hA hS hl hL)
    · exact hw.elim
  | dup =>
    simp only [mv_i] at hw
    split at hw
    · rename_i v st
      cases hc : Nat.beq v.category 1 with
      | false => rw [hc] at hw; exact hw.elim
      | true => rw [hc] at hw; exact lv_dup hx hb (mv_d1 0 hd hn rfl) ((hcat v).trans (Nat.eq_of_beq_eq_true hc)) (hk _ _ _ _ hw H locs ls hR hJ hA hS hl hL)
    · exact hw.elim
  | pop =>
    simp only [mv_i] at hw
    split at hw
    · rename_i v st
      cases hc : Nat.beq v.category 1 with
      | false => rw [hc] at hw; exact hw.elim
      | true => rw [hc] at hw; exact lv_pop hx hb (mv_d1 0 hd hn rfl) ((hcat v).trans (Nat.eq_of_beq_eq_true hc)) (hk _ _ _ _ hw H locs ls hR hJ hA hS hl hL)
    · exact hw.elim
  | dup2 =>
    simp only [mv_i] at hw
    split at hw
    · rename_i v u st
      cases hc : Nat.beq v.category 1 with
      | false => rw [hc] at hw; exact hw.elim
      | true =>
        cases hc2 : Nat.beq u.category 1 with
        | false => rw [hc, hc2] at hw; exact hw.elim
        | true => rw [hc, hc2] at hw; exact lv_dup2_11 hx hb (mv_d1 0 hd hn rfl) ((hcat v).trans (Nat.eq_of_beq_eq_true hc)) ((hcat u).trans (Nat.eq_of_beq_eq_true hc2)) (hk _ _ _ _ hw H locs ls hR hJ hA hS hl hL)
    · exact hw.elim
  | ifCond q off =>
    simp only [mv_i] at hw
    split at hw
    · split at hw
      · rename_i t ht
        have ht := mv_tg_ok ht
        obtain ⟨hw1, hw2⟩ := hw
        cases q with
        | eq => exact lv_if_eq hx hb (mv_d1 2 hd hn rfl) ht (fun g => hk _ _ _ _ (hw1 g) H locs ls hR hJ hA hS hl hL) (fun g => hk _ _ _ _ (hw2 g) H locs ls hR hJ hA hS hl hL)
        | ne => exact lv_if_ne hx hb (mv_d1 2 hd hn rfl) ht (fun g => hk _ _ _ _ (hw1 g) H locs ls hR hJ hA hS hl hL) (fun g => hk _ _ _ _ (hw2 (fun g2 => g2 g)) H locs ls hR hJ hA hS hl hL)
        | lt => exact lv_if_lt hx hb (mv_d1 2 hd hn rfl) ht (fun g => hk _ _ _ _ (hw1 g) H locs ls hR hJ hA hS hl hL) (fun g => hk _ _ _ _ (hw2 g) H locs ls hR hJ hA hS hl hL)
        | ge => exact lv_if_ge hx hb (mv_d1 2 hd hn rfl) ht (fun g => hk _ _ _ _ (hw1 g) H locs ls hR hJ hA hS hl hL) (fun g => hk _ _ _ _ (hw2 g) H locs ls hR hJ hA hS hl hL)
        | gt => exact lv_if_gt hx hb (mv_d1 2 hd hn rfl) ht (fun g => hk _ _ _ _ (hw1 g) H locs ls hR hJ hA hS hl hL) (fun g => hk _ _ _ _ (hw2 g) H locs ls hR hJ hA hS hl hL)
        | le => exact lv_if_le hx hb (mv_d1 2 hd hn rfl) ht (fun g => hk _ _ _ _ (hw1 g) H locs ls hR hJ hA hS hl hL) (fun g => hk _ _ _ _ (hw2 g) H locs ls hR hJ hA hS hl hL)
      · exact hw.elim
    · exact hw.elim
  | if_icmp q off =>
    simp only [mv_i] at hw
    split at hw
    · split at hw
      · rename_i t ht
        have ht := mv_tg_ok ht
        obtain ⟨hw1, hw2⟩ := hw
        cases q with
        | eq => exact lv_icmp_eq hx hb (mv_d1 2 hd hn rfl) ht (fun g => hk _ _ _ _ (hw1 g) H locs ls hR hJ hA hS hl hL) (fun g => hk _ _ _ _ (hw2 g) H locs ls hR hJ hA hS hl hL)
        | ne => exact lv_icmp_ne hx hb (mv_d1 2 hd hn rfl) ht (fun g => hk _ _ _ _ (hw1 g) H locs ls hR hJ hA hS hl hL) (fun g => hk _ _ _ _ (hw2 (fun g2 => g2 g)) H locs ls hR hJ hA hS hl hL)
        | lt => exact lv_icmp_lt hx hb (mv_d1 2 hd hn rfl) ht (fun g => hk _ _ _ _ (hw1 g) H locs ls hR hJ hA hS hl hL) (fun g => hk _ _ _ _ (hw2 g) H locs ls hR hJ hA hS hl hL)
        | ge => exact lv_icmp_ge hx hb (mv_d1 2 hd hn rfl) ht (fun g => hk _ _ _ _ (hw1 g) H locs ls hR hJ hA hS hl hL) (fun g => hk _ _ _ _ (hw2 g) H locs ls hR hJ hA hS hl hL)
        | gt => exact lv_icmp_gt hx hb (mv_d1 2 hd hn rfl) ht (fun g => hk _ _ _ _ (hw1 g) H locs ls hR hJ hA hS hl hL) (fun g => hk _ _ _ _ (hw2 g) H locs ls hR hJ hA hS hl hL)
        | le => exact lv_icmp_le hx hb (mv_d1 2 hd hn rfl) ht (fun g => hk _ _ _ _ (hw1 g) H locs ls hR hJ hA hS hl hL) (fun g => hk _ _ _ _ (hw2 g) H locs ls hR hJ hA hS hl hL)
      · exact hw.elim
    · exact hw.elim
  | goto off =>
    simp only [mv_i] at hw
    split at hw
    · rename_i t ht
      exact lv_goto hx hb (mv_d1 2 hd hn rfl) (mv_tg_ok ht) (hk _ _ _ _ hw H locs ls hR hJ hA hS hl hL)
    · exact hw.elim
  | tableswitch dflt lo hi offs =>
    simp only [mv_i] at hw
    split at hw
    · rename_i x st
      obtain ⟨hw1, hw2, hw3⟩ := hw
      split at hw1
      · rename_i t ht
        by_cases hlo : x.toInt < lo
        · exact lv_tableOut hx hb hd (Or.inl hlo) (mv_tg_ok ht) (hk _ _ _ _ (hw1 (Or.inl hlo)) H locs ls hR hJ hA hS hl hL)
        · by_cases hhi : hi < x.toInt
          · exact lv_tableOut hx hb hd (Or.inr hhi) (mv_tg_ok ht) (hk _ _ _ _ (hw1 (Or.inr hhi)) H locs ls hR hJ hA hS hl hL)
          · have hlt : (x.toInt - lo).toNat < offs.toList.length := by omega
            have ho : offs.toList[(x.toInt - lo).toNat]? = some offs.toList[(x.toInt - lo).toNat] := List.getElem?_eq_getElem hlt
            obtain ⟨t2, ht2, hk2⟩ := mv_ts_at _ lo _ _ (hw2 hlo hhi) ho (by omega)
            exact lv_tableIn hx hb hd hlo hhi (by rw [← Array.getElem?_toList]; exact ho) (mv_tg_ok ht2) (hk _ _ _ _ hk2 H locs ls hR hJ hA hS hl hL)
      · exact hw1.elim
    · exact hw.elim
  | lookupswitch dflt ps =>
    simp only [mv_i] at hw
    split at hw
    · rename_i x st
      obtain ⟨off, t, ho, ht, hk2⟩ := mv_lk_at ps.toList hw
      exact lv_lookup hx hb hd hok ho (mv_tg_ok ht) (hk _ _ _ _ hk2 H locs ls hR hJ hA hS hl hL)
    · exact hw.elim
  | getfield ix =>
    simp only [mv_i] at hw
    split at hw
    · rename_i o st
      split at hw
      · rename_i ci f c2 e1 e2
        cases hc : Nat.beq ci c2 with
        | false => rw [hc] at hw; exact hw.elim
        | true =>
          rw [hc] at hw
          have hcc := Nat.eq_of_beq_eq_true hc
          subst hcc
          obtain ⟨C, T, N, g1, g2, g3, g4, g5, g6, g7, g8, g9, g10⟩ := hF oc ix ci f e1
          subst g3
          have hat := mv_W_in (ad := ad) (tc := tc) e2
          have hfl := mv_fs_at (f := fun k => mv_f ad h o ci k) g2
          cases hrk : refKind (mt_ft ci f) with
          | true =>
            rw [hrk] at hw
            simp only [cond_true] at hw
            split at hw
            · rename_i j hj
              exact va_get (D := D) (v := .ref (ad j)) hx hb hts g6 hown hK hR.1 o hat g1 f g2 (hts _ g4) (fun _ h9 => by rw [g5] at h9; exact h9) (by rw [hfl]; simp only [mv_f, hrk, hj, cond_true]; rfl) (mv_d1 2 hd hn rfl) (hk _ _ _ _ hw H locs ls hR hJ hA hS hl hL)
            · exact hw.elim
          | false =>
            rw [hrk] at hw
            simp only [cond_true, cond_false] at hw
            exact va_get (D := D) (v := .int (h.2.1 o f)) hx hb hts g6 hown hK hR.1 o hat g1 f g2 (hts _ g4) (fun _ h9 => by rw [g5] at h9; exact h9) (by rw [hfl]; simp only [mv_f, hrk, cond_false]) (mv_d1 2 hd hn rfl) (hk _ _ _ _ hw H locs ls hR hJ hA hS hl hL)
      · exact hw.elim
    · exact hw.elim
  | putfield ix =>
    simp only [mv_i] at hw
    split at hw
    · rename_i x o st
      split at hw
      · rename_i ci f c2 e1 e2
        cases hc : (Nat.beq ci c2 && (!mt_fin ci f || (ini && Nat.beq ci oc))) with
        | false => rw [hc] at hw; exact hw.elim
        | true =>
          rw [hc] at hw
          simp only [cond_true] at hw
          obtain ⟨hc1, hc2⟩ := (Bool.and_eq_true _ _).mp hc
          have hcc := Nat.eq_of_beq_eq_true hc1
          subst hcc
          obtain ⟨C, T, N, g1, g2, g3, g4, g5, g6, g7, g8, g9, g10⟩ := hF oc ix ci f e1
          subst g3
          have hat := mv_W_in (ad := ad) (tc := tc) e2
          have hfo : mt_fin ci f = true → ini = true ∧ C = mt_on oc := fun q => by rw [q] at hc2; have hc4 : (ini && Nat.beq ci oc) = true := hc2; obtain ⟨a1, a2⟩ := (Bool.and_eq_true _ _).mp hc4; exact ⟨a1, by rw [g10, Nat.eq_of_beq_eq_true a2]⟩
          split at hw
          · rename_i hty
            cases hfin : mt_fin ci f with
            | false => exact va_put (D := D) (v := .int x) (ty := .int) hx hb hts g6 (mt_ft ci) g7 g8 hown hK hR.1 (mv_D hJ hA) hS o hat g1 f g2 (hts _ g4) (fun _ h9 => by rw [g5] at h9; exact h9) (by rw [g9]; exact hfin) ((g7 f g2).trans (by rw [hty])) rfl rfl (by rw [List.length_map, List.length_range]; exact g2) (mv_d1 2 hd hn rfl) (fun H1 locs1 hP1 _ hS1 => hk _ _ _ _ hw H1 locs1 ls ⟨mv_P_putI e2 (by rw [hty]; rfl) hP1, mv_B_put hR.2 (fun ty n q _ => by rw [e2] at q; cases q)⟩ hJ hA hS1 hl hL)
            | true => exact va_putF (D := D) (v := .int x) (ty := .int) hx hb hts g6 (mt_ft ci) g7 g8 hown hK hR.1 (mv_D hJ hA) hS o hat g1 f g2 (hts _ g4) (fun _ h9 => by rw [g5] at h9; exact h9) (by rw [g9]; exact hfin) (hini (hfo hfin).1) (g5.trans (hfo hfin).2) ((g7 f g2).trans (by rw [hty])) rfl rfl (by rw [List.length_map, List.length_range]; exact g2) (mv_d1 2 hd hn rfl) (fun H1 locs1 hP1 _ hS1 => hk _ _ _ _ hw H1 locs1 ls ⟨mv_P_putI e2 (by rw [hty]; rfl) hP1, mv_B_put hR.2 (fun ty n q _ => by rw [e2] at q; cases q)⟩ hJ hA hS1 hl hL)
          · rename_i hty
            cases hfin : mt_fin ci f with
            | false => exact va_put (D := D) (v := .int x) (ty := .boolean) hx hb hts g6 (mt_ft ci) g7 g8 hown hK hR.1 (mv_D hJ hA) hS o hat g1 f g2 (hts _ g4) (fun _ h9 => by rw [g5] at h9; exact h9) (by rw [g9]; exact hfin) ((g7 f g2).trans (by rw [hty])) (mv_nz hw.1) hw.1 (by rw [List.length_map, List.length_range]; exact g2) (mv_d1 2 hd hn rfl) (fun H1 locs1 hP1 _ hS1 => hk _ _ _ _ hw.2 H1 locs1 ls ⟨mv_P_putI e2 (by rw [hty]; rfl) hP1, mv_B_put hR.2 (fun ty n q _ => by rw [e2] at q; cases q)⟩ hJ hA hS1 hl hL)
            | true => exact va_putF (D := D) (v := .int x) (ty := .boolean) hx hb hts g6 (mt_ft ci) g7 g8 hown hK hR.1 (mv_D hJ hA) hS o hat g1 f g2 (hts _ g4) (fun _ h9 => by rw [g5] at h9; exact h9) (by rw [g9]; exact hfin) (hini (hfo hfin).1) (g5.trans (hfo hfin).2) ((g7 f g2).trans (by rw [hty])) (mv_nz hw.1) hw.1 (by rw [List.length_map, List.length_range]; exact g2) (mv_d1 2 hd hn rfl) (fun H1 locs1 hP1 _ hS1 => hk _ _ _ _ hw.2 H1 locs1 ls ⟨mv_P_putI e2 (by rw [hty]; rfl) hP1, mv_B_put hR.2 (fun ty n q _ => by rw [e2] at q; cases q)⟩ hJ hA hS1 hl hL)
          · exact hw.elim
      · exact hw.elim
    · rename_i j o st
      split at hw
      · rename_i ci f c2 e1 e2
        cases hc : (Nat.beq ci c2 && (refKind (mt_ft ci f) && (!mt_fin ci f || (ini && Nat.beq ci oc)))) with
        | false => rw [hc] at hw; exact hw.elim
        | true =>
          rw [hc] at hw
          simp only [cond_true] at hw
          obtain ⟨hc1, hc3⟩ := (Bool.and_eq_true _ _).mp hc
          obtain ⟨hrk, hc2⟩ := (Bool.and_eq_true _ _).mp hc3
          have hcc := Nat.eq_of_beq_eq_true hc1
          subst hcc
          obtain ⟨C, T, N, g1, g2, g3, g4, g5, g6, g7, g8, g9, g10⟩ := hF oc ix ci f e1
          subst g3
          have hat := mv_W_in (ad := ad) (tc := tc) e2
          have hfo : mt_fin ci f = true → ini = true ∧ C = mt_on oc := fun q => by rw [q] at hc2; have hc4 : (ini && Nat.beq ci oc) = true := hc2; obtain ⟨a1, a2⟩ := (Bool.and_eq_true _ _).mp hc4; exact ⟨a1, by rw [g10, Nat.eq_of_beq_eq_true a2]⟩
          cases hfin : mt_fin ci f with
          | false => exact va_put (D := D) (v := .ref (ad j)) (ty := mt_ft ci f) hx hb hts g6 (mt_ft ci) g7 g8 hown hK hR.1 (mv_D hJ hA) hS o hat g1 f g2 (hts _ g4) (fun _ h9 => by rw [g5] at h9; exact h9) (by rw [g9]; exact hfin) (g7 f g2) (mv_nr hrk _).1 (mv_nr hrk _).2 (by rw [List.length_map, List.length_range]; exact g2) (mv_d1 2 hd hn rfl) (fun H1 locs1 hP1 _ hS1 => hk _ _ _ _ hw H1 locs1 ls ⟨mv_P_putR e2 hrk hP1, hR.2⟩ hJ hA hS1 hl hL)
          | true => exact va_putF (D := D) (v := .ref (ad j)) (ty := mt_ft ci f) hx hb hts g6 (mt_ft ci) g7 g8 hown hK hR.1 (mv_D hJ hA) hS o hat g1 f g2 (hts _ g4) (fun _ h9 => by rw [g5] at h9; exact h9) (by rw [g9]; exact hfin) (hini (hfo hfin).1) (g5.trans (hfo hfin).2) (g7 f g2) (mv_nr hrk _).1 (mv_nr hrk _).2 (by rw [List.length_map, List.length_range]; exact g2) (mv_d1 2 hd hn rfl) (fun H1 locs1 hP1 _ hS1 => hk _ _ _ _ hw H1 locs1 ls ⟨mv_P_putR e2 hrk hP1, hR.2⟩ hJ hA hS1 hl hL)
      · exact hw.elim
    · exact hw.elim
  | iaload =>
    simp only [mv_i] at hw
    split at hw
    · rename_i i a st
      split at hw
      · rename_i n e1
        exact va_iald hx hb hK hR.1 a 0 (mv_W_in e1) rfl hw.1 (mv_d1 0 hd hn rfl) (hk _ _ _ _ hw.2 H locs ls hR hJ hA hS hl hL)
      · exact hw.elim
    · exact hw.elim
  | caload =>
    simp only [mv_i] at hw
    split at hw
    · rename_i i a st
      split at hw
      · rename_i n e1
        exact va_cald hx hb hK hR.1 a 3 (mv_W_in e1) rfl hw.1 (mv_d1 0 hd hn rfl) (hk _ _ _ _ hw.2 H locs ls hR hJ hA hS hl hL)
      · exact hw.elim
    · exact hw.elim
  | baload =>
    simp only [mv_i] at hw
    split at hw
    · rename_i i a st
      split at hw
      · rename_i n e1
        exact va_bald hx hb hK hR.1 a 1 (mv_W_in e1) rfl hw.1 (mv_d1 0 hd hn rfl) (hk _ _ _ _ hw.2 H locs ls hR hJ hA hS hl hL)
      · rename_i n e1
        exact va_zald hx hb hK hR.1 a 2 (mv_W_in e1) rfl hw.1 (mv_d1 0 hd hn rfl) (hk _ _ _ _ hw.2 H locs ls hR hJ hA hS hl hL)
      · exact hw.elim
    · exact hw.elim
  | aaload =>
    simp only [mv_i] at hw
    split at hw
    · rename_i i a st
      split at hw
      · rename_i C n e1
        obtain ⟨hin, j, hj, hw⟩ := hw
        obtain ⟨t0, ht0⟩ := mv_ty_at (tc := tc) (hR.2 a _ e1).1
        have hv : va_rf ((h.2.2 a i.toNatClampNeg).map ad) = .ref (ad j) := by rw [hj]; rfl
        refine va_aldq hx hb hK hR.1 a t0 (f := fun k => (h.2.2 a k).map ad) (mv_W_in e1) ht0 hin (mv_d1 0 hd hn rfl) ?_
        rw [hv]
        exact hk _ _ _ _ hw H locs ls hR hJ hA hS hl hL
      · exact hw.elim
    · exact hw.elim
  | iastore =>
    simp only [mv_i] at hw
    split at hw
    · rename_i x i a st
      split at hw
      · rename_i n e1
        exact va_iast hx hb hK hR.1 (mv_D hJ hA) hS a 0 (mv_W_in e1) rfl hw.1 (mv_d1 0 hd hn rfl) (fun H1 locs1 hP1 _ hS1 => hk _ _ _ _ hw.2 H1 locs1 ls ⟨mv_P_row e1 rfl hP1, mv_B_put hR.2 (fun ty n q _ => by rw [e1] at q; cases q; exact rfl)⟩ hJ hA hS1 hl hL)
      · exact hw.elim
    · exact hw.elim
  | castore =>
    simp only [mv_i] at hw
    split at hw
    · rename_i x i a st
      split at hw
      · rename_i n e1
        exact va_cast hx hb hK hR.1 (mv_D hJ hA) hS a 3 (mv_W_in e1) rfl hw.1 (mv_d1 0 hd hn rfl) (fun H1 locs1 hP1 _ hS1 => hk _ _ _ _ hw.2 H1 locs1 ls ⟨mv_P_row e1 rfl hP1, mv_B_put hR.2 (fun ty n q _ => by rw [e1] at q; cases q; exact mv_fitc x)⟩ hJ hA hS1 hl hL)
      · exact hw.elim
    · exact hw.elim
  | bastore =>
    simp only [mv_i] at hw
    split at hw
    · rename_i x i a st
      split at hw
      · rename_i n e1
        exact va_bast hx hb hK hR.1 (mv_D hJ hA) hS a 1 (mv_W_in e1) rfl hw.1 (mv_d1 0 hd hn rfl) (fun H1 locs1 hP1 _ hS1 => hk _ _ _ _ hw.2 H1 locs1 ls ⟨mv_P_row e1 rfl hP1, mv_B_put hR.2 (fun ty n q _ => by rw [e1] at q; cases q; exact mv_fitb x)⟩ hJ hA hS1 hl hL)
      · rename_i n e1
        exact va_zast hx hb hK hR.1 (mv_D hJ hA) hS a 2 (mv_W_in e1) rfl hw.1 (mv_d1 0 hd hn rfl) (fun H1 locs1 hP1 _ hS1 => hk _ _ _ _ hw.2 H1 locs1 ls ⟨mv_P_row e1 rfl hP1, mv_B_put hR.2 (fun ty n q _ => by rw [e1] at q; cases q; exact mv_fitz x)⟩ hJ hA hS1 hl hL)
      · exact hw.elim
    · exact hw.elim
  | arraylength =>
    simp only [mv_i] at hw
    split at hw
    · rename_i a st
      split at hw
      · rename_i ty n e1
        obtain ⟨t0, ht0⟩ := mv_ty_at (tc := tc) (hR.2 a _ e1).1
        exact va_alen hx hb hK hR.1 a t0 (mv_W_in e1) ht0 rfl (mv_d1 0 hd hn rfl) (hk _ _ _ _ hw H locs ls hR hJ hA hS hl hL)
      · exact hw.elim
    · exact hw.elim
  | invokestatic ix =>
    simp only [mv_i] at hw
    split at hw
    · rename_i mj e1
      simp only [mv_cal] at hw
      cases hc : (Nat.ble (mt_ar mj) st.length && Nat.ble (((st.drop (mt_ar mj)).map fun v => v.category).sum) 8) with
      | false => rw [hc] at hw; exact hw.elim
      | true =>
        rw [hc] at hw
        simp only [cond_true] at hw
        obtain ⟨hc1, hc2⟩ := (Bool.and_eq_true _ _).mp hc
        have hc1 := Nat.le_of_ble_eq_true hc1
        have hc2 := Nat.le_of_ble_eq_true hc2
        obtain ⟨r, h1, hEv, hk2⟩ := hw
        obtain ⟨hs1, oc2, y, cc2, nL2, rt2, hm2, hMet⟩ := hE _ _ _ _ _ hEv
        obtain ⟨oc3, y3, cc3, nL3, rt3, hm3, hlx⟩ := hLk.1 oc ix mj e1
        cases (Option.some.inj (hm2.symm.trans hm3))
        obtain ⟨w1, w2, w3, w4, w5, w6, w7⟩ := hM mj _ _ _ _ _ hm2
        have hroom : d + 1 ≤ R.frames ∧ 8 + (nL2 + 11) + mt_lo * d ≤ R.locals := ⟨hRm.1, by have := hRm.2; rw [Nat.mul_succ] at this; omega⟩
        have hA2 : ∀ q, mv_A ad h.1.length q → A q := fun q hq => by obtain ⟨i, hi, rfl⟩ := hq; exact hA i hi
        have hpre : ∀ U : State, U.heap = H → s.WarmedH U.vm → mv_Pc ad sa sv tc D (st.take (mt_ar mj)).reverse h (((st.take (mt_ar mj)).reverse).map (mv_v ad sa)).toArray U := fun U hU hW => ⟨rfl, by rw [hU]; exact hR, va_K.moved hW.alike hK, mv_X_to hX hS hA2 hU hW, hJ⟩
        have hstk := mv_stk (f := mv_v ad sa) st (mt_ar mj)
        have hrm : (((st.drop (mt_ar mj)).map (mv_v ad sa)).map fun v => v.category).sum ≤ 8 := by rw [mv_cats]; exact hc2
        have hlen : (((st.take (mt_ar mj)).reverse).map (mv_v ad sa)).length = (mt_ar mj) := by rw [List.length_map, List.length_reverse, List.length_take]; omega
        have hrun := va_runS (H := H) (locs := locs) (cells := cells) (slots := slots) (below := below) (meth := meth) (e := e) (g := F0 m pc ls (st.map (mv_v ad sa))) ⟨hx, hb, hml, hown, hts⟩ (hMet l ad sa sv tc D) ⟨callB_of (mt_ar mj) hts (mv_good hG w1) rfl rfl rfl (hts _ w2) (hts _ hlx.1) w5 hroom, hts _ hlx.2⟩ ⟨mv_blind, hpre⟩ rfl hlen hl.1 hstk (lv_room hrm) (mv_d1 2 hd hn rfl) hcs
        refine mv_callR hrun hS hA2 (fun H1 locs1 hR1 hS1 => ?_)
        rw [← mv_toL]
        exact hk _ _ _ _ hk2 H1 locs1 ls hR1 (by rw [hs1]; exact hJ) (by rw [hs1]; exact hA) hS1 hl hL
    · rename_i mj e1
      simp only [mv_cal] at hw
      cases hc : (Nat.ble (mt_ar mj) st.length && Nat.ble (((st.drop (mt_ar mj)).map fun v => v.category).sum) 8) with
      | false => rw [hc] at hw; exact hw.elim
      | true =>
        rw [hc] at hw
        simp only [cond_true] at hw
        obtain ⟨hc1, hc2⟩ := (Bool.and_eq_true _ _).mp hc
        have hc1 := Nat.le_of_ble_eq_true hc1
        have hc2 := Nat.le_of_ble_eq_true hc2
        obtain ⟨r, h1, hEv, hk2⟩ := hw
        obtain ⟨hs1, oc2, y, cc2, nL2, rt2, hm2, hMet⟩ := hE _ _ _ _ _ hEv
        obtain ⟨oc3, y3, cc3, nL3, rt3, hm3, hlx⟩ := hLk.2.1 oc ix mj e1
        cases (Option.some.inj (hm2.symm.trans hm3))
        obtain ⟨w1, w2, w3, w4, w5, w6, w7⟩ := hM mj _ _ _ _ _ hm2
        have hroom : d + 1 ≤ R.frames ∧ 8 + (nL2 + 11) + mt_lo * d ≤ R.locals := ⟨hRm.1, by have := hRm.2; rw [Nat.mul_succ] at this; omega⟩
        have hA2 : ∀ q, mv_A ad h.1.length q → A q := fun q hq => by obtain ⟨i, hi, rfl⟩ := hq; exact hA i hi
        have hpre : ∀ U : State, U.heap = H → s.WarmedH U.vm → mv_Pc ad sa sv tc D (st.take (mt_ar mj)).reverse h (((st.take (mt_ar mj)).reverse).map (mv_v ad sa)).toArray U := fun U hU hW => ⟨rfl, by rw [hU]; exact hR, va_K.moved hW.alike hK, mv_X_to hX hS hA2 hU hW, hJ⟩
        have hstk := mv_stk (f := mv_v ad sa) st (mt_ar mj)
        have hrm : (((st.drop (mt_ar mj)).map (mv_v ad sa)).map fun v => v.category).sum ≤ 8 := by rw [mv_cats]; exact hc2
        have hlen : (((st.take (mt_ar mj)).reverse).map (mv_v ad sa)).length = (mt_ar mj) := by rw [List.length_map, List.length_reverse, List.length_take]; omega
        obtain ⟨host, hhost⟩ := hlx.2
        have hrun := va_runSN (H := H) (locs := locs) (cells := cells) (slots := slots) (below := below) (meth := meth) (e := e) (g := F0 m pc ls (st.map (mv_v ad sa))) ⟨hx, hb, hml, hown, hts⟩ (hMet l ad sa sv tc D) ⟨va_cnB (mt_ar mj) hts (mv_good hG w1) rfl rfl rfl (hX.2.2 _ hhost) (hts _ w2) w5 hroom, hts _ hlx.1, trivial⟩ ⟨mv_blind, hpre⟩ rfl hlen hl.1 hstk (lv_room hrm) (mv_d1 2 hd hn rfl) hcs
        refine mv_callR hrun hS hA2 (fun H1 locs1 hR1 hS1 => ?_)
        rw [← mv_toL]
        exact hk _ _ _ _ hk2 H1 locs1 ls hR1 (by rw [hs1]; exact hJ) (by rw [hs1]; exact hA) hS1 hl hL
    · split at hw
      · rename_i n dp b sp a st
        split at hw
        · rename_i ty n0 ty2 n1 ea eb
          cases hc : (decide (ty = ty2) && (!refKind ty && Nat.ble ((st.map fun v => v.category).sum) 8)) with
          | false => rw [hc] at hw; exact hw.elim
          | true =>
            rw [hc] at hw
            simp only [cond_true] at hw
            obtain ⟨hc1, hc2⟩ := (Bool.and_eq_true _ _).mp hc
            obtain ⟨hc3, hc4⟩ := (Bool.and_eq_true _ _).mp hc2
            have hc1 := of_decide_eq_true hc1
            subst hc1
            have hrk : refKind ty = false := by cases hq : refKind ty with | false => rfl | true => rw [hq] at hc3; cases hc3
            have hc4 := Nat.le_of_ble_eq_true hc4
            obtain ⟨k1, k2, k3, k4, k5, hw⟩ := hw
            obtain ⟨l1, l2, l3, l4⟩ := hLk.2.2.2.2.1 oc ix _ (by assumption)
            obtain ⟨t0, ht0⟩ := mv_ty_at (tc := tc) (hR.2 a _ ea).1
            have hata : (mv_W ad tc h)[a]? = some (ad a, .inl (tc ty, n0, .inl (h.2.1 a))) := by rw [mv_W_in ea]; simp only [mv_c, hrk, cond_false]
            have hatb : (mv_W ad tc h)[b]? = some (ad b, .inl (tc ty, n1, .inl (h.2.1 b))) := by rw [mv_W_in eb]; simp only [mv_c, hrk, cond_false]
            have hfa := (hR.2 a _ ea).2 ty n0 rfl hrk
            have hfb := (hR.2 b _ eb).2 ty n1 rfl hrk
            refine va_copyi hx hb (hml.trans hl.1.symm) hown (hts _ l1) (hts _ l2) (hts _ l3) (hts _ l4) hK hR.1 (mv_D hJ hA) hS a b t0 t0 hata hatb ht0 ht0 hrk k1 k2 k3 k4 k5 (fun i _ => hfa _) (by have := hRm.1; omega) ?_ (mv_d1 2 hd hn rfl) (fun H1 locs1 hP1 _ hS1 => hk _ _ _ _ hw H1 locs1 ls ⟨mv_P_row eb hrk hP1, mv_B_cpy hR.2 hfa hfb (fun t2 n2 q => by rw [eb] at q; cases q; rfl)⟩ hJ hA hS1 hl hL)
            have h8 := hRm.2
            rw [mv_cats]
            have h9 : nativeFrameWords "java/lang/System" "arraycopy" 5 = 7 := by decide
            rw [h9]
            have h10 : 26 ≤ mt_lo * (d + 1) := Nat.le_trans (by decide) (Nat.le_mul_of_pos_right mt_lo (Nat.succ_pos d))
            omega
        · exact hw.elim
      · exact hw.elim
    · split at hw
      · rename_i y x st
        cases hc : Nat.ble ((st.map fun v => v.category).sum) 8 with
        | false => rw [hc] at hw; exact hw.elim
        | true =>
          rw [hc] at hw
          have hc := Nat.le_of_ble_eq_true hc
          obtain ⟨l1, l2, l3, l4⟩ := hLk.2.2.2.2.2.1 oc ix _ (by assumption)
          refine va_mmax hx hb (hml.trans hl.1.symm) hown (hts _ l1) (hts _ l2) (hts _ l3) (hts _ l4) (by have := hRm.1; omega) ?_ hcs.1 hcs.2 (mv_d1 2 hd hn rfl) (hk _ _ _ _ hw H locs ls hR hJ hA hS hl hL)
          rw [mv_cats]
          have h8 := hRm.2
          have h10 : 26 ≤ mt_lo * (d + 1) := Nat.le_trans (by decide) (Nat.le_mul_of_pos_right mt_lo (Nat.succ_pos d))
          omega
      · exact hw.elim
    · split at hw
      · rename_i y x st
        cases hc : Nat.ble ((st.map fun v => v.category).sum) 8 with
        | false => rw [hc] at hw; exact hw.elim
        | true =>
          rw [hc] at hw
          have hc := Nat.le_of_ble_eq_true hc
          obtain ⟨l1, l2, l3, l4⟩ := hLk.2.2.2.2.2.2.1 oc ix _ (by assumption)
          refine va_mmin hx hb (hml.trans hl.1.symm) hown (hts _ l1) (hts _ l2) (hts _ l3) (hts _ l4) (by have := hRm.1; omega) ?_ hcs.1 hcs.2 (mv_d1 2 hd hn rfl) (hk _ _ _ _ hw H locs ls hR hJ hA hS hl hL)
          rw [mv_cats]
          have h8 := hRm.2
          have h10 : 26 ≤ mt_lo * (d + 1) := Nat.le_trans (by decide) (Nat.le_mul_of_pos_right mt_lo (Nat.succ_pos d))
          omega
      · exact hw.elim
    · split at hw
      · rename_i x st
        cases hc : Nat.ble ((st.map fun v => v.category).sum) 8 with
        | false => rw [hc] at hw; exact hw.elim
        | true =>
          rw [hc] at hw
          have hc := Nat.le_of_ble_eq_true hc
          obtain ⟨l1, l2, l3, l4⟩ := hLk.2.2.2.2.2.2.2 oc ix _ (by assumption)
          refine va_mabs hx hb (hml.trans hl.1.symm) hown (hts _ l1) (hts _ l2) (hts _ l3) (hts _ l4) (by have := hRm.1; omega) ?_ hcs.1 hcs.2 (mv_d1 2 hd hn rfl) (hk _ _ _ _ hw H locs ls hR hJ hA hS hl hL)
          rw [mv_cats]
          have h8 := hRm.2
          have h10 : 26 ≤ mt_lo * (d + 1) := Nat.le_trans (by decide) (Nat.le_mul_of_pos_right mt_lo (Nat.succ_pos d))
          omega
      · exact hw.elim
    · exact hw.elim
  | invokevirtual ix =>
    simp only [mv_i] at hw
    split at hw
    · rename_i mj e1
      cases hcv : mv_rcv (mt_ar mj) mj st h with
      | false => rw [hcv] at hw; exact hw.elim
      | true =>
       rw [hcv] at hw
       simp only [cond_true] at hw
       simp only [mv_rcv] at hcv
       split at hcv
       · rename_i jr rest hdr
         split at hcv
         · rename_i cr hcr
           have hcv := Nat.eq_of_beq_eq_true hcv
           simp only [mv_cal] at hw
           cases hc : (Nat.ble (mt_ar mj + 1) st.length && Nat.ble (((st.drop (mt_ar mj + 1)).map fun v => v.category).sum) 8) with
           | false => rw [hc] at hw; exact hw.elim
           | true =>
             rw [hc] at hw
             simp only [cond_true] at hw
             obtain ⟨hc1, hc2⟩ := (Bool.and_eq_true _ _).mp hc
             have hc1 := Nat.le_of_ble_eq_true hc1
             have hc2 := Nat.le_of_ble_eq_true hc2
             obtain ⟨r, h1, hEv, hk2⟩ := hw
             obtain ⟨hs1, oc2, y, cc2, nL2, rt2, hm2, hMet⟩ := hE _ _ _ _ _ hEv
             obtain ⟨oc3, y3, cc3, nL3, rt3, hm3, hlx⟩ := hLk.2.2.1 oc ix mj e1
             cases (Option.some.inj (hm2.symm.trans hm3))
             obtain ⟨w1, w2, w3, w4, w5, w6, w7⟩ := hM mj _ _ _ _ _ hm2
             have hroom : d + 1 ≤ R.frames ∧ 8 + (nL2 + 11) + mt_lo * d ≤ R.locals := ⟨hRm.1, by have := hRm.2; rw [Nat.mul_succ] at this; omega⟩
             have hA2 : ∀ q, mv_A ad h.1.length q → A q := fun q hq => by obtain ⟨i, hi, rfl⟩ := hq; exact hA i hi
             have hpre : ∀ U : State, U.heap = H → s.WarmedH U.vm → mv_Pc ad sa sv tc D (st.take (mt_ar mj + 1)).reverse h (((st.take (mt_ar mj + 1)).reverse).map (mv_v ad sa)).toArray U := fun U hU hW => ⟨rfl, by rw [hU]; exact hR, va_K.moved hW.alike hK, mv_X_to hX hS hA2 hU hW, hJ⟩
             have hstk := mv_stk (f := mv_v ad sa) st (mt_ar mj + 1)
             have hrm : (((st.drop (mt_ar mj + 1)).map (mv_v ad sa)).map fun v => v.category).sum ≤ 8 := by rw [mv_cats]; exact hc2
             have hlen : (((st.take (mt_ar mj + 1)).reverse).map (mv_v ad sa)).length = (mt_ar mj + 1) := by rw [List.length_map, List.length_reverse, List.length_take]; omega
             obtain ⟨d1, d2, d3, d4⟩ := mv_drop hdr
             obtain ⟨v1, v2, v3, q, v4, v5⟩ := hlx
             have hcc : cr = oc2 := by rw [hcv, mt_mc, hm2]
             have hav : (st.take (mt_ar mj + 1)).reverse = .ref jr :: (st.take (mt_ar mj)).reverse := by rw [d1, List.reverse_append]; rfl
             have hrecv := va_recv hK hR.1 (q := q) (by rw [hcc]; exact v4) (mv_W_in hcr)
             rw [v5] at hrecv
             have hpre2 : ∀ U : State, U.heap = H → s.WarmedH U.vm → mv_Pc ad sa sv tc D (st.take (mt_ar mj + 1)).reverse h (Value.ref (ad jr) :: ((st.take (mt_ar mj)).reverse).map (mv_v ad sa)).toArray U := fun U hU hW => by have := hpre U hU hW; rw [hav] at this ⊢; exact this
             have hstk2 : st.map (mv_v ad sa) = (((st.take (mt_ar mj)).reverse).map (mv_v ad sa)).reverse ++ .ref (ad jr) :: (st.drop (mt_ar mj + 1)).map (mv_v ad sa) := by have := mv_stk (f := mv_v ad sa) st (mt_ar mj); rw [hdr] at this; rw [d2]; exact this
             have hrun := va_runV (H := H) (locs := locs) (cells := cells) (slots := slots) (below := below) (meth := meth) (e := e) (g := F0 m pc ls (st.map (mv_v ad sa))) ⟨hx, hb, hml, hown, hts⟩ (hMet l ad sa sv tc D) ⟨callB_of (mt_ar mj) hts (mv_good hG w1) rfl rfl rfl (hts _ w2) (hts _ v1) w5 hroom, hts _ v2, hts _ v3⟩ ⟨mv_blind, hrecv, hpre2⟩ rfl (by rw [List.length_map, List.length_reverse]; exact d4) hl.1 hstk2 (lv_room hrm) (mv_d1 2 hd hn rfl) hcs
             refine mv_callR hrun hS hA2 (fun H1 locs1 hR1 hS1 => ?_)
             rw [← mv_toL]
             exact hk _ _ _ _ hk2 H1 locs1 ls hR1 (by rw [hs1]; exact hJ) (by rw [hs1]; exact hA) hS1 hl hL
         · cases hcv
       · cases hcv
    · rename_i mj e1
      split at hw
      · rename_i qs rest hdr
        cases hcv : Nat.blt qs.toNat mt_sn with
        | false => rw [hcv] at hw; exact hw.elim
        | true =>
         rw [hcv] at hw
         simp only [cond_true] at hw
         have hcv := Nat.le_of_ble_eq_true hcv
         simp only [mv_cal] at hw
         cases hc : (Nat.ble (mt_ar mj + 1) st.length && Nat.ble (((st.drop (mt_ar mj + 1)).map fun v => v.category).sum) 8) with
         | false => rw [hc] at hw; exact hw.elim
         | true =>
           rw [hc] at hw
           simp only [cond_true] at hw
           obtain ⟨hc1, hc2⟩ := (Bool.and_eq_true _ _).mp hc
           have hc1 := Nat.le_of_ble_eq_true hc1
           have hc2 := Nat.le_of_ble_eq_true hc2
           obtain ⟨r, h1, hEv, hk2⟩ := hw
           obtain ⟨hs1, oc2, y, cc2, nL2, rt2, hm2, hMet⟩ := hE _ _ _ _ _ hEv
           obtain ⟨oc3, y3, cc3, nL3, rt3, hm3, hlx⟩ := hLk.2.2.2.1 oc ix mj e1
           cases (Option.some.inj (hm2.symm.trans hm3))
           obtain ⟨w1, w2, w3, w4, w5, w6, w7⟩ := hM mj _ _ _ _ _ hm2
           have hroom : d + 1 ≤ R.frames ∧ 8 + (nL2 + 11) + mt_lo * d ≤ R.locals := ⟨hRm.1, by have := hRm.2; rw [Nat.mul_succ] at this; omega⟩
           have hA2 : ∀ q, mv_A ad h.1.length q → A q := fun q hq => by obtain ⟨i, hi, rfl⟩ := hq; exact hA i hi
           have hpre : ∀ U : State, U.heap = H → s.WarmedH U.vm → mv_Pc ad sa sv tc D (st.take (mt_ar mj + 1)).reverse h (((st.take (mt_ar mj + 1)).reverse).map (mv_v ad sa)).toArray U := fun U hU hW => ⟨rfl, by rw [hU]; exact hR, va_K.moved hW.alike hK, mv_X_to hX hS hA2 hU hW, hJ⟩
           have hstk := mv_stk (f := mv_v ad sa) st (mt_ar mj + 1)
           have hrm : (((st.drop (mt_ar mj + 1)).map (mv_v ad sa)).map fun v => v.category).sum ≤ 8 := by rw [mv_cats]; exact hc2
           have hlen : (((st.take (mt_ar mj + 1)).reverse).map (mv_v ad sa)).length = (mt_ar mj + 1) := by rw [List.length_map, List.length_reverse, List.length_take]; omega
           obtain ⟨d1, d2, d3, d4⟩ := mv_drop hdr
           obtain ⟨v1, v2, v3, v5⟩ := hlx
           have hav : (st.take (mt_ar mj + 1)).reverse = .float qs :: (st.take (mt_ar mj)).reverse := by rw [d1, List.reverse_append]; rfl
           have hrecv := vk_recv hX.1 hcv hS
           rw [← v5] at hrecv
           have hpre2 : ∀ U : State, U.heap = H → s.WarmedH U.vm → mv_Pc ad sa sv tc D (st.take (mt_ar mj + 1)).reverse h (Value.ref (sa qs.toNat) :: ((st.take (mt_ar mj)).reverse).map (mv_v ad sa)).toArray U := fun U hU hW => by have := hpre U hU hW; rw [hav] at this ⊢; exact this
           have hstk2 : st.map (mv_v ad sa) = (((st.take (mt_ar mj)).reverse).map (mv_v ad sa)).reverse ++ .ref (sa qs.toNat) :: (st.drop (mt_ar mj + 1)).map (mv_v ad sa) := by have := mv_stk (f := mv_v ad sa) st (mt_ar mj); rw [hdr] at this; rw [d2]; exact this
           have hrun := va_runV (H := H) (locs := locs) (cells := cells) (slots := slots) (below := below) (meth := meth) (e := e) (g := F0 m pc ls (st.map (mv_v ad sa))) ⟨hx, hb, hml, hown, hts⟩ (hMet l ad sa sv tc D) ⟨callB_of (mt_ar mj) hts (mv_good hG w1) rfl rfl rfl (hts _ w2) (hts _ v1) w5 hroom, hts _ v2, hts _ v3⟩ ⟨mv_blind, hrecv, hpre2⟩ rfl (by rw [List.length_map, List.length_reverse]; exact d4) hl.1 hstk2 (lv_room hrm) (mv_d1 2 hd hn rfl) hcs
           refine mv_callR hrun hS hA2 (fun H1 locs1 hR1 hS1 => ?_)
           rw [← mv_toL]
           exact hk _ _ _ _ hk2 H1 locs1 ls hR1 (by rw [hs1]; exact hJ) (by rw [hs1]; exact hA) hS1 hl hL
      · exact hw.elim
    · exact hw.elim
  | ldc ix =>
    simp only [mv_i] at hw
    split at hw
    · rename_i v e1
      exact lv_ldc hx hb hown (hts _ (hC.1 _ _ _ e1)) (mv_d1 1 hd hn rfl) (hk _ _ _ _ hw H locs ls hR hJ hA hS hl hL)
    · rename_i q e1
      obtain ⟨tx, hZ⟩ := hX.2.1 _ _ _ e1
      exact va_ldcS hx hb hown hZ (mv_d1 1 hd hn rfl) (hk _ _ _ _ hw H locs ls hR hJ hA hS hl hL)
    · exact hw.elim
  | ldc_w ix =>
    simp only [mv_i] at hw
    split at hw
    · rename_i v e1
      exact lv_ldcw hx hb hown (hts _ (hC.1 _ _ _ e1)) (mv_d1 2 hd hn rfl) (hk _ _ _ _ hw H locs ls hR hJ hA hS hl hL)
    · rename_i q e1
      obtain ⟨tx, hZ⟩ := hX.2.1 _ _ _ e1
      exact mv_ldcwS hx hb hown hZ (mv_d1 2 hd hn rfl) (hk _ _ _ _ hw H locs ls hR hJ hA hS hl hL)
    · exact hw.elim
  | ldc2_w ix =>
    simp only [mv_i] at hw
    split at hw
    · rename_i v e1
      exact lv_ldc2 hx hb hown (hts _ (hC.2 _ _ _ e1)) (mv_d1 2 hd hn rfl) (hk _ _ _ _ hw H locs ls hR hJ hA hS hl hL)
    · exact hw.elim
  | ireturn =>
    simp only [mv_i] at hw
    split at hw
    · rename_i x
      split at hw
      · subst hQ
        exact W.zret hx hb hr hw.1 (fun t ht hW => hRt _ _ H locs hw.2 hR hS t ht hW) (fun q hq => hfree _ (hS.2.2 q hq)) (mv_d1 0 hd hn rfl) hlocks
      · exact hw.elim
    · exact hw.elim
  | areturn =>
    simp only [mv_i] at hw
    split at hw
    · rename_i j
      split at hw
      · subst hQ
        exact W.aret hx hb hr (Or.inl ⟨_, rfl⟩) (Or.inr ⟨_, rfl⟩) (fun t ht hW => hRt _ _ H locs hw hR hS t ht hW) (fun q hq => hfree _ (hS.2.2 q hq)) (mv_d1 0 hd hn rfl) hlocks
      · subst hQ
        exact W.aret hx hb hr (Or.inr ⟨_, rfl⟩) (Or.inr ⟨_, rfl⟩) (fun t ht hW => hRt _ _ H locs hw hR hS t ht hW) (fun q hq => hfree _ (hS.2.2 q hq)) (mv_d1 0 hd hn rfl) hlocks
      · exact hw.elim
    · exact hw.elim
  | return_ =>
    simp only [mv_i] at hw
    split at hw
    · subst hQ
      exact W.vret hx hb hr (fun t ht hW => hRt _ _ H locs hw hR hS t ht hW) (fun q hq => hfree _ (hS.2.2 q hq)) (mv_d1 0 hd hn rfl) hlocks
    · exact hw.elim
  | _ => exact hw.elim
end MVS
