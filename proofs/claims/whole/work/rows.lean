section
/-! TABLES (a stub for the first rounds) -/
def mt_cl : List vw_C := []
def mt_ft (ci k : Nat) : FieldType := match ci, k with
  | _, _ => .int
def mt_fin (ci k : Nat) : Bool := match ci, k with
  | _, _ => false
def mt_N (ci : Nat) : Nat := match ci with
  | _ => 0
def mt_on (oc : Nat) : String := match oc with
  | _ => ""
def mt_TB : List Cond := []
/-- a method: its class's number, name, code, locals, what it answers -/
def mt_m (mi : Nat) : Option (Nat × MethodName × ByteArray × Nat × Option FieldType) := match mi with
  | _ => none
def mt_ar (mi : Nat) : Nat := match mi with
  | _ => 0
def mt_tb (mi pc : Nat) : Option Instr := match mi, pc with
  | _, _ => none
def mt_lf (oc ix : Nat) : Option (Nat × Nat) := match oc, ix with
  | _, _ => none
def mt_lm (oc ix : Nat) : Option (Nat × Nat) := match oc, ix with
  | _, _ => none
def mt_lc (oc ix : Nat) : Option (Int32 ⊕ UInt32) := match oc, ix with
  | _, _ => none
def mt_ll (oc ix : Nat) : Option Int64 := match oc, ix with
  | _, _ => none
def mt_sn : Nat := 0
def mt_sl : List Nat := []
def mt_sb : List (List Int32) := []
def mt_nw : List (String × Nat × MethodName × String) := []
def mt_lo : Nat := 33
end
section
/-! THE SMALL MACHINE: numbered cells, their int slots and their references; what it does is what the machine does (mv_snd) -/
abbrev mv_Sh : Type := (FieldType × Nat) ⊕ Nat
abbrev mv_Hp : Type := List mv_Sh × (Nat → Nat → Int32) × (Nat → Nat → Option Nat)
abbrev mv_Ls : Type := List (Option Value)
/-- another row for a cell -/
def mv_rw {α : Type} (f : Nat → Nat → α) (a : Nat) (g : Nat → α) : Nat → Nat → α := fun b => bif Nat.beq b a then g else f b
theorem mv_rw_s {α : Type} (f : Nat → Nat → α) (a : Nat) (g : Nat → α) : mv_rw f a g a = g := by simp [mv_rw, Nat.beq_eq]
theorem mv_rw_n {α : Type} (f : Nat → Nat → α) {a b : Nat} (g : Nat → α) (h : b ≠ a) : mv_rw f a g b = f b := by
  have h1 : Nat.beq b a = false := by
    cases hb : Nat.beq b a with
    | false => rfl
    | true => exact absurd (Nat.eq_of_beq_eq_true hb) h
  simp [mv_rw, h1]
/-- a value of the small machine as the machine has it: cell i lies at ad i; string constants are told by float -/
def mv_v (ad : Nat → Nat) (sa : Nat → Nat) : Value → Value
  | .ref i => .ref (ad i)
  | .float k => .ref (sa k.toNat)
  | v => v
theorem mv_v_cat (ad : Nat → Nat) (sa : Nat → Nat) (v : Value) : (mv_v ad sa v).category = v.category := by cases v <;> rfl
def mv_f (ad : Nat → Nat) (h : mv_Hp) (i ci k : Nat) : Value := bif refKind (mt_ft ci k) then va_rf ((h.2.2 i k).map ad) else .int (h.2.1 i k)
def mv_c (ad : Nat → Nat) (tc : FieldType → ClassId) (h : mv_Hp) (i : Nat) : mv_Sh → va_E
  | .inl (ty, n) => .inl (tc ty, n, bif refKind ty then .inr (.inr (.inr (.inr (fun k => (h.2.2 i k).map ad)))) else .inl (h.2.1 i))
  | .inr ci => .inr (ci, (List.range (mt_N ci)).map (fun k => mv_f ad h i ci k))
def mv_W (ad : Nat → Nat) (tc : FieldType → ClassId) (h : mv_Hp) : va_W := h.1.mapIdx (fun i sh => (ad i, mv_c ad tc h i sh))
theorem mv_W_at (ad : Nat → Nat) (tc : FieldType → ClassId) (h : mv_Hp) (i : Nat) : (mv_W ad tc h)[i]? = (h.1[i]?).map (fun sh => (ad i, mv_c ad tc h i sh)) := by
  unfold mv_W
  rw [List.getElem?_mapIdx]
theorem mv_W_in {ad : Nat → Nat} {tc : FieldType → ClassId} {h : mv_Hp} {i : Nat} {sh : mv_Sh} (e : h.1[i]? = some sh) : (mv_W ad tc h)[i]? = some (ad i, mv_c ad tc h i sh) := by
  rw [mv_W_at, e]; rfl
/-- the world's addresses -/
def mv_A (ad : Nat → Nat) (n : Nat) : Nat → Prop := fun q => ∃ i, i < n ∧ ad i = q
def mv_J (ad : Nat → Nat) (n : Nat) : Prop := ∀ i j, i < n → j < n → ad i = ad j → i = j
theorem mv_D {ad : Nat → Nat} {tc : FieldType → ClassId} {h : mv_Hp} {A : Nat → Prop} (hJ : mv_J ad h.1.length) (hA : ∀ i, i < h.1.length → A (ad i)) : va_D A (mv_W ad tc h) := by
  refine ⟨fun i j p q hp hq e => ?_, fun k q hk => ?_⟩
  · rw [mv_W_at] at hp hq
    obtain ⟨a, ha, rfl⟩ := Option.map_eq_some_iff.mp hp
    obtain ⟨b, hb, rfl⟩ := Option.map_eq_some_iff.mp hq
    exact hJ i j (List.getElem?_eq_some_iff.mp ha).1 (List.getElem?_eq_some_iff.mp hb).1 e
  · rw [mv_W_at] at hk
    obtain ⟨a, ha, rfl⟩ := Option.map_eq_some_iff.mp hk
    exact hA k (List.getElem?_eq_some_iff.mp ha).1
/-- one cell changes -/
theorem mv_W_set {ad : Nat → Nat} {tc : FieldType → ClassId} {h h' : mv_Hp} {a : Nat} {sh : mv_Sh} (hs : h'.1 = h.1) (ha : h.1[a]? = some sh) (hk : ∀ i, i ≠ a → ∀ s, mv_c ad tc h' i s = mv_c ad tc h i s) {x : va_E} (hx : x = mv_c ad tc h' a sh) :
    (mv_W ad tc h).set a (ad a, x) = mv_W ad tc h' := by
  apply List.ext_getElem?
  intro i
  rw [mv_W_at, hs, List.getElem?_set]
  by_cases hi : a = i
  · subst hi
    have hl : a < (mv_W ad tc h).length := by
      have := (List.getElem?_eq_some_iff.mp (mv_W_in (ad := ad) (tc := tc) ha)).1
      exact this
    rw [if_pos rfl, if_pos hl, ha, hx]
    rfl
  · rw [if_neg hi, mv_W_at]
    cases h.1[i]? with
    | none => rfl
    | some s => simp only [Option.map_some]; rw [hk i (fun e => hi e.symm) s]
theorem mv_c_V {ad : Nat → Nat} {tc : FieldType → ClassId} {S : List mv_Sh} {V : Nat → Nat → Int32} {Rf : Nat → Nat → Option Nat} {a : Nat} {g : Nat → Int32} : ∀ i, i ≠ a → ∀ s, mv_c ad tc (S, mv_rw V a g, Rf) i s = mv_c ad tc (S, V, Rf) i s := by
  intro i hi s
  have e : mv_rw V a g i = V i := mv_rw_n V g hi
  rcases s with ⟨ty, n⟩ | ci
  · simp only [mv_c, e]
  · simp only [mv_c, mv_f, e]
theorem mv_c_R {ad : Nat → Nat} {tc : FieldType → ClassId} {S : List mv_Sh} {V : Nat → Nat → Int32} {Rf : Nat → Nat → Option Nat} {a : Nat} {g : Nat → Option Nat} : ∀ i, i ≠ a → ∀ s, mv_c ad tc (S, V, mv_rw Rf a g) i s = mv_c ad tc (S, V, Rf) i s := by
  intro i hi s
  have e : mv_rw Rf a g i = Rf i := mv_rw_n Rf g hi
  rcases s with ⟨ty, n⟩ | ci
  · simp only [mv_c, e]
  · simp only [mv_c, mv_f, e]
/-- the fields of an object, one of them set -/
theorem mv_fs_set {n k : Nat} {f : Nat → Value} {x : Value} : ((List.range n).map f).set k x = (List.range n).map (fun j => if j = k then x else f j) := by
  apply List.ext_getElem?
  intro i
  rw [List.getElem?_set, List.getElem?_map, List.getElem?_map]
  by_cases hn : i < n
  · rw [List.getElem?_range hn]
    by_cases hi : k = i
    · subst hi
      simp [hn]
    · have h2 : ¬ i = k := fun e => hi e.symm
      simp [hi, h2]
  · have h3 : (List.range n)[i]? = none := List.getElem?_eq_none (by simpa using hn)
    rw [h3]
    by_cases hi : k = i
    · subst hi
      simp [hn]
    · simp [hi]
theorem mv_fs_at {n k : Nat} {f : Nat → Value} (hk : k < n) : ((List.range n).map f)[k]? = some (f k) := by
  rw [List.getElem?_map, List.getElem?_range hk]; rfl
/-- what lies in a frame's places -/
def mv_ps (f : Value → Value) : Nat → mv_Ls → List (Nat × Value)
  | _, [] => []
  | i, none :: L => mv_ps f (i + 1) L
  | i, some v :: L => (i, f v) :: mv_ps f (i + 1) L
theorem mv_ps_mem {f : Value → Value} : ∀ (L : mv_Ls) (i : Nat) (q : Nat × Value), q ∈ mv_ps f i L ↔ ∃ (k : Nat) (v : Value), L[k]? = some (some v) ∧ q = (i + k, f v) := by
  intro L
  induction L with
  | nil => intro i q; simp [mv_ps]
  | cons x L ih =>
    intro i q
    have step : (∃ (k : Nat) (v : Value), (x :: L)[k]? = some (some v) ∧ q = (i + k, f v)) ↔ ((∃ v, x = some v ∧ q = (i, f v)) ∨ ∃ (k : Nat) (v : Value), L[k]? = some (some v) ∧ q = (i + 1 + k, f v)) := by
      constructor
      · rintro ⟨k, v, h1, h2⟩
        cases k with
        | zero => exact Or.inl ⟨v, by simpa using h1, by simpa using h2⟩
        | succ k => exact Or.inr ⟨k, v, by simpa using h1, by rw [h2]; congr 1; omega⟩
      · rintro (⟨v, h1, h2⟩ | ⟨k, v, h1, h2⟩)
        · exact ⟨0, v, by simp [h1], by simpa using h2⟩
        · exact ⟨k + 1, v, by simpa using h1, by rw [h2]; congr 1; omega⟩
    rw [step]
    cases x with
    | none => 
      simp only [mv_ps]
      rw [ih]
      constructor
      · exact fun h => Or.inr h
      · rintro (⟨v, h1, -⟩ | h)
        · cases h1
        · exact h
    | some v =>
      simp only [mv_ps, List.mem_cons]
      rw [ih]
      constructor
      · rintro (h | h)
        · exact Or.inl ⟨v, rfl, h⟩
        · exact Or.inr h
      · rintro (⟨w, h1, h2⟩ | h)
        · cases h1; exact Or.inl h2
        · exact Or.inr h
theorem mv_ps_in {f : Value → Value} {L : mv_Ls} {k : Nat} {v : Value} (h : L[k]? = some (some v)) : (k, f v) ∈ mv_ps f 0 L := (mv_ps_mem L 0 _).mpr ⟨k, v, h, by rw [Nat.zero_add]⟩
/-- what lies ahead of place k and takes two places goes -/
def mv_cl (L : mv_Ls) : Nat → mv_Ls
  | 0 => L
  | j + 1 => match L[j]? with
    | some (some v) => bif Nat.beq v.category 2 then L.set j none else L
    | _ => L
def mv_s1 (L : mv_Ls) (k : Nat) (v : Value) : mv_Ls := (mv_cl L k).set k (some v)
def mv_s2 (L : mv_Ls) (k : Nat) (v : Value) : mv_Ls := ((mv_cl L k).set k (some v)).set (k + 1) none
theorem mv_cl_len (L : mv_Ls) (k : Nat) : (mv_cl L k).length = L.length := by
  cases k with
  | zero => rfl
  | succ j =>
    simp only [mv_cl]
    split
    · rename_i v _
      cases Nat.beq v.category 2 <;> simp
    · rfl
theorem mv_cl_at {L : mv_Ls} {k j : Nat} {w : Value} (h : (mv_cl L k)[j]? = some (some w)) : L[j]? = some (some w) ∧ ¬ (j + 1 = k ∧ w.category = 2) := by
  cases k with
  | zero => exact ⟨h, fun e => by omega⟩
  | succ i =>
    simp only [mv_cl] at h
    split at h
    · rename_i v hv
      cases hc : Nat.beq v.category 2 with
      | true =>
        rw [hc] at h
        simp only [cond_true] at h
        rw [List.getElem?_set] at h
        by_cases hi : i = j
        · subst hi
          rw [if_pos rfl] at h
          split at h <;> cases h
        · rw [if_neg hi] at h
          exact ⟨h, fun e => hi (by omega)⟩
      | false =>
        rw [hc] at h
        simp only [cond_false] at h
        refine ⟨h, fun e => ?_⟩
        have hij : j = i := by omega
        subst hij
        rw [h] at hv
        cases hv
        rw [e.2] at hc
        cases hc
    · rename_i hv
      refine ⟨h, fun e => ?_⟩
      have hij : j = i := by omega
      subst hij
      exact hv w h
theorem mv_put1 {f : Value → Value} (hf : ∀ v, (f v).category = v.category) {ls : Array Slot} {nL k : Nat} {L : mv_Ls} {v : Value} (h : lv_has ls nL ((k, f v) :: (mv_ps f 0 L).filter (fun q => !(q.1 == k) && !(q.1 + 1 == k && q.2.category == 2)))) : lv_has ls nL (mv_ps f 0 (mv_s1 L k v)) := by
  refine ⟨h.1, h.2.1, fun q hq => h.2.2 q ?_⟩
  obtain ⟨j, w, h1, rfl⟩ := (mv_ps_mem _ 0 q).mp hq
  rw [Nat.zero_add]
  unfold mv_s1 at h1
  rw [List.getElem?_set] at h1
  by_cases hk : k = j
  · subst hk
    rw [if_pos rfl] at h1
    split at h1
    · cases h1; exact List.mem_cons_self
    · cases h1
  · rw [if_neg hk] at h1
    obtain ⟨h2, h3⟩ := mv_cl_at h1
    refine List.mem_cons_of_mem _ (List.mem_filter.mpr ⟨mv_ps_in h2, ?_⟩)
    have hne : (j == k) = false := by simp; exact fun e => hk e.symm
    simp only [hne, Bool.not_false, Bool.true_and, Bool.not_eq_true', Bool.and_eq_false_iff, beq_eq_false_iff_ne, hf]
    by_cases e : j + 1 = k
    · exact Or.inr (fun e2 => h3 ⟨e, e2⟩)
    · exact Or.inl e
theorem mv_put2 {f : Value → Value} (hf : ∀ v, (f v).category = v.category) {ls : Array Slot} {nL k : Nat} {L : mv_Ls} {v : Value} (h : lv_has ls nL ((k, f v) :: (mv_ps f 0 L).filter (fun q => !(q.1 == k) && (!(q.1 == k + 1) && !(q.1 + 1 == k && q.2.category == 2))))) : lv_has ls nL (mv_ps f 0 (mv_s2 L k v)) := by
  refine ⟨h.1, h.2.1, fun q hq => h.2.2 q ?_⟩
  obtain ⟨j, w, h1, rfl⟩ := (mv_ps_mem _ 0 q).mp hq
  rw [Nat.zero_add]
  unfold mv_s2 at h1
  rw [List.getElem?_set] at h1
  by_cases hk1 : k + 1 = j
  · subst hk1
    rw [if_pos rfl] at h1
    split at h1 <;> cases h1
  · rw [if_neg hk1, List.getElem?_set] at h1
    by_cases hk : k = j
    · subst hk
      rw [if_pos rfl] at h1
      split at h1
      · cases h1; exact List.mem_cons_self
      · cases h1
    · rw [if_neg hk] at h1
      obtain ⟨h2, h3⟩ := mv_cl_at h1
      refine List.mem_cons_of_mem _ (List.mem_filter.mpr ⟨mv_ps_in h2, ?_⟩)
      have hne : (j == k) = false := by simp; exact fun e => hk e.symm
      have hne1 : (j == k + 1) = false := by simp; exact fun e => hk1 e.symm
      simp only [hne, hne1, Bool.not_false, Bool.true_and, Bool.not_eq_true', Bool.and_eq_false_iff, beq_eq_false_iff_ne, hf]
      by_cases e : j + 1 = k
      · exact Or.inr (fun e2 => h3 ⟨e, e2⟩)
      · exact Or.inl e
theorem mv_s1_len (L : mv_Ls) (k : Nat) (v : Value) : (mv_s1 L k v).length = L.length := by simp [mv_s1, mv_cl_len]
theorem mv_s2_len (L : mv_Ls) (k : Nat) (v : Value) : (mv_s2 L k v).length = L.length := by simp [mv_s2, mv_cl_len]
/-- how long an instruction is (0: a switch) -/
def mv_ln : Instr → Nat
  | .iload _ | .aload _ | .lload _ | .istore _ | .astore _ | .lstore _ | .bipush _ | .ldc _ | .newarray _ => 2
  | .sipush _ | .iinc _ _ | .ifCond _ _ | .if_icmp _ _ | .goto _ | .getfield _ | .putfield _ | .getstatic _ | .invokestatic _ | .invokevirtual _ | .invokespecial _ | .ldc_w _ | .ldc2_w _ | .new _ | .anewarray _ => 3
  | .tableswitch _ _ _ _ | .lookupswitch _ _ => 0
  | _ => 1
def mv_lit : Int → Int32
  | .ofNat k => Int32.ofNat k
  | .negSucc k => Int32.ofInt (.negSucc k)
/-- the constants of an instruction are what they seem -/
def mv_okI : Instr → Bool
  | .iconst n => decide (Int32.ofInt n = mv_lit n)
  | .bipush n => decide ((Int8.ofInt n).toInt32 = mv_lit n)
  | .sipush n => decide ((Int16.ofInt n).toInt32 = mv_lit n)
  | .iinc _ n => decide (Int32.ofInt n = mv_lit n)
  | .lookupswitch _ ps => (ps.toList.zip (ps.toList.drop 1)).all (fun (a, next) => a.1 < next.1)
  | _ => true
def mv_tg (pc : Nat) : Int → Option Nat
  | .ofNat n => some (pc + n)
  | .negSucc n => bif Nat.ble (n + 1) pc then some (pc - (n + 1)) else none
theorem mv_tg_ok {pc t : Nat} {off : Int} (h : mv_tg pc off = some t) : (pc : Int) + off = (t : Int) := by
  cases off with
  | ofNat n => 
    simp only [mv_tg, Option.some.injEq] at h
    subst h
    rfl
  | negSucc n =>
    simp only [mv_tg] at h
    cases hb : Nat.ble (n + 1) pc with
    | false => rw [hb] at h; cases h
    | true =>
      rw [hb] at h
      simp only [cond_true, Option.some.injEq] at h
      have := Nat.le_of_ble_eq_true hb
      subst h
      omega
def mv_cc : ClassFile.Cond → Int32 → Int32 → Prop
  | .eq, x, y => x = y
  | .ne, x, y => ¬ x = y
  | .lt, x, y => x < y
  | .ge, x, y => y ≤ x
  | .gt, x, y => y < x
  | .le, x, y => x ≤ y
/-- a table switch: each place by itself -/
def mv_ts (k : Nat → Prop) (pc : Nat) (x : Int) : Int → List Int → Prop
  | _, [] => True
  | lo, o :: os => (x = lo → match mv_tg pc o with | some t => k t | none => False) ∧ mv_ts k pc x (lo + 1) os
theorem mv_ts_at {k : Nat → Prop} {pc : Nat} {x : Int} : ∀ (os : List Int) (lo : Int) (j : Nat) (o : Int), mv_ts k pc x lo os → os[j]? = some o → x = lo + j → ∃ t, mv_tg pc o = some t ∧ k t := by
  intro os
  induction os with
  | nil => intro lo j o _ h; simp at h
  | cons a os ih =>
    intro lo j o h hj hx
    cases j with
    | zero =>
      simp only [List.getElem?_cons_zero, Option.some.injEq] at hj
      subst hj
      have h1 := h.1 (by simpa using hx)
      cases ht : mv_tg pc a with
      | none => rw [ht] at h1; exact h1.elim
      | some t => rw [ht] at h1; exact ⟨t, rfl, h1⟩
    | succ j => exact ih (lo + 1) j o h.2 (by simpa using hj) (by rw [hx]; omega)
/-- a lookup switch -/
def mv_lk (k : Nat → Prop) (pc : Nat) (x : Int) (dflt : Int) : List (Int × Int) → Prop
  | [] => match mv_tg pc dflt with | some t => k t | none => False
  | (a, o) :: ps => (x = a → match mv_tg pc o with | some t => k t | none => False) ∧ (¬ x = a → mv_lk k pc x dflt ps)
/-- how many slots cells have -/
def mv_z : List mv_Sh → Nat
  | [] => 0
  | .inl (_, n) :: S => n + mv_z S
  | .inr ci :: S => mt_N ci + mv_z S
def mv_cal (E : Nat → List Value → mv_Hp → Option Value → mv_Hp → Prop) (k : List Value → mv_Hp → Prop) (na mi : Nat) (st : List Value) (h : mv_Hp) : Prop :=
  bif Nat.ble na st.length && Nat.ble (((st.drop na).map fun v => v.category).sum) 8 then ∃ (r : Option Value) (h' : mv_Hp), E mi (st.take na).reverse h r h' ∧ k (r.toList ++ st.drop na) h' else False
/-- the class's number of a method -/
def mt_mc (mi : Nat) : Nat := match mt_m mi with
  | some x => x.1
  | none => 1000
def mv_rcv (n mi : Nat) (st : List Value) (h : mv_Hp) : Bool := match st.drop n with
  | .ref j :: _ => match h.1[j]? with
    | some (.inr ci) => Nat.beq ci (mt_mc mi)
    | _ => false
  | _ => false
/-- what must hold ahead of an instruction (k: behind it; Rt: at a return) -/
def mv_i (E : Nat → List Value → mv_Hp → Option Value → mv_Hp → Prop) (oc : Nat) (ini : Bool) (rt : Option FieldType) (Rt : Option Value → mv_Hp → Prop) (k : Nat → mv_Ls → List Value → mv_Hp → Prop) (pc : Nat) (L : mv_Ls) (st : List Value) (h : mv_Hp) : Instr → Prop
  | .iconst n => k (pc + 1) L (.int (mv_lit n) :: st) h
  | .bipush n => k (pc + 2) L (.int (mv_lit n) :: st) h
  | .sipush n => k (pc + 3) L (.int (mv_lit n) :: st) h
  | .lconst n => k (pc + 1) L (.long (Int64.ofNat n) :: st) h
  | .iload i => match L[i]? with | some (some (.int x)) => k (pc + 2) L (.int x :: st) h | _ => False
  | .iload_n i => match L[i.val]? with | some (some (.int x)) => k (pc + 1) L (.int x :: st) h | _ => False
  | .lload i => match L[i]? with | some (some (.long x)) => k (pc + 2) L (.long x :: st) h | _ => False
  | .lload_n i => match L[i.val]? with | some (some (.long x)) => k (pc + 1) L (.long x :: st) h | _ => False
  | .aload i => match L[i]? with | some (some (.ref x)) => k (pc + 2) L (.ref x :: st) h | some (some (.float x)) => k (pc + 2) L (.float x :: st) h | _ => False
  | .aload_n i => match L[i.val]? with | some (some (.ref x)) => k (pc + 1) L (.ref x :: st) h | some (some (.float x)) => k (pc + 1) L (.float x :: st) h | _ => False
  | .istore i => match st with | .int x :: st => bif Nat.blt i L.length then k (pc + 2) (mv_s1 L i (.int x)) st h else False | _ => False
  | .istore_n i => match st with | .int x :: st => bif Nat.blt i.val L.length then k (pc + 1) (mv_s1 L i.val (.int x)) st h else False | _ => False
  | .lstore i => match st with | .long x :: st => bif Nat.blt (i + 1) L.length then k (pc + 2) (mv_s2 L i (.long x)) st h else False | _ => False
  | .lstore_n i => match st with | .long x :: st => bif Nat.blt (i.val + 1) L.length then k (pc + 1) (mv_s2 L i.val (.long x)) st h else False | _ => False
  | .astore i => match st with | .ref x :: st => bif Nat.blt i L.length then k (pc + 2) (mv_s1 L i (.ref x)) st h else False | _ => False
  | .astore_n i => match st with | .ref x :: st => bif Nat.blt i.val L.length then k (pc + 1) (mv_s1 L i.val (.ref x)) st h else False | _ => False
  | .iinc i n => match L[i]? with | some (some (.int x)) => k (pc + 3) (mv_s1 L i (.int (x + mv_lit n))) st h | _ => False
  | .iadd => match st with | .int y :: .int x :: st => k (pc + 1) L (.int (x + y) :: st) h | _ => False
  | .isub => match st with | .int y :: .int x :: st => k (pc + 1) L (.int (x - y) :: st) h | _ => False
  | .imul => match st with | .int y :: .int x :: st => k (pc + 1) L (.int (x * y) :: st) h | _ => False
  | .idiv => match st with | .int y :: .int x :: st => ¬ y = 0 ∧ k (pc + 1) L (.int (x / y) :: st) h | _ => False
  | .irem => match st with | .int y :: .int x :: st => ¬ y = 0 ∧ k (pc + 1) L (.int (x - x / y * y) :: st) h | _ => False
  | .ineg => match st with | .int x :: st => k (pc + 1) L (.int (-x) :: st) h | _ => False
  | .iand => match st with | .int y :: .int x :: st => k (pc + 1) L (.int (x &&& y) :: st) h | _ => False
  | .ior => match st with | .int y :: .int x :: st => k (pc + 1) L (.int (x ||| y) :: st) h | _ => False
  | .ixor => match st with | .int y :: .int x :: st => k (pc + 1) L (.int (x ^^^ y) :: st) h | _ => False
  | .ishl => match st with | .int y :: .int x :: st => k (pc + 1) L (.int (x <<< (y &&& 31)) :: st) h | _ => False
  | .ishr => match st with | .int y :: .int x :: st => k (pc + 1) L (.int (x >>> (y &&& 31)) :: st) h | _ => False
  | .i2b => match st with | .int x :: st => k (pc + 1) L (.int x.toInt8.toInt32 :: st) h | _ => False
  | .i2l => match st with | .int x :: st => k (pc + 1) L (.long x.toInt64 :: st) h | _ => False
  | .l2i => match st with | .long x :: st => k (pc + 1) L (.int x.toInt32 :: st) h | _ => False
  | .ladd => match st with | .long y :: .long x :: st => k (pc + 1) L (.long (x + y) :: st) h | _ => False
  | .lsub => match st with | .long y :: .long x :: st => k (pc + 1) L (.long (x - y) :: st) h | _ => False
  | .lmul => match st with | .long y :: .long x :: st => k (pc + 1) L (.long (x * y) :: st) h | _ => False
  | .ldiv => match st with | .long y :: .long x :: st => ¬ y = 0 ∧ k (pc + 1) L (.long (x / y) :: st) h | _ => False
  | .lrem => match st with | .long y :: .long x :: st => ¬ y = 0 ∧ k (pc + 1) L (.long (x - x / y * y) :: st) h | _ => False
  | .lneg => match st with | .long x :: st => k (pc + 1) L (.long (-x) :: st) h | _ => False
  | .land => match st with | .long y :: .long x :: st => k (pc + 1) L (.long (x &&& y) :: st) h | _ => False
  | .lor => match st with | .long y :: .long x :: st => k (pc + 1) L (.long (x ||| y) :: st) h | _ => False
  | .lshl => match st with | .int y :: .long x :: st => k (pc + 1) L (.long (x <<< (y.toInt64 &&& 63)) :: st) h | _ => False
  | .lshr => match st with | .int y :: .long x :: st => k (pc + 1) L (.long (x >>> (y.toInt64 &&& 63)) :: st) h | _ => False
  | .lcmp => match st with | .long y :: .long x :: st => k (pc + 1) L (.int (lg_cmp x y) :: st) h | _ => False
  | .dup => match st with | v :: st => bif Nat.beq v.category 1 then k (pc + 1) L (v :: v :: st) h else False | _ => False
  | .pop => match st with | v :: st => bif Nat.beq v.category 1 then k (pc + 1) L st h else False | _ => False
  | .dup2 => match st with | v :: w :: st => bif Nat.beq v.category 1 && Nat.beq w.category 1 then k (pc + 1) L (v :: w :: v :: w :: st) h else False | _ => False
  | .ifCond c off => match st with | .int x :: st => (match mv_tg pc off with | some t => (mv_cc c x 0 → k t L st h) ∧ (¬ mv_cc c x 0 → k (pc + 3) L st h) | none => False) | _ => False
  | .if_icmp c off => match st with | .int y :: .int x :: st => (match mv_tg pc off with | some t => (mv_cc c x y → k t L st h) ∧ (¬ mv_cc c x y → k (pc + 3) L st h) | none => False) | _ => False
  | .goto off => match mv_tg pc off with | some t => k t L st h | none => False
  | .tableswitch dflt lo hi offs => match st with | .int x :: st => (match mv_tg pc dflt with | some t => (x.toInt < lo ∨ hi < x.toInt → k t L st h) | none => False) ∧ (¬ x.toInt < lo → ¬ hi < x.toInt → mv_ts (fun t => k t L st h) pc x.toInt lo offs.toList) ∧ hi = lo + (offs.toList.length : Int) - 1 | _ => False
  | .lookupswitch dflt ps => match st with | .int x :: st => mv_lk (fun t => k t L st h) pc x.toInt dflt ps.toList | _ => False
  | .getfield ix => match st with
    | .ref o :: st => (match mt_lf oc ix, h.1[o]? with
      | some (ci, f), some (.inr c2) => bif Nat.beq ci c2 then (bif refKind (mt_ft ci f) then (match h.2.2 o f with | some j => k (pc + 3) L (.ref j :: st) h | none => False) else k (pc + 3) L (.int (h.2.1 o f) :: st) h) else False
      | _, _ => False)
    | _ => False
  | .putfield ix => match st with
    | .int x :: .ref o :: st => (match mt_lf oc ix, h.1[o]? with
      | some (ci, f), some (.inr c2) => bif Nat.beq ci c2 && (!mt_fin ci f || (ini && Nat.beq ci oc)) then (match mt_ft ci f with
        | .int => k (pc + 3) L st (h.1, mv_rw h.2.1 o (upd (h.2.1 o) f x), h.2.2)
        | .boolean => fits .boolean (.int x) = true ∧ k (pc + 3) L st (h.1, mv_rw h.2.1 o (upd (h.2.1 o) f x), h.2.2)
        | _ => False) else False
      | _, _ => False)
    | .ref j :: .ref o :: st => (match mt_lf oc ix, h.1[o]? with
      | some (ci, f), some (.inr c2) => bif Nat.beq ci c2 && (refKind (mt_ft ci f) && (!mt_fin ci f || (ini && Nat.beq ci oc))) then k (pc + 3) L st (h.1, h.2.1, mv_rw h.2.2 o (va_up (h.2.2 o) f (some j))) else False
      | _, _ => False)
    | _ => False
  | .iaload => match st with | .int i :: .ref a :: st => (match h.1[a]? with | some (.inl (.int, n)) => vp_in i n ∧ k (pc + 1) L (.int (h.2.1 a i.toNatClampNeg) :: st) h | _ => False) | _ => False
  | .baload => match st with | .int i :: .ref a :: st => (match h.1[a]? with | some (.inl (.byte, n)) => vp_in i n ∧ k (pc + 1) L (.int (h.2.1 a i.toNatClampNeg) :: st) h | some (.inl (.boolean, n)) => vp_in i n ∧ k (pc + 1) L (.int (h.2.1 a i.toNatClampNeg) :: st) h | _ => False) | _ => False
  | .caload => match st with | .int i :: .ref a :: st => (match h.1[a]? with | some (.inl (.char, n)) => vp_in i n ∧ k (pc + 1) L (.int (h.2.1 a i.toNatClampNeg) :: st) h | _ => False) | _ => False
  | .aaload => match st with | .int i :: .ref a :: st => (match h.1[a]? with | some (.inl (.object C, n)) => vp_in i n ∧ (∃ j, h.2.2 a i.toNatClampNeg = some j ∧ k (pc + 1) L (.ref j :: st) h) | _ => False) | _ => False
  | .iastore => match st with | .int x :: .int i :: .ref a :: st => (match h.1[a]? with | some (.inl (.int, n)) => vp_in i n ∧ k (pc + 1) L st (h.1, mv_rw h.2.1 a (upd (h.2.1 a) i.toNatClampNeg x), h.2.2) | _ => False) | _ => False
  | .bastore => match st with | .int x :: .int i :: .ref a :: st => (match h.1[a]? with | some (.inl (.byte, n)) => vp_in i n ∧ k (pc + 1) L st (h.1, mv_rw h.2.1 a (upd (h.2.1 a) i.toNatClampNeg (vp_nar .byte x)), h.2.2) | some (.inl (.boolean, n)) => vp_in i n ∧ k (pc + 1) L st (h.1, mv_rw h.2.1 a (upd (h.2.1 a) i.toNatClampNeg (vp_nar .boolean x)), h.2.2) | _ => False) | _ => False
  | .castore => match st with | .int x :: .int i :: .ref a :: st => (match h.1[a]? with | some (.inl (.char, n)) => vp_in i n ∧ k (pc + 1) L st (h.1, mv_rw h.2.1 a (upd (h.2.1 a) i.toNatClampNeg (vp_nar .char x)), h.2.2) | _ => False) | _ => False
  | .arraylength => match st with | .ref a :: st => (match h.1[a]? with | some (.inl (_, n)) => k (pc + 1) L (.int (Int32.ofNat n) :: st) h | _ => False) | _ => False
  | .invokestatic ix => match mt_lm oc ix with
    | some (0, mi) => mv_cal E (fun st h => k (pc + 3) L st h) (mt_ar mi) mi st h
    | some (1, mi) => mv_cal E (fun st h => k (pc + 3) L st h) (mt_ar mi) mi st h
    | some (5, _) => (match st with
      | .int n :: .int dp :: .ref b :: .int sp :: .ref a :: st => (match h.1[a]?, h.1[b]? with
        | some (.inl (ty, n0)), some (.inl (ty2, n1)) => bif decide (ty = ty2) && (!refKind ty && Nat.ble ((st.map fun v => v.category).sum) 8) then ¬ sp < 0 ∧ ¬ dp < 0 ∧ ¬ n < 0 ∧ sp.toNatClampNeg + n.toNatClampNeg ≤ n0 ∧ dp.toNatClampNeg + n.toNatClampNeg ≤ n1 ∧ k (pc + 3) L st (h.1, mv_rw h.2.1 b (va_cpy (h.2.1 a) (h.2.1 b) sp.toNatClampNeg dp.toNatClampNeg n.toNatClampNeg), h.2.2) else False
        | _, _ => False)
      | _ => False)
    | _ => False
  | .invokevirtual ix => match mt_lm oc ix with
    | some (2, mi) => bif mv_rcv (mt_ar mi) mi st h then mv_cal E (fun st h => k (pc + 3) L st h) (mt_ar mi + 1) mi st h else False
    | some (3, mi) => (match st.drop (mt_ar mi) with
      | .float q :: _ => bif Nat.blt q.toNat mt_sn then mv_cal E (fun st h => k (pc + 3) L st h) (mt_ar mi + 1) mi st h else False
      | _ => False)
    | _ => False
  | .ldc ix => match mt_lc oc ix with | some (.inl v) => k (pc + 2) L (.int v :: st) h | some (.inr q) => k (pc + 2) L (.float q :: st) h | none => False
  | .ldc_w ix => match mt_lc oc ix with | some (.inl v) => k (pc + 3) L (.int v :: st) h | some (.inr q) => k (pc + 3) L (.float q :: st) h | none => False
  | .ldc2_w ix => match mt_ll oc ix with | some v => k (pc + 3) L (.long v :: st) h | none => False
  | .ireturn => match st with | [.int x] => (match rt with | some ty => narrow ty (.int x) = .int x ∧ Rt (some (.int x)) h | none => False) | _ => False
  | .areturn => match st with | [.ref j] => (match rt with | some (.object _) => Rt (some (.ref j)) h | some (.array _) => Rt (some (.ref j)) h | _ => False) | _ => False
  | .return_ => match st, rt with | [], none => Rt none h | _, _ => False
  | _ => False
end
section
/-! THE SMALL MACHINE IS SOUND -/
def mv_tys (tc : FieldType → ClassId) : List (ClassId × FieldType) := [(tc .int, .int), (tc .byte, .byte), (tc .boolean, .boolean), (tc .char, .char), (tc (.object "EditorBox$Text"), .object "EditorBox$Text")]
def mv_shok : mv_Sh → Bool
  | .inl (.int, n) => Nat.blt n 2147483648
  | .inl (.byte, n) => Nat.blt n 2147483648
  | .inl (.boolean, n) => Nat.blt n 2147483648
  | .inl (.char, n) => Nat.blt n 2147483648
  | .inl (.object C, n) => C == "EditorBox$Text" && Nat.blt n 2147483648
  | .inl _ => false
  | .inr _ => true
def mv_B (h : mv_Hp) : Prop := ∀ (i : Nat) (sh : mv_Sh), h.1[i]? = some sh → mv_shok sh = true ∧ ∀ (ty : FieldType) (n : Nat), sh = .inl (ty, n) → refKind ty = false → ∀ j : Nat, fits ty (.int (h.2.1 i j)) = true
def mv_R (ad : Nat → Nat) (tc : FieldType → ClassId) (D : va_G) (h : mv_Hp) (H : Heap) : Prop := va_P D mt_cl (mv_W ad tc h) H ∧ mv_B h
/-- a type of arrays, by its place among the types -/
theorem mv_ty_at {tc : FieldType → ClassId} {ty : FieldType} {n : Nat} (h : mv_shok (.inl (ty, n)) = true) : ∃ t0 : Nat, (mv_tys tc)[t0]? = some (tc ty, ty) := by
  cases ty with
  | int => exact ⟨0, rfl⟩
  | byte => exact ⟨1, rfl⟩
  | boolean => exact ⟨2, rfl⟩
  | char => exact ⟨3, rfl⟩
  | object C =>
    simp only [mv_shok, Bool.and_eq_true, beq_iff_eq] at h
    rw [h.1]
    exact ⟨4, rfl⟩
  | _ => exact absurd h (by simp [mv_shok])
theorem mv_fitz (x : Int32) : fits .boolean (.int (vp_nar .boolean x)) = true := by
  have e : vp_nar .boolean x = x &&& 1 := rfl
  rw [e, pk_and x (m := 1) 1 (by decide)]
  have : x.toBitVec.toNat % 2 ^ 1 = 0 ∨ x.toBitVec.toNat % 2 ^ 1 = 1 := by omega
  rcases this with q | q <;> rw [q] <;> decide
theorem mv_fitb (x : Int32) : fits .byte (.int (vp_nar .byte x)) = true := by rw [vp_nar_byte]; exact pk_fb x
theorem mv_fitc (x : Int32) : fits .char (.int (vp_nar .char x)) = true := by
  rw [vp_nar_char]
  have e : x.toUInt32.toUInt16.toUInt32 = x.toUInt32 % 65536 := by
    apply UInt32.toNat_inj.mp
    simp
  rw [e]
  exact pk_fc x
theorem mv_B_put {S : List mv_Sh} {V : Nat → Nat → Int32} {Rf : Nat → Nat → Option Nat} {a k : Nat} {x : Int32} (hB : mv_B (S, V, Rf)) (hx : ∀ (ty : FieldType) (n : Nat), S[a]? = some (.inl (ty, n)) → refKind ty = false → fits ty (.int x) = true) : mv_B (S, mv_rw V a (upd (V a) k x), Rf) := by
  intro i sh hi
  refine ⟨(hB i sh hi).1, fun ty n e hr j => ?_⟩
  by_cases hia : i = a
  · subst hia
    show fits ty (.int (mv_rw V i (upd (V i) k x) i j)) = true
    rw [mv_rw_s]
    by_cases hj : j = k
    · subst hj
      rw [pk_us]
      exact hx ty n (by rw [← e]; exact hi) hr
    · rw [pk_un hj]
      exact (hB i sh hi).2 ty n e hr j
  · show fits ty (.int (mv_rw V a (upd (V a) k x) i j)) = true
    rw [mv_rw_n V _ hia]
    exact (hB i sh hi).2 ty n e hr j
theorem mv_B_cpy {h : mv_Hp} {ty : FieldType} {a b : Nat} {sp dp n : Nat} (hB : mv_B h) (ha : ∀ j, fits ty (.int (h.2.1 a j)) = true) (hb : ∀ j, fits ty (.int (h.2.1 b j)) = true) (hrow : ∀ (t2 : FieldType) (n2 : Nat), h.1[b]? = some (.inl (t2, n2)) → t2 = ty) : mv_B (h.1, mv_rw h.2.1 b (va_cpy (h.2.1 a) (h.2.1 b) sp dp n), h.2.2) := by
  intro i sh hi
  refine ⟨(hB i sh hi).1, fun t2 n2 e hr j => ?_⟩
  by_cases hib : i = b
  · subst hib
    show fits t2 (.int (mv_rw h.2.1 i (va_cpy (h.2.1 a) (h.2.1 i) sp dp n) i j)) = true
    rw [mv_rw_s, hrow t2 n2 (by rw [← e]; exact hi)]
    unfold va_cpy
    split
    · exact ha _
    · exact hb _
  · show fits t2 (.int (mv_rw h.2.1 b (va_cpy (h.2.1 a) (h.2.1 b) sp dp n) i j)) = true
    rw [mv_rw_n h.2.1 _ hib]
    exact (hB i sh hi).2 t2 n2 e hr j
theorem mv_B_ref {S : List mv_Sh} {V : Nat → Nat → Int32} {Rf Rg : Nat → Nat → Option Nat} (hB : mv_B (S, V, Rf)) : mv_B (S, V, Rg) := hB
def va_E_of (ci : Nat) (fs : List Value) : va_E := .inr (ci, fs)
theorem mv_c_putI {ad : Nat → Nat} {tc : FieldType → ClassId} {S : List mv_Sh} {V : Nat → Nat → Int32} {Rf : Nat → Nat → Option Nat} {o ci f : Nat} {x : Int32} (hrk : refKind (mt_ft ci f) = false) :
    va_E_of ci (((List.range (mt_N ci)).map (fun k => mv_f ad (S, V, Rf) o ci k)).set f (.int x)) = mv_c ad tc (S, mv_rw V o (upd (V o) f x), Rf) o (.inr ci) := by
  rw [mv_fs_set]
  simp only [va_E_of, mv_c, Sum.inr.injEq, Prod.mk.injEq, true_and]
  apply List.map_congr_left
  intro k _
  simp only [mv_f, mv_rw_s]
  by_cases hk : k = f
  · subst hk
    simp [hrk, pk_us]
  · rw [if_neg hk, pk_un hk]
theorem mv_c_putR {ad : Nat → Nat} {tc : FieldType → ClassId} {S : List mv_Sh} {V : Nat → Nat → Int32} {Rf : Nat → Nat → Option Nat} {o ci f j : Nat} (hrk : refKind (mt_ft ci f) = true) :
    va_E_of ci (((List.range (mt_N ci)).map (fun k => mv_f ad (S, V, Rf) o ci k)).set f (.ref (ad j))) = mv_c ad tc (S, V, mv_rw Rf o (va_up (Rf o) f (some j))) o (.inr ci) := by
  rw [mv_fs_set]
  simp only [va_E_of, mv_c, Sum.inr.injEq, Prod.mk.injEq, true_and]
  apply List.map_congr_left
  intro k _
  simp only [mv_f, mv_rw_s]
  by_cases hk : k = f
  · subst hk
    simp [hrk, va_up, va_rf]
  · rw [if_neg hk]
    simp [va_up, hk]
theorem mv_nz {x : Int32} (h : fits .boolean (.int x) = true) : narrow .boolean (.int x) = .int x := by
  simp only [fits, Bool.or_eq_true, beq_iff_eq] at h
  rcases h with q | q <;> rw [q] <;> decide
theorem mv_nr {ty : FieldType} (h : refKind ty = true) (a : Nat) : narrow ty (.ref a) = .ref a ∧ fits ty (.ref a) = true := by
  cases ty <;> first | exact ⟨rfl, rfl⟩ | exact absurd h (by decide)
theorem mv_toL {f : Value → Value} (r : Option Value) (st : List Value) : (r.toList ++ st).map f = (r.map f).toList ++ st.map f := by cases r <;> simp
theorem mv_cats {ad sa : Nat → Nat} (st : List Value) : ((st.map (mv_v ad sa)).map fun v => v.category) = st.map fun v => v.category := by
  rw [List.map_map]
  exact List.map_congr_left (fun v _ => mv_v_cat ad sa v)
theorem mv_stk {f : Value → Value} (st : List Value) (n : Nat) : st.map f = (((st.take n).reverse).map f).reverse ++ (st.drop n).map f := by
  rw [← List.map_reverse, List.reverse_reverse, ← List.map_append, List.take_append_drop]
theorem mv_P_putI {ad : Nat → Nat} {tc : FieldType → ClassId} {D : va_G} {h : mv_Hp} {H : Heap} {o ci f : Nat} {x : Int32} (e2 : h.1[o]? = some (.inr ci)) (hrk : refKind (mt_ft ci f) = false) (hP : va_P D mt_cl ((mv_W ad tc h).set o (ad o, .inr (ci, ((List.range (mt_N ci)).map (fun k => mv_f ad h o ci k)).set f (.int x)))) H) : va_P D mt_cl (mv_W ad tc (h.1, mv_rw h.2.1 o (upd (h.2.1 o) f x), h.2.2)) H := by
  have hW := mv_W_set (ad := ad) (tc := tc) (h := h) (h' := (h.1, mv_rw h.2.1 o (upd (h.2.1 o) f x), h.2.2)) rfl e2 mv_c_V (mv_c_putI (V := h.2.1) (Rf := h.2.2) (S := h.1) hrk)
  rw [← hW]
  exact hP
theorem mv_P_putR {ad : Nat → Nat} {tc : FieldType → ClassId} {D : va_G} {h : mv_Hp} {H : Heap} {o ci f j : Nat} (e2 : h.1[o]? = some (.inr ci)) (hrk : refKind (mt_ft ci f) = true) (hP : va_P D mt_cl ((mv_W ad tc h).set o (ad o, .inr (ci, ((List.range (mt_N ci)).map (fun k => mv_f ad h o ci k)).set f (.ref (ad j))))) H) : va_P D mt_cl (mv_W ad tc (h.1, h.2.1, mv_rw h.2.2 o (va_up (h.2.2 o) f (some j)))) H := by
  have hW := mv_W_set (ad := ad) (tc := tc) (h := h) (h' := (h.1, h.2.1, mv_rw h.2.2 o (va_up (h.2.2 o) f (some j)))) rfl e2 mv_c_R (mv_c_putR (V := h.2.1) (Rf := h.2.2) (S := h.1) hrk)
  rw [← hW]
  exact hP
theorem mv_P_row {ad : Nat → Nat} {tc : FieldType → ClassId} {D : va_G} {h : mv_Hp} {H : Heap} {a n : Nat} {ty : FieldType} {g : Nat → Int32} (e1 : h.1[a]? = some (.inl (ty, n))) (hty : refKind ty = false) (hP : va_P D mt_cl ((mv_W ad tc h).set a (ad a, .inl (tc ty, n, .inl g))) H) : va_P D mt_cl (mv_W ad tc (h.1, mv_rw h.2.1 a g, h.2.2)) H := by
  have hW := mv_W_set (ad := ad) (tc := tc) (h := h) (h' := (h.1, mv_rw h.2.1 a g, h.2.2)) (x := .inl (tc ty, n, .inl g)) rfl e1 mv_c_V (by simp only [mv_c, mv_rw_s, hty, cond_false])
  rw [← hW]
  exact hP
/-- the tables' own facts: fields -/
def mt_okF : Prop := ∀ (oc ix ci f : Nat), mt_lf oc ix = some (ci, f) → ∃ (C : String) (T : u_T) (N : Nat), mt_cl[ci]? = some (C, T, N) ∧ f < N ∧ N = mt_N ci ∧ Cond.fieldLink (mt_on oc) ix C (T f).2.1 (T f).2.2.1 ∈ mt_TB ∧ (T f).1 = C ∧ (∀ w ∈ u_ws C T N, w ∈ mt_TB) ∧ (∀ k, k < N → parseFieldDescriptor (T k).2.2.1 = some (mt_ft ci k)) ∧ (∀ a, a < N → ∀ b, b < N → a ≠ b → (T a).2.1 ≠ (T b).2.1) ∧ (T f).2.2.2 = mt_fin ci f ∧ C = mt_on ci
theorem mv_lk_at {k : Nat → Prop} {pc : Nat} {x dflt : Int} : ∀ (ps : List (Int × Int)), mv_lk k pc x dflt ps → ∃ (off : Int) (t : Nat), Op.lookupswitch.offset ps dflt x = off ∧ mv_tg pc off = some t ∧ k t := by
  intro ps
  induction ps with
  | nil =>
    intro h
    simp only [mv_lk] at h
    split at h
    · rename_i t ht
      exact ⟨dflt, t, rfl, ht, h⟩
    · exact h.elim
  | cons a ps ih =>
    intro h
    obtain ⟨a, o⟩ := a
    simp only [mv_lk] at h
    by_cases e : x = a
    · have h1 := h.1 e
      split at h1
      · rename_i t ht
        refine ⟨o, t, ?_, ht, h1⟩
        subst e
        simp [Op.lookupswitch.offset]
      · exact h1.elim
    · obtain ⟨off, t, h1, h2, h3⟩ := ih (h.2 e)
      refine ⟨off, t, ?_, h2, h3⟩
      rw [← h1]
      simp [Op.lookupswitch.offset, e]
      exact fun q => absurd q.symm e
def mt_okD (mi : Nat) (cc : ByteArray) : Prop := ∀ (pc : Nat) (i : Instr), mt_tb mi pc = some i → ∃ n, decode cc pc = .ok (i, n) ∧ (mv_ln i = 0 ∨ n = mv_ln i) ∧ mv_okI i = true
theorem mv_d1 {cc : ByteArray} {pc n : Nat} {i : Instr} (ln : Nat) (hd : decode cc pc = .ok (i, n)) (hn : mv_ln i = 0 ∨ n = mv_ln i) (h : mv_ln i = ln + 1) : decode cc pc = .ok (i, ln + 1) := by
  rcases hn with q | q
  · rw [h] at q; cases q
  · rw [hd, q, h]
def mv_X (sa sv : Nat → Nat) (A : Nat → Prop) (U : State) (H : Heap) : Prop := vk_S mt_sn mt_sl mt_sb sa sv A U H ∧ (∀ (oc ix : Nat) (k : UInt32), mt_lc oc ix = some (.inr k) → ∃ tx, vk_R (mt_on oc) ix tx (sa k.toNat) U) ∧ ∀ q ∈ mt_nw, va_Nw (.methodLinkNest q.1 q.2.1 q.2.2.1 q.2.2.2) U
theorem mv_X_to {sa sv : Nat → Nat} {A B : Nat → Prop} {s U : State} {H : Heap} {locs : List Loc} (hX : mv_X sa sv A s s.heap) (hS : va_S A s.heap H locs) (hAB : ∀ q, B q → A q) (hU : U.heap = H) (hW : s.WarmedH U.vm) : mv_X sa sv B U U.heap := by
  refine ⟨?_, fun oc ix k hk => ?_, fun q hq => va_Nw.warmM hW (hX.2.2 q hq)⟩
  · rw [hU]
    exact ((hX.1.kept hS.2.1).moved hW.alike).narrow hAB
  · obtain ⟨tx, h⟩ := hX.2.1 oc ix k hk
    exact ⟨tx, h.warm hW⟩
def mv_Pc (ad sa sv : Nat → Nat) (tc : FieldType → ClassId) (D : va_G) (av : List Value) (h : mv_Hp) : Array Value → State → Prop := fun a U => a = (av.map (mv_v ad sa)).toArray ∧ mv_R ad tc D h U.heap ∧ va_K D mt_cl (mv_tys tc) U ∧ mv_X sa sv (mv_A ad h.1.length) U U.heap ∧ mv_J ad h.1.length
def mv_Qc (ad sa : Nat → Nat) (tc : FieldType → ClassId) (D : va_G) (n : Nat) (r : Option Value) (h : mv_Hp) : Array Value → State → Outcome → State → Prop := fun _ st oc t => oc = .returned (r.map (mv_v ad sa)) ∧ mv_R ad tc D h t.heap ∧ va_F (mv_A ad n) st t
/-- a method, called with av over h, answers r and leaves h'; it needs d frames -/
def mv_Ev (d mi : Nat) (av : List Value) (h : mv_Hp) (r : Option Value) (h' : mv_Hp) : Prop :=
  h'.1 = h.1 ∧ ∃ (oc : Nat) (y : MethodName) (cc : ByteArray) (nL : Nat) (rt : Option FieldType), mt_m mi = some (oc, y, cc, nL, rt) ∧
    ∀ (l : Launch) (ad sa sv : Nat → Nat) (tc : FieldType → ClassId) (D : va_G), Met l y (Cond.code y cc nL rt :: mt_TB) { frames := d, cells := 0, slots := 0, locals := mt_lo * d } (mv_Pc ad sa sv tc D av h) (mv_Qc ad sa tc D h.1.length r h') 0 0 (mv_A ad h.1.length)
/-- the tables' own facts: methods and calls -/
def mt_okM : Prop := ∀ (mi oc : Nat) (y : MethodName) (cc : ByteArray) (nL : Nat) (rt : Option FieldType), mt_m mi = some (oc, y, cc, nL, rt) → Cond.code y cc nL rt ∈ mt_TB ∧ Cond.initialized y.cls ∈ mt_TB ∧ y.cls = mt_on oc ∧ plainName y.cls = true ∧ (y.cls ≠ "java/lang/invoke/MethodHandle" ∧ y.cls ≠ "java/lang/invoke/VarHandle" ∧ (parseMethodDescriptor y.desc).map (fun d => d.parameters.length) = some (mt_ar mi)) ∧ nL + 19 ≤ mt_lo ∧ mt_okD mi cc
def mt_okL : Prop :=
  (∀ (oc ix mi : Nat), mt_lm oc ix = some (0, mi) → ∃ (oc' : Nat) (y : MethodName) (cc : ByteArray) (nL : Nat) (rt : Option FieldType), mt_m mi = some (oc', y, cc, nL, rt) ∧ Cond.methodLink (mt_on oc) ix y ∈ mt_TB ∧ Cond.static y ∈ mt_TB) ∧
  (∀ (oc ix mi : Nat), mt_lm oc ix = some (1, mi) → ∃ (oc' : Nat) (y : MethodName) (cc : ByteArray) (nL : Nat) (rt : Option FieldType), mt_m mi = some (oc', y, cc, nL, rt) ∧ Cond.static y ∈ mt_TB ∧ ∃ host, (mt_on oc, ix, y, host) ∈ mt_nw) ∧
  (∀ (oc ix mi : Nat), mt_lm oc ix = some (2, mi) → ∃ (oc' : Nat) (y : MethodName) (cc : ByteArray) (nL : Nat) (rt : Option FieldType), mt_m mi = some (oc', y, cc, nL, rt) ∧ Cond.methodLink (mt_on oc) ix y ∈ mt_TB ∧ Cond.instanceMethod y ∈ mt_TB ∧ Cond.selects y.cls y y ∈ mt_TB ∧ ∃ q : vw_C, mt_cl[oc']? = some q ∧ q.1 = y.cls) ∧
  (∀ (oc ix mi : Nat), mt_lm oc ix = some (3, mi) → ∃ (oc' : Nat) (y : MethodName) (cc : ByteArray) (nL : Nat) (rt : Option FieldType), mt_m mi = some (oc', y, cc, nL, rt) ∧ Cond.methodLink (mt_on oc) ix y ∈ mt_TB ∧ Cond.instanceMethod y ∈ mt_TB ∧ Cond.selects y.cls y y ∈ mt_TB ∧ y.cls = "java/lang/String") ∧
  (∀ (oc ix mi : Nat), mt_lm oc ix = some (5, mi) → Cond.methodLink (mt_on oc) ix arraycopyName ∈ mt_TB ∧ Cond.native arraycopyName ∈ mt_TB ∧ Cond.static arraycopyName ∈ mt_TB ∧ Cond.initialized "java/lang/System" ∈ mt_TB)
def mt_okG : Prop := ∀ w ∈ mt_TB, goodWord w = true
def mt_okC : Prop := (∀ (oc ix : Nat) (v : Int32), mt_lc oc ix = some (.inl v) → Cond.constant (mt_on oc) ix v ∈ mt_TB) ∧ ∀ (oc ix : Nat) (v : Int64), mt_ll oc ix = some v → Cond.constantLong (mt_on oc) ix v ∈ mt_TB
theorem mv_good (hG : mt_okG) {w : Cond} (hw : w ∈ mt_TB) : GoodIn mt_TB (w :: mt_TB) := by
  intro x hx
  have : x ∈ mt_TB := by
    rcases List.mem_cons.mp hx with q | q
    · rw [q]; exact hw
    · exact q
  exact ⟨this, good_of_word (hG x this)⟩
theorem mv_blind {ad sa sv : Nat → Nat} {tc : FieldType → ClassId} {D : va_G} {av : List Value} {h : mv_Hp} : FrameBlind (mv_Pc ad sa sv tc D av h) := by
  intro a U g mk q
  obtain ⟨q0, q1, q2, q3, q4⟩ := q
  refine ⟨q0, q1, va_K.moved (u := U) (U := U.calling g mk a) (Vm.Alike.refl U.vm) q2, ⟨?_, fun oc ix k hk => ?_, fun x hx => ?_⟩, q4⟩
  · exact vk_S.moved (u := U) (U := U.calling g mk a) (Vm.Alike.refl U.vm) q3.1
  · obtain ⟨tx, z⟩ := q3.2.1 oc ix k hk
    exact ⟨tx, vk_R.same (u := U) (U := U.calling g mk a) rfl z⟩
  · exact va_Nw.same (u := U) (U := U.calling g mk a) rfl rfl (q3.2.2 x hx)
theorem mv_drop {st : List Value} {n : Nat} {v : Value} {rest : List Value} (h : st.drop n = v :: rest) : st.take (n + 1) = st.take n ++ [v] ∧ st.drop (n + 1) = rest ∧ st = st.take n ++ v :: rest ∧ (st.take n).length = n := by
  have h1 : st = st.take n ++ v :: rest := by rw [← h, List.take_append_drop]
  have h2 : n < st.length := by
    rcases Nat.lt_or_ge n st.length with q | q
    · exact q
    · rw [List.drop_eq_nil_of_le q] at h; cases h
  have h3 : (st.take n).length = n := by rw [List.length_take]; omega
  refine ⟨?_, ?_, h1, h3⟩
  · rw [List.take_succ]
    have : st[n]? = some v := by
      rw [← List.head?_drop, h]; rfl
    rw [this]; rfl
  · have : st.drop (n + 1) = (st.drop n).drop 1 := by rw [List.drop_drop]
    rw [this, h]; rfl
section MVS
variable {p : Program} {l : Launch} {e : Env} {R : Room} {s : State} {m : MethodId} {args : Array Value} {below : List Frame} {meth : Method} {c : Code}
theorem mv_ldcwS {cells slots : Nat} {Q : State → Prop} {H : Heap} {locs : List Loc} {cc : ByteArray} {pc : Nat} {ls : Array Slot} {rest : List Value} (hexec : p.tables.exec = Jvm.exec) (hb : c.code = cc) {own tx : String} {index q : Nat} (hown : s.vm.findClass own = some m.cls) (hZ : vk_R own index tx q s) (hdg : decode cc pc = .ok (.ldc_w index, 3))
    (k : W p l e R s m args below meth c H locs cells slots Q (F0 m (pc + 3) ls (.ref q :: rest))) : W p l e R s m args below meth c H locs cells slots Q (F0 m pc ls rest) := by
  intro T hT X
  obtain ⟨t, a1, b1⟩ := k T hT X
  exact ⟨t, X.ldcStringW hexec hown (text := tx) (a := q) hZ.1 hZ.2 (g := F0 m pc ls rest) rfl (by rw [hb]; exact hdg) t a1, b1⟩
theorem mv_callR {cells slots : Nat} {Q : State → Prop} {ad sa : Nat → Nat} {A : Nat → Prop} {tc : FieldType → ClassId} {D : va_G} {pc n : Nat} {ls : Array Slot} {st0 rest : List Value} {a : Array Value} {H : Heap} {locs : List Loc} {r : Option Value} {h' : mv_Hp}
    (hr : va_Run p l e R s m args below meth c H locs cells slots 0 0 (F0 m pc ls st0) rest (mv_Qc ad sa tc D n r h' a) (mv_A ad n)) (hS : va_S A s.heap H locs) (hf : ∀ q, mv_A ad n q → A q)
    (kk : ∀ (H1 : Heap) (locs1 : List Loc), mv_R ad tc D h' H1 → va_S A s.heap H1 locs1 → W p l e R s m args below meth c H1 locs1 cells slots Q (F0 m (pc + 3) ls ((r.map (mv_v ad sa)).toList ++ rest))) : W p l e R s m args below meth c H locs cells slots Q (F0 m pc ls st0) := by
  intro T hT X
  obtain ⟨v, st₀, t, T', L, h0, X', hL, e1, e2, ⟨hv, hR', hz, hk⟩, st⟩ := hr T hT X
  cases hv
  rw [h0] at hz hk
  obtain ⟨t2, a1, b1⟩ := kk T'.heap (locs ++ L) (by rw [e1]; exact hR')
    ⟨Nat.le_trans hS.1 (by rw [e1]; exact hz), fun q h1 h2 => by rw [e1, hk q (Nat.lt_of_lt_of_le h1 hS.1) (fun z => h2 (hf q z))]; exact hS.2.1 q h1 h2, fun q hq => by
      rcases List.mem_append.mp hq with h | h
      · exact hS.2.2 q h
      · exact hf _ (hL q h)⟩ T' rfl X'
  exact ⟨t2, st t2 a1, b1⟩
def mv_Wm (p : Program) (l : Launch) (e : Env) (R : Room) (s : State) (m : MethodId) (args : Array Value) (below : List Frame) (meth : Method) (c : Code) (cells slots : Nat) (Q : State → Prop) (ad sa : Nat → Nat) (A : Nat → Prop) (tc : FieldType → ClassId) (D : va_G) (nL : Nat) (pc : Nat) (L : mv_Ls) (st : List Value) (h : mv_Hp) : Prop :=
  ∀ (H : Heap) (locs : List Loc) (ls : Array Slot), mv_R ad tc D h H → mv_J ad h.1.length → (∀ i, i < h.1.length → A (ad i)) → va_S A s.heap H locs → lv_has ls nL (mv_ps (mv_v ad sa) 0 L) → L.length = nL → W p l e R s m args below meth c H locs cells slots Q (F0 m pc ls (st.map (mv_v ad sa)))
set_option maxHeartbeats 4000000 in
theorem mv_snd {cells slots : Nat} {Q : State → Prop} {ad sa : Nat → Nat} {A : Nat → Prop} {tc : FieldType → ClassId} {D : va_G} {nL : Nat} {cc : ByteArray} {mi oc : Nat} {ini : Bool} {rt : Option FieldType} {Rt : Option Value → mv_Hp → Prop} {k : Nat → mv_Ls → List Value → mv_Hp → Prop} {E : Nat → List Value → mv_Hp → Option Value → mv_Hp → Prop}
    (hx : p.tables.exec = Jvm.exec) (hb : c.code = cc) (hown : s.vm.findClass (mt_on oc) = some m.cls) (hts : ∀ w ∈ mt_TB, w.before args s = true) (hK : va_K D mt_cl (mv_tys tc) s) (hdec : mt_okD mi cc) (hF : mt_okF) (hini : ini = true → meth.name = "<init>")
    (hM : mt_okM) (hLk : mt_okL) (hG : mt_okG) (hC : mt_okC) {sv : Nat → Nat} (hX : mv_X sa sv A s s.heap) (hml : c.maxLocals = nL) (hlocks : meth.locks = false) (hr : meth.sig.returnType = rt) {d : Nat} (hRm : d + 1 ≤ R.frames ∧ mt_lo * (d + 1) ≤ R.locals) (hcs : cells ≤ R.cells ∧ slots ≤ R.slots)
    (hE : ∀ mi av h r h', E mi av h r h' → mv_Ev d mi av h r h')
    {Qc : Array Value → State → Outcome → State → Prop} {free : Addr → Prop} (hQ : Q = MQ below Qc args s cells slots free) (hfree : ∀ q, A q → free q)
    (hk : ∀ pc L st h, k pc L st h → mv_Wm p l e R s m args below meth c cells slots Q ad sa A tc D nL pc L st h)
    (hRt : ∀ (r : Option Value) (h : mv_Hp) (H : Heap) (locs : List Loc), Rt r h → mv_R ad tc D h H → va_S A s.heap H locs → ∀ t : State, t.heap = H → s.WarmedH t.vm → Qc args s (.returned (r.map (mv_v ad sa))) t)
    {pc : Nat} {L : mv_Ls} {st : List Value} {h : mv_Hp} {i : Instr} (htb : mt_tb mi pc = some i) (hw : mv_i E oc ini rt Rt k pc L st h i) :
    mv_Wm p l e R s m args below meth c cells slots Q ad sa A tc D nL pc L st h := by
  intro H locs ls hR hJ hA hS hl hL
  obtain ⟨n, hd, hn, hok⟩ := hdec pc i htb
  have hcat : ∀ v, (mv_v ad sa v).category = v.category := mv_v_cat ad sa
  cases i with
  | iconst n =>
    simp only [mv_i] at hw
    exact lv_iconst hx hb (mv_d1 0 hd hn rfl) (of_decide_eq_true hok) (hk _ _ _ _ hw H locs ls hR hJ hA hS hl hL)
  | bipush n =>
    simp only [mv_i] at hw
    exact lv_bipush hx hb (mv_d1 1 hd hn rfl) (of_decide_eq_true hok) (hk _ _ _ _ hw H locs ls hR hJ hA hS hl hL)
  | sipush n =>
    simp only [mv_i] at hw
    exact lv_sipush hx hb (mv_d1 2 hd hn rfl) (of_decide_eq_true hok) (hk _ _ _ _ hw H locs ls hR hJ hA hS hl hL)
  | lconst n =>
    simp only [mv_i] at hw
    exact lv_lconst hx hb (mv_d1 0 hd hn rfl) rfl (hk _ _ _ _ hw H locs ls hR hJ hA hS hl hL)
  | iload i =>
    simp only [mv_i] at hw
    split at hw
    · rename_i x e1
      exact lv_iload hx hb (mv_d1 1 hd hn rfl) (hl.2.2 _ (mv_ps_in e1)) (hk _ _ _ _ hw H locs ls hR hJ hA hS hl hL)
    · exact hw.elim
  | iload_n i =>
    simp only [mv_i] at hw
    split at hw
    · rename_i x e1
      exact lv_iload_n hx hb (mv_d1 0 hd hn rfl) rfl (hl.2.2 _ (mv_ps_in e1)) (hk _ _ _ _ hw H locs ls hR hJ hA hS hl hL)
    · exact hw.elim
  | lload i =>
    simp only [mv_i] at hw
    split at hw
    · rename_i x e1
      exact lv_lload hx hb (mv_d1 1 hd hn rfl) (hl.2.2 _ (mv_ps_in e1)) (hk _ _ _ _ hw H locs ls hR hJ hA hS hl hL)
    · exact hw.elim
  | lload_n i =>
    simp only [mv_i] at hw
    split at hw
    · rename_i x e1
      exact lv_lload_n hx hb (mv_d1 0 hd hn rfl) rfl (hl.2.2 _ (mv_ps_in e1)) (hk _ _ _ _ hw H locs ls hR hJ hA hS hl hL)
    · exact hw.elim
  | aload i =>
    simp only [mv_i] at hw
    split at hw
    · rename_i x e1
      exact lv_aload hx hb (mv_d1 1 hd hn rfl) (hl.2.2 _ (mv_ps_in e1)) (hk _ _ _ _ hw H locs ls hR hJ hA hS hl hL)
    · rename_i x e1
      exact lv_aload hx hb (mv_d1 1 hd hn rfl) (hl.2.2 _ (mv_ps_in e1)) (hk _ _ _ _ hw H locs ls hR hJ hA hS hl hL)
    · exact hw.elim
  | aload_n i =>
    simp only [mv_i] at hw
    split at hw
    · rename_i x e1
      exact lv_aload_n hx hb (mv_d1 0 hd hn rfl) rfl (hl.2.2 _ (mv_ps_in e1)) (hk _ _ _ _ hw H locs ls hR hJ hA hS hl hL)
    · rename_i x e1
      exact lv_aload_n hx hb (mv_d1 0 hd hn rfl) rfl (hl.2.2 _ (mv_ps_in e1)) (hk _ _ _ _ hw H locs ls hR hJ hA hS hl hL)
    · exact hw.elim
  | istore i =>
    simp only [mv_i] at hw
    split at hw
    · rename_i x st
      cases hlt : Nat.blt i L.length with
      | false => rw [hlt] at hw; exact hw.elim
      | true =>
        rw [hlt] at hw
        have hlt := Nat.le_of_ble_eq_true hlt
        exact lv_istore hx hb (mv_d1 1 hd hn rfl) hl (by omega) rfl (fun ls2 hl2 => hk _ _ _ _ hw H locs ls2 hR hJ hA hS (mv_put1 hcat hl2) (by rw [mv_s1_len]; exact hL))
    · exact hw.elim
  | istore_n i =>
    simp only [mv_i] at hw
    split at hw
    · rename_i x st
      cases hlt : Nat.blt i.val L.length with
      | false => rw [hlt] at hw; exact hw.elim
      | true =>
        rw [hlt] at hw
        have hlt := Nat.le_of_ble_eq_true hlt
        exact lv_istore_n hx hb (mv_d1 0 hd hn rfl) rfl hl (by omega) rfl (fun ls2 hl2 => hk _ _ _ _ hw H locs ls2 hR hJ hA hS (mv_put1 hcat hl2) (by rw [mv_s1_len]; exact hL))
    · exact hw.elim
  | astore i =>
    simp only [mv_i] at hw
    split at hw
    · rename_i x st
      cases hlt : Nat.blt i L.length with
      | false => rw [hlt] at hw; exact hw.elim
      | true =>
        rw [hlt] at hw
        have hlt := Nat.le_of_ble_eq_true hlt
        exact lv_astore hx hb (mv_d1 1 hd hn rfl) hl (by omega) rfl (fun ls2 hl2 => hk _ _ _ _ hw H locs ls2 hR hJ hA hS (mv_put1 hcat hl2) (by rw [mv_s1_len]; exact hL))
    · exact hw.elim
  | astore_n i =>
    simp only [mv_i] at hw
    split at hw
    · rename_i x st
      cases hlt : Nat.blt i.val L.length with
      | false => rw [hlt] at hw; exact hw.elim
      | true =>
        rw [hlt] at hw
        have hlt := Nat.le_of_ble_eq_true hlt
        exact lv_astore_n hx hb (mv_d1 0 hd hn rfl) rfl hl (by omega) rfl (fun ls2 hl2 => hk _ _ _ _ hw H locs ls2 hR hJ hA hS (mv_put1 hcat hl2) (by rw [mv_s1_len]; exact hL))
    · exact hw.elim
  | lstore i =>
    simp only [mv_i] at hw
    split at hw
    · rename_i x st
      cases hlt : Nat.blt (i + 1) L.length with
      | false => rw [hlt] at hw; exact hw.elim
      | true =>
        rw [hlt] at hw
        have hlt := Nat.le_of_ble_eq_true hlt
        exact lv_lstore hx hb (mv_d1 1 hd hn rfl) hl (by omega) rfl (fun ls2 hl2 => hk _ _ _ _ hw H locs ls2 hR hJ hA hS (mv_put2 hcat hl2) (by rw [mv_s2_len]; exact hL))
    · exact hw.elim
  | lstore_n i =>
    simp only [mv_i] at hw
    split at hw
    · rename_i x st
      cases hlt : Nat.blt (i.val + 1) L.length with
      | false => rw [hlt] at hw; exact hw.elim
      | true =>
        rw [hlt] at hw
        have hlt := Nat.le_of_ble_eq_true hlt
        exact lv_lstore_n hx hb (mv_d1 0 hd hn rfl) rfl hl (by omega) rfl (fun ls2 hl2 => hk _ _ _ _ hw H locs ls2 hR hJ hA hS (mv_put2 hcat hl2) (by rw [mv_s2_len]; exact hL))
    · exact hw.elim
  | iinc i n =>
    simp only [mv_i] at hw
    split at hw
    · rename_i x e1
      obtain ⟨q, hq⟩ := List.getElem?_of_mem (mv_ps_in (f := mv_v ad sa) e1)
      have hlt := (List.getElem?_eq_some_iff.mp e1).1
      exact lv_iinc hx hb (mv_d1 2 hd hn rfl) hl hq (by rw [of_decide_eq_true hok]) (by omega) rfl (fun ls2 hl2 => hk _ _ _ _ hw H locs ls2 hR hJ hA hS (mv_put1 (v := .int (x + mv_lit n)) hcat hl2) (by rw [mv_s1_len]; exact hL))
    · exact hw.elim
  | iadd =>
    simp only [mv_i] at hw
    split at hw
    · exact lv_iadd hx hb (mv_d1 0 hd hn rfl) (hk _ _ _ _ hw H locs ls hR hJ hA hS hl hL)
    · exact hw.elim
  | isub =>
    simp only [mv_i] at hw
    split at hw
    · exact lv_isub hx hb (mv_d1 0 hd hn rfl) (hk _ _ _ _ hw H locs ls hR hJ hA hS hl hL)
    · exact hw.elim
  | imul =>
    simp only [mv_i] at hw
    split at hw
    · exact lv_imul hx hb (mv_d1 0 hd hn rfl) (hk _ _ _ _ hw H locs ls hR hJ hA hS hl hL)
    · exact hw.elim
  | iand =>
    simp only [mv_i] at hw
    split at hw
    · exact lv_iand hx hb (mv_d1 0 hd hn rfl) (hk _ _ _ _ hw H locs ls hR hJ hA hS hl hL)
    · exact hw.elim
  | ior =>
    simp only [mv_i] at hw
    split at hw
    · exact lv_ior hx hb (mv_d1 0 hd hn rfl) (hk _ _ _ _ hw H locs ls hR hJ hA hS hl hL)
    · exact hw.elim
  | ixor =>
    simp only [mv_i] at hw
    split at hw
    · exact lv_ixor hx hb (mv_d1 0 hd hn rfl) (hk _ _ _ _ hw H locs ls hR hJ hA hS hl hL)
    · exact hw.elim
  | ishl =>
    simp only [mv_i] at hw
    split at hw
    · exact lv_ishl hx hb (mv_d1 0 hd hn rfl) (hk _ _ _ _ hw H locs ls hR hJ hA hS hl hL)
    · exact hw.elim
  | ishr =>
    simp only [mv_i] at hw
    split at hw
    · exact lv_ishr hx hb (mv_d1 0 hd hn rfl) (hk _ _ _ _ hw H locs ls hR hJ hA hS hl hL)
    · exact hw.elim
  | ladd =>
    simp only [mv_i] at hw
    split at hw
    · exact lv_ladd hx hb (mv_d1 0 hd hn rfl) (hk _ _ _ _ hw H locs ls hR hJ hA hS hl hL)
    · exact hw.elim
  | lsub =>
    simp only [mv_i] at hw
    split at hw
    · exact lv_lsub hx hb (mv_d1 0 hd hn rfl) (hk _ _ _ _ hw H locs ls hR hJ hA hS hl hL)
    · exact hw.elim
  | lmul =>
    simp only [mv_i] at hw
    split at hw
    · exact lv_lmul hx hb (mv_d1 0 hd hn rfl) (hk _ _ _ _ hw H locs ls hR hJ hA hS hl hL)
    · exact hw.elim
  | land =>
    simp only [mv_i] at hw
    split at hw
    · exact lv_land hx hb (mv_d1 0 hd hn rfl) (hk _ _ _ _ hw H locs ls hR hJ hA hS hl hL)
    · exact hw.elim
  | lor =>
    simp only [mv_i] at hw
    split at hw
    · exact lv_lor hx hb (mv_d1 0 hd hn rfl) (hk _ _ _ _ hw H locs ls hR hJ hA hS hl hL)
    · exact hw.elim
  | idiv =>
    simp only [mv_i] at hw
    split at hw
    · exact lv_idiv hx hb (mv_d1 0 hd hn rfl) hw.1 (hk _ _ _ _ hw.2 H locs ls hR hJ hA hS hl hL)
    · exact hw.elim
  | irem =>
    simp only [mv_i] at hw
    split at hw
    · exact lv_irem hx hb (mv_d1 0 hd hn rfl) hw.1 (hk _ _ _ _ hw.2 H locs ls hR hJ hA hS hl hL)
    · exact hw.elim
  | ldiv =>
    simp only [mv_i] at hw
    split at hw
    · exact lv_ldiv hx hb (mv_d1 0 hd hn rfl) hw.1 (hk _ _ _ _ hw.2 H locs ls hR hJ hA hS hl hL)
    · exact hw.elim
  | lrem =>
    simp only [mv_i] at hw
    split at hw
    · exact lv_lrem hx hb (mv_d1 0 hd hn rfl) hw.1 (hk _ _ _ _ hw.2 H locs ls hR hJ hA hS hl hL)
    · exact hw.elim
  | ineg =>
    simp only [mv_i] at hw
    split at hw
    · exact lv_ineg hx hb (mv_d1 0 hd hn rfl) (hk _ _ _ _ hw H locs ls hR hJ hA hS hl hL)
    · exact hw.elim
  | lneg =>
    simp only [mv_i] at hw
    split at hw
    · exact lv_lneg hx hb (mv_d1 0 hd hn rfl) (hk _ _ _ _ hw H locs ls hR hJ hA hS hl hL)
    · exact hw.elim
  | i2b =>
    simp only [mv_i] at hw
    split at hw
    · exact lv_i2b hx hb (mv_d1 0 hd hn rfl) rfl (hk _ _ _ _ hw H locs ls hR hJ hA hS hl hL)
    · exact hw.elim
  | i2l =>
    simp only [mv_i] at hw
    split at hw
    · exact lv_i2l hx hb (mv_d1 0 hd hn rfl) rfl (hk _ _ _ _ hw H locs ls hR hJ hA hS hl hL)
    · exact hw.elim
  | l2i =>
    simp only [mv_i] at hw
    split at hw
    · exact lv_l2i hx hb (mv_d1 0 hd hn rfl) rfl (hk _ _ _ _ hw H locs ls hR hJ hA hS hl hL)
    · exact hw.elim
  | lshl =>
    simp only [mv_i] at hw
    split at hw
    · exact lv_lshl hx hb (mv_d1 0 hd hn rfl) rfl (hk _ _ _ _ hw H locs ls hR hJ hA hS hl hL)
    · exact hw.elim
  | lshr =>
    simp only [mv_i] at hw
    split at hw
    · exact lv_lshr hx hb (mv_d1 0 hd hn rfl) rfl (hk _ _ _ _ hw H locs ls hR hJ hA hS hl hL)
    · exact hw.elim
  | lcmp =>
    simp only [mv_i] at hw
    split at hw
    · exact W.lcmp hx hb (mv_d1 0 hd hn rfl) (hk _ _ _ _ hw H locs ls hR hJ hA hS hl hL)
    · exact hw.elim
  | dup =>
    simp only [mv_i] at hw
    split at hw
    · rename_i v st
      cases hc : Nat.beq v.category 1 with
      | false => rw [hc] at hw; exact hw.elim
      | true => rw [hc] at hw; exact lv_dup hx hb (mv_d1 0 hd hn rfl) ((hcat v).trans (Nat.eq_of_beq_eq_true hc)) (hk _ _ _ _ hw H locs ls hR hJ hA hS hl hL)
    · exact hw.elim
  | pop =>
    simp only [mv_i] at hw
    split at hw
    · rename_i v st
      cases hc : Nat.beq v.category 1 with
      | false => rw [hc] at hw; exact hw.elim
      | true => rw [hc] at hw; exact lv_pop hx hb (mv_d1 0 hd hn rfl) ((hcat v).trans (Nat.eq_of_beq_eq_true hc)) (hk _ _ _ _ hw H locs ls hR hJ hA hS hl hL)
    · exact hw.elim
  | dup2 =>
    simp only [mv_i] at hw
    split at hw
    · rename_i v u st
      cases hc : Nat.beq v.category 1 with
      | false => rw [hc] at hw; exact hw.elim
      | true =>
        cases hc2 : Nat.beq u.category 1 with
        | false => rw [hc, hc2] at hw; exact hw.elim
        | true => rw [hc, hc2] at hw; exact lv_dup2_11 hx hb (mv_d1 0 hd hn rfl) ((hcat v).trans (Nat.eq_of_beq_eq_true hc)) ((hcat u).trans (Nat.eq_of_beq_eq_true hc2)) (hk _ _ _ _ hw H locs ls hR hJ hA hS hl hL)
    · exact hw.elim
  | ifCond q off =>
    simp only [mv_i] at hw
    split at hw
    · split at hw
      · rename_i t ht
        have ht := mv_tg_ok ht
        obtain ⟨hw1, hw2⟩ := hw
        cases q with
        | eq => exact lv_if_eq hx hb (mv_d1 2 hd hn rfl) ht (fun g => hk _ _ _ _ (hw1 g) H locs ls hR hJ hA hS hl hL) (fun g => hk _ _ _ _ (hw2 g) H locs ls hR hJ hA hS hl hL)
        | ne => exact lv_if_ne hx hb (mv_d1 2 hd hn rfl) ht (fun g => hk _ _ _ _ (hw1 g) H locs ls hR hJ hA hS hl hL) (fun g => hk _ _ _ _ (hw2 (fun g2 => g2 g)) H locs ls hR hJ hA hS hl hL)
        | lt => exact lv_if_lt hx hb (mv_d1 2 hd hn rfl) ht (fun g => hk _ _ _ _ (hw1 g) H locs ls hR hJ hA hS hl hL) (fun g => hk _ _ _ _ (hw2 g) H locs ls hR hJ hA hS hl hL)
        | ge => exact lv_if_ge hx hb (mv_d1 2 hd hn rfl) ht (fun g => hk _ _ _ _ (hw1 g) H locs ls hR hJ hA hS hl hL) (fun g => hk _ _ _ _ (hw2 g) H locs ls hR hJ hA hS hl hL)
        | gt => exact lv_if_gt hx hb (mv_d1 2 hd hn rfl) ht (fun g => hk _ _ _ _ (hw1 g) H locs ls hR hJ hA hS hl hL) (fun g => hk _ _ _ _ (hw2 g) H locs ls hR hJ hA hS hl hL)
        | le => exact lv_if_le hx hb (mv_d1 2 hd hn rfl) ht (fun g => hk _ _ _ _ (hw1 g) H locs ls hR hJ hA hS hl hL) (fun g => hk _ _ _ _ (hw2 g) H locs ls hR hJ hA hS hl hL)
      · exact hw.elim
    · exact hw.elim
  | if_icmp q off =>
    simp only [mv_i] at hw
    split at hw
    · split at hw
      · rename_i t ht
        have ht := mv_tg_ok ht
        obtain ⟨hw1, hw2⟩ := hw
        cases q with
        | eq => exact lv_icmp_eq hx hb (mv_d1 2 hd hn rfl) ht (fun g => hk _ _ _ _ (hw1 g) H locs ls hR hJ hA hS hl hL) (fun g => hk _ _ _ _ (hw2 g) H locs ls hR hJ hA hS hl hL)
        | ne => exact lv_icmp_ne hx hb (mv_d1 2 hd hn rfl) ht (fun g => hk _ _ _ _ (hw1 g) H locs ls hR hJ hA hS hl hL) (fun g => hk _ _ _ _ (hw2 (fun g2 => g2 g)) H locs ls hR hJ hA hS hl hL)
        | lt => exact lv_icmp_lt hx hb (mv_d1 2 hd hn rfl) ht (fun g => hk _ _ _ _ (hw1 g) H locs ls hR hJ hA hS hl hL) (fun g => hk _ _ _ _ (hw2 g) H locs ls hR hJ hA hS hl hL)
        | ge => exact lv_icmp_ge hx hb (mv_d1 2 hd hn rfl) ht (fun g => hk _ _ _ _ (hw1 g) H locs ls hR hJ hA hS hl hL) (fun g => hk _ _ _ _ (hw2 g) H locs ls hR hJ hA hS hl hL)
        | gt => exact lv_icmp_gt hx hb (mv_d1 2 hd hn rfl) ht (fun g => hk _ _ _ _ (hw1 g) H locs ls hR hJ hA hS hl hL) (fun g => hk _ _ _ _ (hw2 g) H locs ls hR hJ hA hS hl hL)
        | le => exact lv_icmp_le hx hb (mv_d1 2 hd hn rfl) ht (fun g => hk _ _ _ _ (hw1 g) H locs ls hR hJ hA hS hl hL) (fun g => hk _ _ _ _ (hw2 g) H locs ls hR hJ hA hS hl hL)
      · exact hw.elim
    · exact hw.elim
  | goto off =>
    simp only [mv_i] at hw
    split at hw
    · rename_i t ht
      exact lv_goto hx hb (mv_d1 2 hd hn rfl) (mv_tg_ok ht) (hk _ _ _ _ hw H locs ls hR hJ hA hS hl hL)
    · exact hw.elim
  | tableswitch dflt lo hi offs =>
    simp only [mv_i] at hw
    split at hw
    · rename_i x st
      obtain ⟨hw1, hw2, hw3⟩ := hw
      split at hw1
      · rename_i t ht
        by_cases hlo : x.toInt < lo
        · exact lv_tableOut hx hb hd (Or.inl hlo) (mv_tg_ok ht) (hk _ _ _ _ (hw1 (Or.inl hlo)) H locs ls hR hJ hA hS hl hL)
        · by_cases hhi : hi < x.toInt
          · exact lv_tableOut hx hb hd (Or.inr hhi) (mv_tg_ok ht) (hk _ _ _ _ (hw1 (Or.inr hhi)) H locs ls hR hJ hA hS hl hL)
          · have hlt : (x.toInt - lo).toNat < offs.toList.length := by omega
            have ho : offs.toList[(x.toInt - lo).toNat]? = some offs.toList[(x.toInt - lo).toNat] := List.getElem?_eq_getElem hlt
            obtain ⟨t2, ht2, hk2⟩ := mv_ts_at _ lo _ _ (hw2 hlo hhi) ho (by omega)
            exact lv_tableIn hx hb hd hlo hhi (by rw [← Array.getElem?_toList]; exact ho) (mv_tg_ok ht2) (hk _ _ _ _ hk2 H locs ls hR hJ hA hS hl hL)
      · exact hw1.elim
    · exact hw.elim
  | lookupswitch dflt ps =>
    simp only [mv_i] at hw
    split at hw
    · rename_i x st
      obtain ⟨off, t, ho, ht, hk2⟩ := mv_lk_at ps.toList hw
      exact lv_lookup hx hb hd hok ho (mv_tg_ok ht) (hk _ _ _ _ hk2 H locs ls hR hJ hA hS hl hL)
    · exact hw.elim
  | getfield ix =>
    simp only [mv_i] at hw
    split at hw
    · rename_i o st
      split at hw
      · rename_i ci f c2 e1 e2
        cases hc : Nat.beq ci c2 with
        | false => rw [hc] at hw; exact hw.elim
        | true =>
          rw [hc] at hw
          have hcc := Nat.eq_of_beq_eq_true hc
          subst hcc
          obtain ⟨C, T, N, g1, g2, g3, g4, g5, g6, g7, g8, g9, g10⟩ := hF oc ix ci f e1
          subst g3
          have hat := mv_W_in (ad := ad) (tc := tc) e2
          have hfl := mv_fs_at (f := fun k => mv_f ad h o ci k) g2
          cases hrk : refKind (mt_ft ci f) with
          | true =>
            rw [hrk] at hw
            simp only [cond_true] at hw
            split at hw
            · rename_i j hj
              exact va_get (D := D) (v := .ref (ad j)) hx hb hts g6 hown hK hR.1 o hat g1 f g2 (hts _ g4) (fun _ h9 => by rw [g5] at h9; exact h9) (by rw [hfl]; simp only [mv_f, hrk, hj, cond_true]; rfl) (mv_d1 2 hd hn rfl) (hk _ _ _ _ hw H locs ls hR hJ hA hS hl hL)
            · exact hw.elim
          | false =>
            rw [hrk] at hw
            simp only [cond_true, cond_false] at hw
            exact va_get (D := D) (v := .int (h.2.1 o f)) hx hb hts g6 hown hK hR.1 o hat g1 f g2 (hts _ g4) (fun _ h9 => by rw [g5] at h9; exact h9) (by rw [hfl]; simp only [mv_f, hrk, cond_false]) (mv_d1 2 hd hn rfl) (hk _ _ _ _ hw H locs ls hR hJ hA hS hl hL)
      · exact hw.elim
    · exact hw.elim
  | putfield ix =>
    simp only [mv_i] at hw
    split at hw
    · rename_i x o st
      split at hw
      · rename_i ci f c2 e1 e2
        cases hc : (Nat.beq ci c2 && (!mt_fin ci f || (ini && Nat.beq ci oc))) with
        | false => rw [hc] at hw; exact hw.elim
        | true =>
          rw [hc] at hw
          simp only [cond_true] at hw
          obtain ⟨hc1, hc2⟩ := (Bool.and_eq_true _ _).mp hc
          have hcc := Nat.eq_of_beq_eq_true hc1
          subst hcc
          obtain ⟨C, T, N, g1, g2, g3, g4, g5, g6, g7, g8, g9, g10⟩ := hF oc ix ci f e1
          subst g3
          have hat := mv_W_in (ad := ad) (tc := tc) e2
          have hfo : mt_fin ci f = true → ini = true ∧ C = mt_on oc := fun q => by rw [q] at hc2; have hc4 : (ini && Nat.beq ci oc) = true := hc2; obtain ⟨a1, a2⟩ := (Bool.and_eq_true _ _).mp hc4; exact ⟨a1, by rw [g10, Nat.eq_of_beq_eq_true a2]⟩
          split at hw
          · rename_i hty
            cases hfin : mt_fin ci f with
            | false => exact va_put (D := D) (v := .int x) (ty := .int) hx hb hts g6 (mt_ft ci) g7 g8 hown hK hR.1 (mv_D hJ hA) hS o hat g1 f g2 (hts _ g4) (fun _ h9 => by rw [g5] at h9; exact h9) (by rw [g9]; exact hfin) ((g7 f g2).trans (by rw [hty])) rfl rfl (by rw [List.length_map, List.length_range]; exact g2) (mv_d1 2 hd hn rfl) (fun H1 locs1 hP1 _ hS1 => hk _ _ _ _ hw H1 locs1 ls ⟨mv_P_putI e2 (by rw [hty]; rfl) hP1, mv_B_put hR.2 (fun ty n q _ => by rw [e2] at q; cases q)⟩ hJ hA hS1 hl hL)
            | true => exact va_putF (D := D) (v := .int x) (ty := .int) hx hb hts g6 (mt_ft ci) g7 g8 hown hK hR.1 (mv_D hJ hA) hS o hat g1 f g2 (hts _ g4) (fun _ h9 => by rw [g5] at h9; exact h9) (by rw [g9]; exact hfin) (hini (hfo hfin).1) (g5.trans (hfo hfin).2) ((g7 f g2).trans (by rw [hty])) rfl rfl (by rw [List.length_map, List.length_range]; exact g2) (mv_d1 2 hd hn rfl) (fun H1 locs1 hP1 _ hS1 => hk _ _ _ _ hw H1 locs1 ls ⟨mv_P_putI e2 (by rw [hty]; rfl) hP1, mv_B_put hR.2 (fun ty n q _ => by rw [e2] at q; cases q)⟩ hJ hA hS1 hl hL)
          · rename_i hty
            cases hfin : mt_fin ci f with
            | false => exact va_put (D := D) (v := .int x) (ty := .boolean) hx hb hts g6 (mt_ft ci) g7 g8 hown hK hR.1 (mv_D hJ hA) hS o hat g1 f g2 (hts _ g4) (fun _ h9 => by rw [g5] at h9; exact h9) (by rw [g9]; exact hfin) ((g7 f g2).trans (by rw [hty])) (mv_nz hw.1) hw.1 (by rw [List.length_map, List.length_range]; exact g2) (mv_d1 2 hd hn rfl) (fun H1 locs1 hP1 _ hS1 => hk _ _ _ _ hw.2 H1 locs1 ls ⟨mv_P_putI e2 (by rw [hty]; rfl) hP1, mv_B_put hR.2 (fun ty n q _ => by rw [e2] at q; cases q)⟩ hJ hA hS1 hl hL)
            | true => exact va_putF (D := D) (v := .int x) (ty := .boolean) hx hb hts g6 (mt_ft ci) g7 g8 hown hK hR.1 (mv_D hJ hA) hS o hat g1 f g2 (hts _ g4) (fun _ h9 => by rw [g5] at h9; exact h9) (by rw [g9]; exact hfin) (hini (hfo hfin).1) (g5.trans (hfo hfin).2) ((g7 f g2).trans (by rw [hty])) (mv_nz hw.1) hw.1 (by rw [List.length_map, List.length_range]; exact g2) (mv_d1 2 hd hn rfl) (fun H1 locs1 hP1 _ hS1 => hk _ _ _ _ hw.2 H1 locs1 ls ⟨mv_P_putI e2 (by rw [hty]; rfl) hP1, mv_B_put hR.2 (fun ty n q _ => by rw [e2] at q; cases q)⟩ hJ hA hS1 hl hL)
          · exact hw.elim
      · exact hw.elim
    · rename_i j o st
      split at hw
      · rename_i ci f c2 e1 e2
        cases hc : (Nat.beq ci c2 && (refKind (mt_ft ci f) && (!mt_fin ci f || (ini && Nat.beq ci oc)))) with
        | false => rw [hc] at hw; exact hw.elim
        | true =>
          rw [hc] at hw
          simp only [cond_true] at hw
          obtain ⟨hc1, hc3⟩ := (Bool.and_eq_true _ _).mp hc
          obtain ⟨hrk, hc2⟩ := (Bool.and_eq_true _ _).mp hc3
          have hcc := Nat.eq_of_beq_eq_true hc1
          subst hcc
          obtain ⟨C, T, N, g1, g2, g3, g4, g5, g6, g7, g8, g9, g10⟩ := hF oc ix ci f e1
          subst g3
          have hat := mv_W_in (ad := ad) (tc := tc) e2
          have hfo : mt_fin ci f = true → ini = true ∧ C = mt_on oc := fun q => by rw [q] at hc2; have hc4 : (ini && Nat.beq ci oc) = true := hc2; obtain ⟨a1, a2⟩ := (Bool.and_eq_true _ _).mp hc4; exact ⟨a1, by rw [g10, Nat.eq_of_beq_eq_true a2]⟩
          cases hfin : mt_fin ci f with
          | false => exact va_put (D := D) (v := .ref (ad j)) (ty := mt_ft ci f) hx hb hts g6 (mt_ft ci) g7 g8 hown hK hR.1 (mv_D hJ hA) hS o hat g1 f g2 (hts _ g4) (fun _ h9 => by rw [g5] at h9; exact h9) (by rw [g9]; exact hfin) (g7 f g2) (mv_nr hrk _).1 (mv_nr hrk _).2 (by rw [List.length_map, List.length_range]; exact g2) (mv_d1 2 hd hn rfl) (fun H1 locs1 hP1 _ hS1 => hk _ _ _ _ hw H1 locs1 ls ⟨mv_P_putR e2 hrk hP1, hR.2⟩ hJ hA hS1 hl hL)
          | true => exact va_putF (D := D) (v := .ref (ad j)) (ty := mt_ft ci f) hx hb hts g6 (mt_ft ci) g7 g8 hown hK hR.1 (mv_D hJ hA) hS o hat g1 f g2 (hts _ g4) (fun _ h9 => by rw [g5] at h9; exact h9) (by rw [g9]; exact hfin) (hini (hfo hfin).1) (g5.trans (hfo hfin).2) (g7 f g2) (mv_nr hrk _).1 (mv_nr hrk _).2 (by rw [List.length_map, List.length_range]; exact g2) (mv_d1 2 hd hn rfl) (fun H1 locs1 hP1 _ hS1 => hk _ _ _ _ hw H1 locs1 ls ⟨mv_P_putR e2 hrk hP1, hR.2⟩ hJ hA hS1 hl hL)
      · exact hw.elim
    · exact hw.elim
  | iaload =>
    simp only [mv_i] at hw
    split at hw
    · rename_i i a st
      split at hw
      · rename_i n e1
        exact va_iald hx hb hK hR.1 a 0 (mv_W_in e1) rfl hw.1 (mv_d1 0 hd hn rfl) (hk _ _ _ _ hw.2 H locs ls hR hJ hA hS hl hL)
      · exact hw.elim
    · exact hw.elim
  | caload =>
    simp only [mv_i] at hw
    split at hw
    · rename_i i a st
      split at hw
      · rename_i n e1
        exact va_cald hx hb hK hR.1 a 3 (mv_W_in e1) rfl hw.1 (mv_d1 0 hd hn rfl) (hk _ _ _ _ hw.2 H locs ls hR hJ hA hS hl hL)
      · exact hw.elim
    · exact hw.elim
  | baload =>
    simp only [mv_i] at hw
    split at hw
    · rename_i i a st
      split at hw
      · rename_i n e1
        exact va_bald hx hb hK hR.1 a 1 (mv_W_in e1) rfl hw.1 (mv_d1 0 hd hn rfl) (hk _ _ _ _ hw.2 H locs ls hR hJ hA hS hl hL)
      · rename_i n e1
        exact va_zald hx hb hK hR.1 a 2 (mv_W_in e1) rfl hw.1 (mv_d1 0 hd hn rfl) (hk _ _ _ _ hw.2 H locs ls hR hJ hA hS hl hL)
      · exact hw.elim
    · exact hw.elim
  | aaload =>
    simp only [mv_i] at hw
    split at hw
    · rename_i i a st
      split at hw
      · rename_i C n e1
        obtain ⟨hin, j, hj, hw⟩ := hw
        obtain ⟨t0, ht0⟩ := mv_ty_at (tc := tc) (hR.2 a _ e1).1
        have hv : va_rf ((h.2.2 a i.toNatClampNeg).map ad) = .ref (ad j) := by rw [hj]; rfl
        refine va_aldq hx hb hK hR.1 a t0 (f := fun k => (h.2.2 a k).map ad) (mv_W_in e1) ht0 hin (mv_d1 0 hd hn rfl) ?_
        rw [hv]
        exact hk _ _ _ _ hw H locs ls hR hJ hA hS hl hL
      · exact hw.elim
    · exact hw.elim
  | iastore =>
    simp only [mv_i] at hw
    split at hw
    · rename_i x i a st
      split at hw
      · rename_i n e1
        exact va_iast hx hb hK hR.1 (mv_D hJ hA) hS a 0 (mv_W_in e1) rfl hw.1 (mv_d1 0 hd hn rfl) (fun H1 locs1 hP1 _ hS1 => hk _ _ _ _ hw.2 H1 locs1 ls ⟨mv_P_row e1 rfl hP1, mv_B_put hR.2 (fun ty n q _ => by rw [e1] at q; cases q; exact rfl)⟩ hJ hA hS1 hl hL)
      · exact hw.elim
    · exact hw.elim
  | castore =>
    simp only [mv_i] at hw
    split at hw
    · rename_i x i a st
      split at hw
      · rename_i n e1
        exact va_cast hx hb hK hR.1 (mv_D hJ hA) hS a 3 (mv_W_in e1) rfl hw.1 (mv_d1 0 hd hn rfl) (fun H1 locs1 hP1 _ hS1 => hk _ _ _ _ hw.2 H1 locs1 ls ⟨mv_P_row e1 rfl hP1, mv_B_put hR.2 (fun ty n q _ => by rw [e1] at q; cases q; exact mv_fitc x)⟩ hJ hA hS1 hl hL)
      · exact hw.elim
    · exact hw.elim
  | bastore =>
    simp only [mv_i] at hw
    split at hw
    · rename_i x i a st
      split at hw
      · rename_i n e1
        exact va_bast hx hb hK hR.1 (mv_D hJ hA) hS a 1 (mv_W_in e1) rfl hw.1 (mv_d1 0 hd hn rfl) (fun H1 locs1 hP1 _ hS1 => hk _ _ _ _ hw.2 H1 locs1 ls ⟨mv_P_row e1 rfl hP1, mv_B_put hR.2 (fun ty n q _ => by rw [e1] at q; cases q; exact mv_fitb x)⟩ hJ hA hS1 hl hL)
      · rename_i n e1
        exact va_zast hx hb hK hR.1 (mv_D hJ hA) hS a 2 (mv_W_in e1) rfl hw.1 (mv_d1 0 hd hn rfl) (fun H1 locs1 hP1 _ hS1 => hk _ _ _ _ hw.2 H1 locs1 ls ⟨mv_P_row e1 rfl hP1, mv_B_put hR.2 (fun ty n q _ => by rw [e1] at q; cases q; exact mv_fitz x)⟩ hJ hA hS1 hl hL)
      · exact hw.elim
    · exact hw.elim
  | arraylength =>
    simp only [mv_i] at hw
    split at hw
    · rename_i a st
      split at hw
      · rename_i ty n e1
        obtain ⟨t0, ht0⟩ := mv_ty_at (tc := tc) (hR.2 a _ e1).1
        exact va_alen hx hb hK hR.1 a t0 (mv_W_in e1) ht0 rfl (mv_d1 0 hd hn rfl) (hk _ _ _ _ hw H locs ls hR hJ hA hS hl hL)
      · exact hw.elim
    · exact hw.elim
  | invokestatic ix =>
    simp only [mv_i] at hw
    split at hw
    · rename_i mj e1
      simp only [mv_cal] at hw
      cases hc : (Nat.ble (mt_ar mj) st.length && Nat.ble (((st.drop (mt_ar mj)).map fun v => v.category).sum) 8) with
      | false => rw [hc] at hw; exact hw.elim
      | true =>
        rw [hc] at hw
        simp only [cond_true] at hw
        obtain ⟨hc1, hc2⟩ := (Bool.and_eq_true _ _).mp hc
        have hc1 := Nat.le_of_ble_eq_true hc1
        have hc2 := Nat.le_of_ble_eq_true hc2
        obtain ⟨r, h1, hEv, hk2⟩ := hw
        obtain ⟨hs1, oc2, y, cc2, nL2, rt2, hm2, hMet⟩ := hE _ _ _ _ _ hEv
        obtain ⟨oc3, y3, cc3, nL3, rt3, hm3, hlx⟩ := hLk.1 oc ix mj e1
        cases (Option.some.inj (hm2.symm.trans hm3))
        obtain ⟨w1, w2, w3, w4, w5, w6, w7⟩ := hM mj _ _ _ _ _ hm2
        have hroom : d + 1 ≤ R.frames ∧ 8 + (nL2 + 11) + mt_lo * d ≤ R.locals := ⟨hRm.1, by have := hRm.2; rw [Nat.mul_succ] at this; omega⟩
        have hA2 : ∀ q, mv_A ad h.1.length q → A q := fun q hq => by obtain ⟨i, hi, rfl⟩ := hq; exact hA i hi
        have hpre : ∀ U : State, U.heap = H → s.WarmedH U.vm → mv_Pc ad sa sv tc D (st.take (mt_ar mj)).reverse h (((st.take (mt_ar mj)).reverse).map (mv_v ad sa)).toArray U := fun U hU hW => ⟨rfl, by rw [hU]; exact hR, va_K.moved hW.alike hK, mv_X_to hX hS hA2 hU hW, hJ⟩
        have hstk := mv_stk (f := mv_v ad sa) st (mt_ar mj)
        have hrm : (((st.drop (mt_ar mj)).map (mv_v ad sa)).map fun v => v.category).sum ≤ 8 := by rw [mv_cats]; exact hc2
        have hlen : (((st.take (mt_ar mj)).reverse).map (mv_v ad sa)).length = (mt_ar mj) := by rw [List.length_map, List.length_reverse, List.length_take]; omega
        have hrun := va_runS (H := H) (locs := locs) (cells := cells) (slots := slots) (below := below) (meth := meth) (e := e) (g := F0 m pc ls (st.map (mv_v ad sa))) ⟨hx, hb, hml, hown, hts⟩ (hMet l ad sa sv tc D) ⟨callB_of (mt_ar mj) hts (mv_good hG w1) rfl rfl rfl (hts _ w2) (hts _ hlx.1) w5 hroom, hts _ hlx.2⟩ ⟨mv_blind, hpre⟩ rfl hlen hl.1 hstk (lv_room hrm) (mv_d1 2 hd hn rfl) hcs
        refine mv_callR hrun hS hA2 (fun H1 locs1 hR1 hS1 => ?_)
        rw [← mv_toL]
        exact hk _ _ _ _ hk2 H1 locs1 ls hR1 (by rw [hs1]; exact hJ) (by rw [hs1]; exact hA) hS1 hl hL
    · rename_i mj e1
      simp only [mv_cal] at hw
      cases hc : (Nat.ble (mt_ar mj) st.length && Nat.ble (((st.drop (mt_ar mj)).map fun v => v.category).sum) 8) with
      | false => rw [hc] at hw; exact hw.elim
      | true =>
        rw [hc] at hw
        simp only [cond_true] at hw
        obtain ⟨hc1, hc2⟩ := (Bool.and_eq_true _ _).mp hc
        have hc1 := Nat.le_of_ble_eq_true hc1
        have hc2 := Nat.le_of_ble_eq_true hc2
        obtain ⟨r, h1, hEv, hk2⟩ := hw
        obtain ⟨hs1, oc2, y, cc2, nL2, rt2, hm2, hMet⟩ := hE _ _ _ _ _ hEv
        obtain ⟨oc3, y3, cc3, nL3, rt3, hm3, hlx⟩ := hLk.2.1 oc ix mj e1
        cases (Option.some.inj (hm2.symm.trans hm3))
        obtain ⟨w1, w2, w3, w4, w5, w6, w7⟩ := hM mj _ _ _ _ _ hm2
        have hroom : d + 1 ≤ R.frames ∧ 8 + (nL2 + 11) + mt_lo * d ≤ R.locals := ⟨hRm.1, by have := hRm.2; rw [Nat.mul_succ] at this; omega⟩
        have hA2 : ∀ q, mv_A ad h.1.length q → A q := fun q hq => by obtain ⟨i, hi, rfl⟩ := hq; exact hA i hi
        have hpre : ∀ U : State, U.heap = H → s.WarmedH U.vm → mv_Pc ad sa sv tc D (st.take (mt_ar mj)).reverse h (((st.take (mt_ar mj)).reverse).map (mv_v ad sa)).toArray U := fun U hU hW => ⟨rfl, by rw [hU]; exact hR, va_K.moved hW.alike hK, mv_X_to hX hS hA2 hU hW, hJ⟩
        have hstk := mv_stk (f := mv_v ad sa) st (mt_ar mj)
        have hrm : (((st.drop (mt_ar mj)).map (mv_v ad sa)).map fun v => v.category).sum ≤ 8 := by rw [mv_cats]; exact hc2
        have hlen : (((st.take (mt_ar mj)).reverse).map (mv_v ad sa)).length = (mt_ar mj) := by rw [List.length_map, List.length_reverse, List.length_take]; omega
        obtain ⟨host, hhost⟩ := hlx.2
        have hrun := va_runSN (H := H) (locs := locs) (cells := cells) (slots := slots) (below := below) (meth := meth) (e := e) (g := F0 m pc ls (st.map (mv_v ad sa))) ⟨hx, hb, hml, hown, hts⟩ (hMet l ad sa sv tc D) ⟨va_cnB (mt_ar mj) hts (mv_good hG w1) rfl rfl rfl (hX.2.2 _ hhost) (hts _ w2) w5 hroom, hts _ hlx.1, trivial⟩ ⟨mv_blind, hpre⟩ rfl hlen hl.1 hstk (lv_room hrm) (mv_d1 2 hd hn rfl) hcs
        refine mv_callR hrun hS hA2 (fun H1 locs1 hR1 hS1 => ?_)
        rw [← mv_toL]
        exact hk _ _ _ _ hk2 H1 locs1 ls hR1 (by rw [hs1]; exact hJ) (by rw [hs1]; exact hA) hS1 hl hL
    · split at hw
      · rename_i n dp b sp a st
        split at hw
        · rename_i ty n0 ty2 n1 ea eb
          cases hc : (decide (ty = ty2) && (!refKind ty && Nat.ble ((st.map fun v => v.category).sum) 8)) with
          | false => rw [hc] at hw; exact hw.elim
          | true =>
            rw [hc] at hw
            simp only [cond_true] at hw
            obtain ⟨hc1, hc2⟩ := (Bool.and_eq_true _ _).mp hc
            obtain ⟨hc3, hc4⟩ := (Bool.and_eq_true _ _).mp hc2
            have hc1 := of_decide_eq_true hc1
            subst hc1
            have hrk : refKind ty = false := by cases hq : refKind ty with | false => rfl | true => rw [hq] at hc3; cases hc3
            have hc4 := Nat.le_of_ble_eq_true hc4
            obtain ⟨k1, k2, k3, k4, k5, hw⟩ := hw
            obtain ⟨l1, l2, l3, l4⟩ := hLk.2.2.2.2 oc ix _ (by assumption)
            obtain ⟨t0, ht0⟩ := mv_ty_at (tc := tc) (hR.2 a _ ea).1
            have hata : (mv_W ad tc h)[a]? = some (ad a, .inl (tc ty, n0, .inl (h.2.1 a))) := by rw [mv_W_in ea]; simp only [mv_c, hrk, cond_false]
            have hatb : (mv_W ad tc h)[b]? = some (ad b, .inl (tc ty, n1, .inl (h.2.1 b))) := by rw [mv_W_in eb]; simp only [mv_c, hrk, cond_false]
            have hfa := (hR.2 a _ ea).2 ty n0 rfl hrk
            have hfb := (hR.2 b _ eb).2 ty n1 rfl hrk
            refine va_copyi hx hb (hml.trans hl.1.symm) hown (hts _ l1) (hts _ l2) (hts _ l3) (hts _ l4) hK hR.1 (mv_D hJ hA) hS a b t0 t0 hata hatb ht0 ht0 hrk k1 k2 k3 k4 k5 (fun i _ => hfa _) (by have := hRm.1; omega) ?_ (mv_d1 2 hd hn rfl) (fun H1 locs1 hP1 _ hS1 => hk _ _ _ _ hw H1 locs1 ls ⟨mv_P_row eb hrk hP1, mv_B_cpy hR.2 hfa hfb (fun t2 n2 q => by rw [eb] at q; cases q; rfl)⟩ hJ hA hS1 hl hL)
            have h8 := hRm.2
            rw [mv_cats]
            have h9 : nativeFrameWords "java/lang/System" "arraycopy" 5 = 7 := by decide
            rw [h9]
            have h10 : 26 ≤ mt_lo * (d + 1) := Nat.le_trans (by decide) (Nat.le_mul_of_pos_right mt_lo (Nat.succ_pos d))
            omega
        · exact hw.elim
      · exact hw.elim
    · exact hw.elim
  | invokevirtual ix =>
    simp only [mv_i] at hw
    split at hw
    · rename_i mj e1
      cases hcv : mv_rcv (mt_ar mj) mj st h with
      | false => rw [hcv] at hw; exact hw.elim
      | true =>
       rw [hcv] at hw
       simp only [cond_true] at hw
       simp only [mv_rcv] at hcv
       split at hcv
       · rename_i jr rest hdr
         split at hcv
         · rename_i cr hcr
           have hcv := Nat.eq_of_beq_eq_true hcv
           simp only [mv_cal] at hw
           cases hc : (Nat.ble (mt_ar mj + 1) st.length && Nat.ble (((st.drop (mt_ar mj + 1)).map fun v => v.category).sum) 8) with
           | false => rw [hc] at hw; exact hw.elim
           | true =>
             rw [hc] at hw
             simp only [cond_true] at hw
             obtain ⟨hc1, hc2⟩ := (Bool.and_eq_true _ _).mp hc
             have hc1 := Nat.le_of_ble_eq_true hc1
             have hc2 := Nat.le_of_ble_eq_true hc2
             obtain ⟨r, h1, hEv, hk2⟩ := hw
             obtain ⟨hs1, oc2, y, cc2, nL2, rt2, hm2, hMet⟩ := hE _ _ _ _ _ hEv
             obtain ⟨oc3, y3, cc3, nL3, rt3, hm3, hlx⟩ := hLk.2.2.1 oc ix mj e1
             cases (Option.some.inj (hm2.symm.trans hm3))
             obtain ⟨w1, w2, w3, w4, w5, w6, w7⟩ := hM mj _ _ _ _ _ hm2
             have hroom : d + 1 ≤ R.frames ∧ 8 + (nL2 + 11) + mt_lo * d ≤ R.locals := ⟨hRm.1, by have := hRm.2; rw [Nat.mul_succ] at this; omega⟩
             have hA2 : ∀ q, mv_A ad h.1.length q → A q := fun q hq => by obtain ⟨i, hi, rfl⟩ := hq; exact hA i hi
             have hpre : ∀ U : State, U.heap = H → s.WarmedH U.vm → mv_Pc ad sa sv tc D (st.take (mt_ar mj + 1)).reverse h (((st.take (mt_ar mj + 1)).reverse).map (mv_v ad sa)).toArray U := fun U hU hW => ⟨rfl, by rw [hU]; exact hR, va_K.moved hW.alike hK, mv_X_to hX hS hA2 hU hW, hJ⟩
             have hstk := mv_stk (f := mv_v ad sa) st (mt_ar mj + 1)
             have hrm : (((st.drop (mt_ar mj + 1)).map (mv_v ad sa)).map fun v => v.category).sum ≤ 8 := by rw [mv_cats]; exact hc2
             have hlen : (((st.take (mt_ar mj + 1)).reverse).map (mv_v ad sa)).length = (mt_ar mj + 1) := by rw [List.length_map, List.length_reverse, List.length_take]; omega
             obtain ⟨d1, d2, d3, d4⟩ := mv_drop hdr
             obtain ⟨v1, v2, v3, q, v4, v5⟩ := hlx
             have hcc : cr = oc2 := by rw [hcv, mt_mc, hm2]
             have hav : (st.take (mt_ar mj + 1)).reverse = .ref jr :: (st.take (mt_ar mj)).reverse := by rw [d1, List.reverse_append]; rfl
             have hrecv := va_recv hK hR.1 (q := q) (by rw [hcc]; exact v4) (mv_W_in hcr)
             rw [v5] at hrecv
             have hpre2 : ∀ U : State, U.heap = H → s.WarmedH U.vm → mv_Pc ad sa sv tc D (st.take (mt_ar mj + 1)).reverse h (Value.ref (ad jr) :: ((st.take (mt_ar mj)).reverse).map (mv_v ad sa)).toArray U := fun U hU hW => by have := hpre U hU hW; rw [hav] at this ⊢; exact this
             have hstk2 : st.map (mv_v ad sa) = (((st.take (mt_ar mj)).reverse).map (mv_v ad sa)).reverse ++ .ref (ad jr) :: (st.drop (mt_ar mj + 1)).map (mv_v ad sa) := by have := mv_stk (f := mv_v ad sa) st (mt_ar mj); rw [hdr] at this; rw [d2]; exact this
             have hrun := va_runV (H := H) (locs := locs) (cells := cells) (slots := slots) (below := below) (meth := meth) (e := e) (g := F0 m pc ls (st.map (mv_v ad sa))) ⟨hx, hb, hml, hown, hts⟩ (hMet l ad sa sv tc D) ⟨callB_of (mt_ar mj) hts (mv_good hG w1) rfl rfl rfl (hts _ w2) (hts _ v1) w5 hroom, hts _ v2, hts _ v3⟩ ⟨mv_blind, hrecv, hpre2⟩ rfl (by rw [List.length_map, List.length_reverse]; exact d4) hl.1 hstk2 (lv_room hrm) (mv_d1 2 hd hn rfl) hcs
             refine mv_callR hrun hS hA2 (fun H1 locs1 hR1 hS1 => ?_)
             rw [← mv_toL]
             exact hk _ _ _ _ hk2 H1 locs1 ls hR1 (by rw [hs1]; exact hJ) (by rw [hs1]; exact hA) hS1 hl hL
         · cases hcv
       · cases hcv
    · rename_i mj e1
      split at hw
      · rename_i qs rest hdr
        cases hcv : Nat.blt qs.toNat mt_sn with
        | false => rw [hcv] at hw; exact hw.elim
        | true =>
         rw [hcv] at hw
         simp only [cond_true] at hw
         have hcv := Nat.le_of_ble_eq_true hcv
         simp only [mv_cal] at hw
         cases hc : (Nat.ble (mt_ar mj + 1) st.length && Nat.ble (((st.drop (mt_ar mj + 1)).map fun v => v.category).sum) 8) with
         | false => rw [hc] at hw; exact hw.elim
         | true =>
           rw [hc] at hw
           simp only [cond_true] at hw
           obtain ⟨hc1, hc2⟩ := (Bool.and_eq_true _ _).mp hc
           have hc1 := Nat.le_of_ble_eq_true hc1
           have hc2 := Nat.le_of_ble_eq_true hc2
           obtain ⟨r, h1, hEv, hk2⟩ := hw
           obtain ⟨hs1, oc2, y, cc2, nL2, rt2, hm2, hMet⟩ := hE _ _ _ _ _ hEv
           obtain ⟨oc3, y3, cc3, nL3, rt3, hm3, hlx⟩ := hLk.2.2.2.1 oc ix mj e1
           cases (Option.some.inj (hm2.symm.trans hm3))
           obtain ⟨w1, w2, w3, w4, w5, w6, w7⟩ := hM mj _ _ _ _ _ hm2
           have hroom : d + 1 ≤ R.frames ∧ 8 + (nL2 + 11) + mt_lo * d ≤ R.locals := ⟨hRm.1, by have := hRm.2; rw [Nat.mul_succ] at this; omega⟩
           have hA2 : ∀ q, mv_A ad h.1.length q → A q := fun q hq => by obtain ⟨i, hi, rfl⟩ := hq; exact hA i hi
           have hpre : ∀ U : State, U.heap = H → s.WarmedH U.vm → mv_Pc ad sa sv tc D (st.take (mt_ar mj + 1)).reverse h (((st.take (mt_ar mj + 1)).reverse).map (mv_v ad sa)).toArray U := fun U hU hW => ⟨rfl, by rw [hU]; exact hR, va_K.moved hW.alike hK, mv_X_to hX hS hA2 hU hW, hJ⟩
           have hstk := mv_stk (f := mv_v ad sa) st (mt_ar mj + 1)
           have hrm : (((st.drop (mt_ar mj + 1)).map (mv_v ad sa)).map fun v => v.category).sum ≤ 8 := by rw [mv_cats]; exact hc2
           have hlen : (((st.take (mt_ar mj + 1)).reverse).map (mv_v ad sa)).length = (mt_ar mj + 1) := by rw [List.length_map, List.length_reverse, List.length_take]; omega
           obtain ⟨d1, d2, d3, d4⟩ := mv_drop hdr
           obtain ⟨v1, v2, v3, v5⟩ := hlx
           have hav : (st.take (mt_ar mj + 1)).reverse = .float qs :: (st.take (mt_ar mj)).reverse := by rw [d1, List.reverse_append]; rfl
           have hrecv := vk_recv hX.1 hcv hS
           rw [← v5] at hrecv
           have hpre2 : ∀ U : State, U.heap = H → s.WarmedH U.vm → mv_Pc ad sa sv tc D (st.take (mt_ar mj + 1)).reverse h (Value.ref (sa qs.toNat) :: ((st.take (mt_ar mj)).reverse).map (mv_v ad sa)).toArray U := fun U hU hW => by have := hpre U hU hW; rw [hav] at this ⊢; exact this
           have hstk2 : st.map (mv_v ad sa) = (((st.take (mt_ar mj)).reverse).map (mv_v ad sa)).reverse ++ .ref (sa qs.toNat) :: (st.drop (mt_ar mj + 1)).map (mv_v ad sa) := by have := mv_stk (f := mv_v ad sa) st (mt_ar mj); rw [hdr] at this; rw [d2]; exact this
           have hrun := va_runV (H := H) (locs := locs) (cells := cells) (slots := slots) (below := below) (meth := meth) (e := e) (g := F0 m pc ls (st.map (mv_v ad sa))) ⟨hx, hb, hml, hown, hts⟩ (hMet l ad sa sv tc D) ⟨callB_of (mt_ar mj) hts (mv_good hG w1) rfl rfl rfl (hts _ w2) (hts _ v1) w5 hroom, hts _ v2, hts _ v3⟩ ⟨mv_blind, hrecv, hpre2⟩ rfl (by rw [List.length_map, List.length_reverse]; exact d4) hl.1 hstk2 (lv_room hrm) (mv_d1 2 hd hn rfl) hcs
           refine mv_callR hrun hS hA2 (fun H1 locs1 hR1 hS1 => ?_)
           rw [← mv_toL]
           exact hk _ _ _ _ hk2 H1 locs1 ls hR1 (by rw [hs1]; exact hJ) (by rw [hs1]; exact hA) hS1 hl hL
      · exact hw.elim
    · exact hw.elim
  | ldc ix =>
    simp only [mv_i] at hw
    split at hw
    · rename_i v e1
      exact lv_ldc hx hb hown (hts _ (hC.1 _ _ _ e1)) (mv_d1 1 hd hn rfl) (hk _ _ _ _ hw H locs ls hR hJ hA hS hl hL)
    · rename_i q e1
      obtain ⟨tx, hZ⟩ := hX.2.1 _ _ _ e1
      exact va_ldcS hx hb hown hZ (mv_d1 1 hd hn rfl) (hk _ _ _ _ hw H locs ls hR hJ hA hS hl hL)
    · exact hw.elim
  | ldc_w ix =>
    simp only [mv_i] at hw
    split at hw
    · rename_i v e1
      exact lv_ldcw hx hb hown (hts _ (hC.1 _ _ _ e1)) (mv_d1 2 hd hn rfl) (hk _ _ _ _ hw H locs ls hR hJ hA hS hl hL)
    · rename_i q e1
      obtain ⟨tx, hZ⟩ := hX.2.1 _ _ _ e1
      exact mv_ldcwS hx hb hown hZ (mv_d1 2 hd hn rfl) (hk _ _ _ _ hw H locs ls hR hJ hA hS hl hL)
    · exact hw.elim
  | ldc2_w ix =>
    simp only [mv_i] at hw
    split at hw
    · rename_i v e1
      exact lv_ldc2 hx hb hown (hts _ (hC.2 _ _ _ e1)) (mv_d1 2 hd hn rfl) (hk _ _ _ _ hw H locs ls hR hJ hA hS hl hL)
    · exact hw.elim
  | ireturn =>
    simp only [mv_i] at hw
    split at hw
    · rename_i x
      split at hw
      · subst hQ
        exact W.zret hx hb hr hw.1 (fun t ht hW => hRt _ _ H locs hw.2 hR hS t ht hW) (fun q hq => hfree _ (hS.2.2 q hq)) (mv_d1 0 hd hn rfl) hlocks
      · exact hw.elim
    · exact hw.elim
  | areturn =>
    simp only [mv_i] at hw
    split at hw
    · rename_i j
      split at hw
      · subst hQ
        exact W.aret hx hb hr (Or.inl ⟨_, rfl⟩) (Or.inr ⟨_, rfl⟩) (fun t ht hW => hRt _ _ H locs hw hR hS t ht hW) (fun q hq => hfree _ (hS.2.2 q hq)) (mv_d1 0 hd hn rfl) hlocks
      · subst hQ
        exact W.aret hx hb hr (Or.inr ⟨_, rfl⟩) (Or.inr ⟨_, rfl⟩) (fun t ht hW => hRt _ _ H locs hw hR hS t ht hW) (fun q hq => hfree _ (hS.2.2 q hq)) (mv_d1 0 hd hn rfl) hlocks
      · exact hw.elim
    · exact hw.elim
  | return_ =>
    simp only [mv_i] at hw
    split at hw
    · subst hQ
      exact W.vret hx hb hr (fun t ht hW => hRt _ _ H locs hw hR hS t ht hW) (fun q hq => hfree _ (hS.2.2 q hq)) (mv_d1 0 hd hn rfl) hlocks
    · exact hw.elim
  | _ => exact hw.elim
end MVS
end
section
/-! THE SMALL MACHINE: many instructions at once, and a method's contract out of a walk of it -/
def mt_ok : Prop := mt_okF ∧ mt_okM ∧ mt_okL ∧ mt_okG ∧ mt_okC
/-- all that is fixed while a method runs -/
def mv_Cx (p : Program) (R : Room) (s : State) (m : MethodId) (args : Array Value) (below : List Frame) (meth : Method) (c : Code) (cells slots : Nat) (Q : State → Prop) (ad sa sv : Nat → Nat) (A : Nat → Prop) (tc : FieldType → ClassId) (D : va_G) (nL d mi oc : Nat) (ini : Bool) (rt : Option FieldType) (Rt : Option Value → mv_Hp → Prop) (Qc : Array Value → State → Outcome → State → Prop) (free : Addr → Prop) : Prop :=
  p.tables.exec = Jvm.exec ∧ (∃ y, mt_m mi = some (oc, y, c.code, nL, rt) ∧ (ini = true → y.name = "<init>") ∧ meth.name = y.name) ∧ s.vm.findClass (mt_on oc) = some m.cls ∧ (∀ w ∈ mt_TB, w.before args s = true) ∧ va_K D mt_cl (mv_tys tc) s ∧ mv_X sa sv A s s.heap ∧ c.maxLocals = nL ∧ meth.locks = false ∧ meth.sig.returnType = rt ∧ (d + 1 ≤ R.frames ∧ mt_lo * (d + 1) ≤ R.locals) ∧ (cells ≤ R.cells ∧ slots ≤ R.slots) ∧ Q = MQ below Qc args s cells slots free ∧ (∀ q, A q → free q) ∧
  ∀ (r : Option Value) (h : mv_Hp) (H : Heap) (locs : List Loc), Rt r h → mv_R ad tc D h H → va_S A s.heap H locs → ∀ t : State, t.heap = H → s.WarmedH t.vm → Qc args s (.returned (r.map (mv_v ad sa))) t
/-- method mi, at pc with these locals and this stack over h, comes to a return with Rt; what it calls has d frames -/
def mv_At (d mi oc : Nat) (ini : Bool) (rt : Option FieldType) (Rt : Option Value → mv_Hp → Prop) (pc : Nat) (L : mv_Ls) (st : List Value) (h : mv_Hp) : Prop :=
  ∀ (p : Program) (l : Launch) (e : Env) (R : Room) (s : State) (m : MethodId) (args : Array Value) (below : List Frame) (meth : Method) (c : Code) (cells slots : Nat) (Q : State → Prop) (ad sa sv : Nat → Nat) (A : Nat → Prop) (tc : FieldType → ClassId) (D : va_G) (nL : Nat) (Qc : Array Value → State → Outcome → State → Prop) (free : Addr → Prop),
    mv_Cx p R s m args below meth c cells slots Q ad sa sv A tc D nL d mi oc ini rt Rt Qc free → mv_Wm p l e R s m args below meth c cells slots Q ad sa A tc D nL pc L st h
/-- one instruction -/
theorem mv_at1 (Z : mt_ok) {d mi oc : Nat} {ini : Bool} {rt : Option FieldType} {Rt : Option Value → mv_Hp → Prop} {k : Nat → mv_Ls → List Value → mv_Hp → Prop} (hk : ∀ pc L st h, k pc L st h → mv_At d mi oc ini rt Rt pc L st h) {pc : Nat} {L : mv_Ls} {st : List Value} {h : mv_Hp} {i : Instr} (htb : mt_tb mi pc = some i) (hw : mv_i (mv_Ev d) oc ini rt Rt k pc L st h i) : mv_At d mi oc ini rt Rt pc L st h := by
  intro p l e R s m args below meth c cells slots Q ad sa sv A tc D nL Qc free X
  obtain ⟨hx, ⟨y, hm, hin1, hin2⟩, hown, hts, hK, hX, hml, hlocks, hr, hRm, hcs, hQ, hfree, hRt⟩ := id X
  obtain ⟨zF, zM, zL, zG, zC⟩ := Z
  have hdec := (zM mi oc y c.code nL rt hm).2.2.2.2.2.2
  exact mv_snd (E := mv_Ev d) (k := k) (Rt := Rt) hx rfl hown hts hK hdec zF (fun q => hin2.trans (hin1 q)) zM zL zG zC hX hml hlocks hr hRm hcs (fun _ _ _ _ _ q => q) hQ hfree (fun pc L st h q => hk pc L st h q p l e R s m args below meth c cells slots Q ad sa sv A tc D nL Qc free X) hRt htb hw
/-- up to n instructions, up to the places that stop tells -/
def mv_wp (d mi oc : Nat) (ini : Bool) (rt : Option FieldType) (Rt : Option Value → mv_Hp → Prop) (stop : Nat → Bool) (G : Nat → mv_Ls → List Value → mv_Hp → Prop) : Nat → Nat → mv_Ls → List Value → mv_Hp → Prop
  | 0, pc, L, st, h => G pc L st h
  | n + 1, pc, L, st, h => bif stop pc then G pc L st h else match mt_tb mi pc with
    | some i => mv_i (mv_Ev d) oc ini rt Rt (mv_wp d mi oc ini rt Rt stop G n) pc L st h i
    | none => False
theorem mv_at_wp (Z : mt_ok) {d mi oc : Nat} {ini : Bool} {rt : Option FieldType} {Rt : Option Value → mv_Hp → Prop} {stop : Nat → Bool} {G : Nat → mv_Ls → List Value → mv_Hp → Prop} (hG : ∀ pc L st h, G pc L st h → mv_At d mi oc ini rt Rt pc L st h) : ∀ (n pc : Nat) (L : mv_Ls) (st : List Value) (h : mv_Hp), mv_wp d mi oc ini rt Rt stop G n pc L st h → mv_At d mi oc ini rt Rt pc L st h := by
  intro n
  induction n with
  | zero => intro pc L st h q; exact hG pc L st h q
  | succ n ih =>
    intro pc L st h q
    simp only [mv_wp] at q
    cases hs : stop pc with
    | true => rw [hs] at q; exact hG pc L st h q
    | false =>
      rw [hs] at q
      simp only [cond_false] at q
      split at q
      · rename_i i hi
        exact mv_at1 Z ih hi q
      · exact q.elim
/-- the first instruction, whatever stop tells of it, and then on -/
theorem mv_at_go (Z : mt_ok) {d mi oc : Nat} {ini : Bool} {rt : Option FieldType} {Rt : Option Value → mv_Hp → Prop} (stop : Nat → Bool) {G : Nat → mv_Ls → List Value → mv_Hp → Prop} (hG : ∀ pc L st h, G pc L st h → mv_At d mi oc ini rt Rt pc L st h) (n : Nat) {pc : Nat} {L : mv_Ls} {st : List Value} {h : mv_Hp} (q : match mt_tb mi pc with | some i => mv_i (mv_Ev d) oc ini rt Rt (mv_wp d mi oc ini rt Rt stop G n) pc L st h i | none => False) : mv_At d mi oc ini rt Rt pc L st h := by
  split at q
  · rename_i i hi
    exact mv_at1 Z (mv_at_wp Z hG n) hi q
  · exact q.elim
/-- the locals at a method's entry -/
def mv_en : List Value → mv_Ls
  | [] => []
  | v :: vs => bif Nat.beq v.category 2 then some v :: none :: mv_en vs else some v :: mv_en vs
theorem mv_ps_rep {f : Value → Value} : ∀ (n i : Nat), mv_ps f i (List.replicate n none) = [] := by
  intro n
  induction n with
  | zero => intro i; rfl
  | succ n ih => intro i; simp only [List.replicate_succ, mv_ps]; exact ih (i + 1)
theorem mv_en_ps {f : Value → Value} (hf : ∀ v, (f v).category = v.category) (n : Nat) : ∀ (vs : List Value) (i : Nat), mv_ps f i (mv_en vs ++ List.replicate n none) = lv_args i (vs.map f) := by
  intro vs
  induction vs with
  | nil => intro i; simp only [mv_en, List.nil_append, List.map_nil, lv_args]; exact mv_ps_rep n i
  | cons v vs ih =>
    intro i
    simp only [mv_en, List.map_cons, lv_args, hf]
    by_cases hc : v.category = 2
    · have hb : Nat.beq v.category 2 = true := by rw [hc]; rfl
      rw [hb, if_pos hc]
      simp only [cond_true, List.cons_append, mv_ps]
      rw [ih]
    · have hb : Nat.beq v.category 2 = false := by
        cases hb : Nat.beq v.category 2 with
        | false => rfl
        | true => exact absurd (Nat.eq_of_beq_eq_true hb) hc
      rw [hb, if_neg hc]
      simp only [cond_false, List.cons_append, mv_ps]
      rw [ih]
theorem mv_en_len {f : Value → Value} (hf : ∀ v, (f v).category = v.category) : ∀ (vs : List Value), (lg_sl (vs.map f)).length = (mv_en vs).length := by
  intro vs
  induction vs with
  | nil => rfl
  | cons v vs ih =>
    have e : (lg_sl ((v :: vs).map f)).length = (if v.category = 2 then 2 else 1) + (lg_sl (vs.map f)).length := by
      simp only [List.map_cons, lg_sl, List.flatMap_cons, List.length_append, hf]
      by_cases hc : v.category = 2 <;> simp [hc]
    rw [e, ih]
    simp only [mv_en]
    by_cases hc : v.category = 2
    · have hb : Nat.beq v.category 2 = true := by rw [hc]; rfl
      rw [hb, if_pos hc]
      simp only [cond_true, List.length_cons]
      omega
    · have hb : Nat.beq v.category 2 = false := by
        cases hb : Nat.beq v.category 2 with
        | false => rfl
        | true => exact absurd (Nat.eq_of_beq_eq_true hb) hc
      rw [hb, if_neg hc]
      simp only [cond_false, List.length_cons]
      omega
set_option maxHeartbeats 4000000 in
/-- a method's contract out of a walk from its entry -/
theorem mv_ev_of (Z : mt_ok) {d mi oc nL : Nat} {y : MethodName} {cc : ByteArray} {rt : Option FieldType} {av : List Value} {h h' : mv_Hp} {r : Option Value} (ini : Bool) (hm : mt_m mi = some (oc, y, cc, nL, rt)) (hini : ini = true → y.name = "<init>") (hlen : (mv_en av).length ≤ nL) (hs : h'.1 = h.1)
    (hw : mv_At d mi oc ini rt (fun r2 h2 => r2 = r ∧ h2 = h') 0 (mv_en av ++ List.replicate (nL - (mv_en av).length) none) [] h) : mv_Ev (d + 1) mi av h r h' := by
  obtain ⟨w1, w2, w3, w4, w5, w6, w7⟩ := Z.2.1 mi oc y cc nL rt hm
  refine ⟨hs, oc, y, cc, nL, rt, hm, fun l ad sa sv tc D => ?_⟩
  refine Met.ofW (cc := cc) (maxL := nL) (ret := rt) w4 rfl ?_
  intro p e s m args below meth c s₁ B hml hv
  obtain ⟨rfl, hR, hK, hX, hJ⟩ := hv
  have hcat : ∀ v, (mv_v ad sa v).category = v.category := mv_v_cat ad sa
  have hts0 := atoms_spec (ws := Cond.code y cc nL rt :: mt_TB) B.pre
  have hown : s.vm.findClass y.cls = some m.cls := findClass_of_methodNamed B.named
  have hl := lv_entry (av.map (mv_v ad sa)) (n := nL) (by rw [mv_en_len hcat]; exact hlen)
  rw [lg_entry_eq]
  have hl2 : lv_has ((lg_sl (av.map (mv_v ad sa)) ++ List.replicate (nL - (lg_sl (av.map (mv_v ad sa))).length) Slot.unset).toArray) nL (mv_ps (mv_v ad sa) 0 (mv_en av ++ List.replicate (nL - (mv_en av).length) none)) := by
    rw [mv_en_ps hcat]
    exact hl
  refine hw p l e _ s m _ below meth c 0 0 _ ad sa sv (mv_A ad h.1.length) tc D nL (mv_Qc ad sa tc D h.1.length r h') (mv_A ad h.1.length) ⟨B.exec, ⟨y, ?_, hini, (name_of_methodNamed B.named B.method).1⟩, ?_, fun w hw => hts0 w (List.mem_cons_of_mem _ hw), hK, hX, hml, B.notSynchronized, B.returns, ⟨Nat.le_refl _, Nat.le_refl _⟩, ⟨Nat.zero_le _, Nat.zero_le _⟩, rfl, fun _ q => q, ?_⟩ s.heap [] _ hR hJ (fun i hi => ⟨i, hi, rfl⟩) va_S.rf hl2 ?_
  · rw [hm, B.bytes]
  · rw [← w3]; exact hown
  · rintro r2 h2 H locs ⟨rfl, rfl⟩ hR2 hS2 t ht hW
    exact ⟨rfl, by rw [ht]; exact hR2, hS2.F ht⟩
  · rw [List.length_append, List.length_replicate]
    omega
end
