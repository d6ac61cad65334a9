/-! THE SMALL MACHINE: numbered cells, their int slots and their references; what it does is what the machine does (mv_snd) -/
abbrev mv_Sh : Type := (FieldType × Nat) ⊕ Nat
abbrev mv_Hp : Type := List mv_Sh × (Nat → Nat → Int32) × (Nat → Nat → Option Nat)
abbrev mv_Ls : Type := List (Option Value)
/-- another row for a cell -/
def mv_rw {α : Type} (f : Nat → Nat → α) (a : Nat) (g : Nat → α) : Nat → Nat → α := fun b => bif Nat.beq b a then g else f b
theorem mv_rw_s {α : Type} (f : Nat → Nat → α) (a : Nat) (g : Nat → α) : mv_rw f a g a = g := by simp [mv_rw, Nat.beq_eq]
theorem mv_rw_n {α : Type} (f : Nat → Nat → α) {a b : Nat} (g : Nat → α) (h : b ≠ a) : mv_rw f a g b = f b := by
  have h1 : Nat.beq b a = false := by
    cases hb : Nat.beq b a with
    | false => rfl
    | true => exact absurd (Nat.eq_of_beq_eq_true hb) h
  simp [mv_rw, h1]
/-- a value of the small machine as the machine has it: cell i lies at ad i; string constants are told by float -/
def mv_v (ad : Nat → Nat) (sa : Nat → Nat) : Value → Value
  | .ref i => .ref (ad i)
  | .float k => .ref (sa k.toNat)
  | v => v
theorem mv_v_cat (ad : Nat → Nat) (sa : Nat → Nat) (v : Value) : (mv_v ad sa v).category = v.category := by cases v <;> rfl
def mv_f (ad : Nat → Nat) (h : mv_Hp) (i ci k : Nat) : Value := bif refKind (mt_ft ci k) then va_rf ((h.2.2 i k).map ad) else .int (h.2.1 i k)
def mv_c (ad : Nat → Nat) (tc : FieldType → ClassId) (h : mv_Hp) (i : Nat) : mv_Sh → va_E
  | .inl (ty, n) => .inl (tc ty, n, bif refKind ty then .inr (.inr (.inr (.inr (fun k => (h.2.2 i k).map ad)))) else .inl (h.2.1 i))
  | .inr ci => .inr (ci, (List.range (mt_N ci)).map (fun k => mv_f ad h i ci k))
def mv_W (ad : Nat → Nat) (tc : FieldType → ClassId) (h : mv_Hp) : va_W := h.1.mapIdx (fun i sh => (ad i, mv_c ad tc h i sh))
theorem mv_W_at (ad : Nat → Nat) (tc : FieldType → ClassId) (h : mv_Hp) (i : Nat) : (mv_W ad tc h)[i]? = (h.1[i]?).map (fun sh => (ad i, mv_c ad tc h i sh)) := by
  unfold mv_W
  rw [List.getElem?_mapIdx]
theorem mv_W_in {ad : Nat → Nat} {tc : FieldType → ClassId} {h : mv_Hp} {i : Nat} {sh : mv_Sh} (e : h.1[i]? = some sh) : (mv_W ad tc h)[i]? = some (ad i, mv_c ad tc h i sh) := by
  rw [mv_W_at, e]; rfl
/-- the world's addresses -/
def mv_A (ad : Nat → Nat) (n : Nat) : Nat → Prop := fun q => ∃ i, i < n ∧ ad i = q
def mv_J (ad : Nat → Nat) (n : Nat) : Prop := ∀ i j, i < n → j < n → ad i = ad j → i = j
theorem mv_D {ad : Nat → Nat} {tc : FieldType → ClassId} {h : mv_Hp} {A : Nat → Prop} (hJ : mv_J ad h.1.length) (hA : ∀ i, i < h.1.length → A (ad i)) : va_D A (mv_W ad tc h) := by
  refine ⟨fun i j p q hp hq e => ?_, fun k q hk => ?_⟩
  · rw [mv_W_at] at hp hq
    obtain ⟨a, ha, rfl⟩ := Option.map_eq_some_iff.mp hp
    obtain ⟨b, hb, rfl⟩ := Option.map_eq_some_iff.mp hq
    exact hJ i j (List.getElem?_eq_some_iff.mp ha).1 (List.getElem?_eq_some_iff.mp hb).1 e
  · rw [mv_W_at] at hk
    obtain ⟨a, ha, rfl⟩ := Option.map_eq_some_iff.mp hk
    exact hA k (List.getElem?_eq_some_iff.mp ha).1
/-- one cell changes -/
theorem mv_W_set {ad : Nat → Nat} {tc : FieldType → ClassId} {h h' : mv_Hp} {a : Nat} {sh : mv_Sh} (hs : h'.1 = h.1) (ha : h.1[a]? = some sh) (hk : ∀ i, i ≠ a → ∀ s, mv_c ad tc h' i s = mv_c ad tc h i s) {x : va_E} (hx : x = mv_c ad tc h' a sh) :
    (mv_W ad tc h).set a (ad a, x) = mv_W ad tc h' := by
  apply List.ext_getElem?
  intro i
  rw [mv_W_at, hs, List.getElem?_set]
  by_cases hi : a = i
  · subst hi
    have hl : a < (mv_W ad tc h).length := by
      have := (List.getElem?_eq_some_iff.mp (mv_W_in (ad := ad) (tc := tc) ha)).1
      exact this
    rw [if_pos rfl, if_pos hl, ha, hx]
    rfl
  · rw [if_neg hi, mv_W_at]
    cases h.1[i]? with
    | none => rfl
    | some s => simp only [Option.map_some]; rw [hk i (fun e => hi e.symm) s]
theorem mv_c_V {ad : Nat → Nat} {tc : FieldType → ClassId} {S : List mv_Sh} {V : Nat → Nat → Int32} {Rf : Nat → Nat → Option Nat} {a : Nat} {g : Nat → Int32} : ∀ i, i ≠ a → ∀ s, mv_c ad tc (S, mv_rw V a g, Rf) i s = mv_c ad tc (S, V, Rf) i s := by
  intro i hi s
  have e : mv_rw V a g i = V i := mv_rw_n V g hi
  rcases s with ⟨ty, n⟩ | ci
  · simp only [mv_c, e]
  · simp only [mv_c, mv_f, e]
theorem mv_c_R {ad : Nat → Nat} {tc : FieldType → ClassId} {S : List mv_Sh} {V : Nat → Nat → Int32} {Rf : Nat → Nat → Option Nat} {a : Nat} {g : Nat → Option Nat} : ∀ i, i ≠ a → ∀ s, mv_c ad tc (S, V, mv_rw Rf a g) i s = mv_c ad tc (S, V, Rf) i s := by
  intro i hi s
  have e : mv_rw Rf a g i = Rf i := mv_rw_n Rf g hi
  rcases s with ⟨ty, n⟩ | ci
  · simp only [mv_c, e]
  · simp only [mv_c, mv_f, e]
/-- the fields of an object, one of them set -/
theorem mv_fs_set {n k : Nat} {f : Nat → Value} {x : Value} : ((List.range n).map f).set k x = (List.range n).map (fun j => if j = k then x else f j) := by
  apply List.ext_getElem?
  intro i
  rw [List.getElem?_set, List.getElem?_map, List.getElem?_map]
  by_cases hn : i < n
  · rw [List.getElem?_range hn]
    by_cases hi : k = i
    · subst hi
      simp [hn]
    · have h2 : ¬ i = k := fun e => hi e.symm
      simp [hi, h2]
  · have h3 : (List.range n)[i]? = none := List.getElem?_eq_none (by simpa using hn)
    rw [h3]
    by_cases hi : k = i
    · subst hi
      simp [hn]
    · simp [hi]
theorem mv_fs_at {n k : Nat} {f : Nat → Value} (hk : k < n) : ((List.range n).map f)[k]? = some (f k) := by
  rw [List.getElem?_map, List.getElem?_range hk]; rfl
/-- what lies in a frame's places -/
def mv_ps (f : Value → Value) : Nat → mv_Ls → List (Nat × Value)
  | _, [] => []
  | i, none :: L => mv_ps f (i + 1) L
  | i, some v :: L => (i, f v) :: mv_ps f (i + 1) L
theorem mv_ps_mem {f : Value → Value} : ∀ (L : mv_Ls) (i : Nat) (q : Nat × Value), q ∈ mv_ps f i L ↔ ∃ (k : Nat) (v : Value), L[k]? = some (some v) ∧ q = (i + k, f v) := by
  intro L
  induction L with
  | nil => intro i q; simp [mv_ps]
  | cons x L ih =>
    intro i q
    have step : (∃ (k : Nat) (v : Value), (x :: L)[k]? = some (some v) ∧ q = (i + k, f v)) ↔ ((∃ v, x = some v ∧ q = (i, f v)) ∨ ∃ (k : Nat) (v : Value), L[k]? = some (some v) ∧ q = (i + 1 + k, f v)) := by
      constructor
      · rintro ⟨k, v, h1, h2⟩
        cases k with
        | zero => exact Or.inl ⟨v, by simpa using h1, by simpa using h2⟩
        | succ k => exact Or.inr ⟨k, v, by simpa using h1, by rw [h2]; congr 1; omega⟩
      · rintro (⟨v, h1, h2⟩ | ⟨k, v, h1, h2⟩)
        · exact ⟨0, v, by simp [h1], by simpa using h2⟩
        · exact ⟨k + 1, v, by simpa using h1, by rw [h2]; congr 1; omega⟩
    rw [step]
    cases x with
    | none => 
      simp only [mv_ps]
      rw [ih]
      constructor
      · exact fun h => Or.inr h
      · rintro (⟨v, h1, -⟩ | h)
        · cases h1
        · exact h
    | some v =>
      simp only [mv_ps, List.mem_cons]
      rw [ih]
      constructor
      · rintro (h | h)
        · exact Or.inl ⟨v, rfl, h⟩
        · exact Or.inr h
      · rintro (⟨w, h1, h2⟩ | h)
        · cases h1; exact Or.inl h2
        · exact Or.inr h
theorem mv_ps_in {f : Value → Value} {L : mv_Ls} {k : Nat} {v : Value} (h : L[k]? = some (some v)) : (k, f v) ∈ mv_ps f 0 L := (mv_ps_mem L 0 _).mpr ⟨k, v, h, by rw [Nat.zero_add]⟩
/-- what lies ahead of place k and takes two places goes -/
def mv_cl (L : mv_Ls) : Nat → mv_Ls
  | 0 => L
  | j + 1 => match L[j]? with
    | some (some v) => bif Nat.beq v.category 2 then L.set j none else L
    | _ => L
def mv_s1 (L : mv_Ls) (k : Nat) (v : Value) : mv_Ls := (mv_cl L k).set k (some v)
def mv_s2 (L : mv_Ls) (k : Nat) (v : Value) : mv_Ls := ((mv_cl L k).set k (some v)).set (k + 1) none
theorem mv_cl_len (L : mv_Ls) (k : Nat) : (mv_cl L k).length = L.length := by
  cases k with
  | zero => rfl
  | succ j =>
    simp only [mv_cl]
    split
    · rename_i v _
      cases Nat.beq v.category 2 <;> simp
    · rfl
theorem mv_cl_at {L : mv_Ls} {k j : Nat} {w : Value} (h : (mv_cl L k)[j]? = some (some w)) : L[j]? = some (some w) ∧ ¬ (j + 1 = k ∧ w.category = 2) := by
  cases k with
  | zero => exact ⟨h, fun e => by omega⟩
  | succ i =>
    simp only [mv_cl] at h
    split at h
    · rename_i v hv
      cases hc : Nat.beq v.category 2 with
      | true =>
        rw [hc] at h
        simp only [cond_true] at h
        rw [List.getElem?_set] at h
        by_cases hi : i = j
        · subst hi
          rw [if_pos rfl] at h
          split at h <;> cases h
        · rw [if_neg hi] at h
          exact ⟨h, fun e => hi (by omega)⟩
      | false =>
        rw [hc] at h
        simp only [cond_false] at h
        refine ⟨h, fun e => ?_⟩
        have hij : j = i := by omega
        subst hij
        rw [h] at hv
        cases hv
        rw [e.2] at hc
        cases hc
    · rename_i hv
      refine ⟨h, fun e => ?_⟩
      have hij : j = i := by omega
      subst hij
      exact hv w h
theorem mv_put1 {f : Value → Value} (hf : ∀ v, (f v).category = v.category) {ls : Array Slot} {nL k : Nat} {L : mv_Ls} {v : Value} (h : lv_has ls nL ((k, f v) :: (mv_ps f 0 L).filter (fun q => !(q.1 == k) && !(q.1 + 1 == k && q.2.category == 2)))) : lv_has ls nL (mv_ps f 0 (mv_s1 L k v)) := by
  refine ⟨h.1, h.2.1, fun q hq => h.2.2 q ?_⟩
  obtain ⟨j, w, h1, rfl⟩ := (mv_ps_mem _ 0 q).mp hq
  rw [Nat.zero_add]
  unfold mv_s1 at h1
  rw [List.getElem?_set] at h1
  by_cases hk : k = j
  · subst hk
    rw [if_pos rfl] at h1
    split at h1
    · cases h1; exact List.mem_cons_self
    · cases h1
  · rw [if_neg hk] at h1
    obtain ⟨h2, h3⟩ := mv_cl_at h1
    refine List.mem_cons_of_mem _ (List.mem_filter.mpr ⟨mv_ps_in h2, ?_⟩)
    have hne : (j == k) = false := by simp; exact fun e => hk e.symm
    simp only [hne, Bool.not_false, Bool.true_and, Bool.not_eq_true', Bool.and_eq_false_iff, beq_eq_false_iff_ne, hf]
    by_cases e : j + 1 = k
    · exact Or.inr (fun e2 => h3 ⟨e, e2⟩)
    · exact Or.inl e
theorem mv_put2 {f : Value → Value} (hf : ∀ v, (f v).category = v.category) {ls : Array Slot} {nL k : Nat} {L : mv_Ls} {v : Value} (h : lv_has ls nL ((k, f v) :: (mv_ps f 0 L).filter (fun q => !(q.1 == k) && (!(q.1 == k + 1) && !(q.1 + 1 == k && q.2.category == 2))))) : lv_has ls nL (mv_ps f 0 (mv_s2 L k v)) := by
  refine ⟨h.1, h.2.1, fun q hq => h.2.2 q ?_⟩
  obtain ⟨j, w, h1, rfl⟩ := (mv_ps_mem _ 0 q).mp hq
  rw [Nat.zero_add]
  unfold mv_s2 at h1
  rw [List.getElem?_set] at h1
  by_cases hk1 : k + 1 = j
  · subst hk1
    rw [if_pos rfl] at h1
    split at h1 <;> cases h1
  · rw [if_neg hk1, List.getElem?_set] at h1
    by_cases hk : k = j
    · subst hk
      rw [if_pos rfl] at h1
      split at h1
      · cases h1; exact List.mem_cons_self
      · cases h1
    · rw [if_neg hk] at h1
      obtain ⟨h2, h3⟩ := mv_cl_at h1
      refine List.mem_cons_of_mem _ (List.mem_filter.mpr ⟨mv_ps_in h2, ?_⟩)
      have hne : (j == k) = false := by simp; exact fun e => hk e.symm
      have hne1 : (j == k + 1) = false := by simp; exact fun e => hk1 e.symm
      simp only [hne, hne1, Bool.not_false, Bool.true_and, Bool.not_eq_true', Bool.and_eq_false_iff, beq_eq_false_iff_ne, hf]
      by_cases e : j + 1 = k
      · exact Or.inr (fun e2 => h3 ⟨e, e2⟩)
      · exact Or.inl e
theorem mv_s1_len (L : mv_Ls) (k : Nat) (v : Value) : (mv_s1 L k v).length = L.length := by simp [mv_s1, mv_cl_len]
theorem mv_s2_len (L : mv_Ls) (k : Nat) (v : Value) : (mv_s2 L k v).length = L.length := by simp [mv_s2, mv_cl_len]
/-- how long an instruction is (0: a switch) -/
def mv_ln : Instr → Nat
  | .iload _ | .aload _ | .lload _ | .istore _ | .astore _ | .lstore _ | .bipush _ | .ldc _ | .newarray _ => 2
  | .sipush _ | .iinc _ _ | .ifCond _ _ | .if_icmp _ _ | .goto _ | .getfield _ | .putfield _ | .getstatic _ | .invokestatic _ | .invokevirtual _ | .invokespecial _ | .ldc_w _ | .ldc2_w _ | .new _ | .anewarray _ => 3
  | .tableswitch _ _ _ _ | .lookupswitch _ _ => 0
  | _ => 1
def mv_lit : Int → Int32
  | .ofNat k => Int32.ofNat k
  | .negSucc k => Int32.ofInt (.negSucc k)
/-- the constants of an instruction are what they seem -/
def mv_okI : Instr → Bool
  | .iconst n => decide (Int32.ofInt n = mv_lit n)
  | .bipush n => decide ((Int8.ofInt n).toInt32 = mv_lit n)
  | .sipush n => decide ((Int16.ofInt n).toInt32 = mv_lit n)
  | .iinc _ n => decide (Int32.ofInt n = mv_lit n)
  | .lookupswitch _ ps => (ps.toList.zip (ps.toList.drop 1)).all (fun (a, next) => a.1 < next.1)
  | _ => true
def mv_tg (pc : Nat) : Int → Option Nat
  | .ofNat n => some (pc + n)
  | .negSucc n => bif Nat.ble (n + 1) pc then some (pc - (n + 1)) else none
theorem mv_tg_ok {pc t : Nat} {off : Int} (h : mv_tg pc off = some t) : (pc : Int) + off = (t : Int) := by
  cases off with
  | ofNat n => 
    simp only [mv_tg, Option.some.injEq] at h
    subst h
    rfl
  | negSucc n =>
    simp only [mv_tg] at h
    cases hb : Nat.ble (n + 1) pc with
    | false => rw [hb] at h; cases h
    | true =>
      rw [hb] at h
      simp only [cond_true, Option.some.injEq] at h
      have := Nat.le_of_ble_eq_true hb
      subst h
      omega
def mv_cc : ClassFile.Cond → Int32 → Int32 → Prop
  | .eq, x, y => x = y
  | .ne, x, y => ¬ x = y
  | .lt, x, y => x < y
  | .ge, x, y => y ≤ x
  | .gt, x, y => y < x
  | .le, x, y => x ≤ y
/-- a table switch: each place by itself -/
def mv_ts (k : Nat → Prop) (pc : Nat) (x : Int) : Int → List Int → Prop
  | _, [] => True
  | lo, o :: os => (x = lo → match mv_tg pc o with | some t => k t | none => False) ∧ mv_ts k pc x (lo + 1) os
theorem mv_ts_at {k : Nat → Prop} {pc : Nat} {x : Int} : ∀ (os : List Int) (lo : Int) (j : Nat) (o : Int), mv_ts k pc x lo os → os[j]? = some o → x = lo + j → ∃ t, mv_tg pc o = some t ∧ k t := by
  intro os
  induction os with
  | nil => intro lo j o _ h; simp at h
  | cons a os ih =>
    intro lo j o h hj hx
    cases j with
    | zero =>
      simp only [List.getElem?_cons_zero, Option.some.injEq] at hj
      subst hj
      have h1 := h.1 (by simpa using hx)
      cases ht : mv_tg pc a with
      | none => rw [ht] at h1; exact h1.elim
      | some t => rw [ht] at h1; exact ⟨t, rfl, h1⟩
    | succ j => exact ih (lo + 1) j o h.2 (by simpa using hj) (by rw [hx]; omega)
/-- a lookup switch -/
def mv_lk (k : Nat → Prop) (pc : Nat) (x : Int) (dflt : Int) : List (Int × Int) → Prop
  | [] => match mv_tg pc dflt with | some t => k t | none => False
  | (a, o) :: ps => (x = a → match mv_tg pc o with | some t => k t | none => False) ∧ (¬ x = a → mv_lk k pc x dflt ps)
/-- how many slots cells have -/
def mv_z : List mv_Sh → Nat
  | [] => 0
  | .inl (_, n) :: S => n + mv_z S
  | .inr ci :: S => mt_N ci + mv_z S
def mv_cal (E : Nat → List Value → mv_Hp → Option Value → mv_Hp → Prop) (k : List Value → mv_Hp → Prop) (na mi : Nat) (st : List Value) (h : mv_Hp) : Prop :=
  bif Nat.ble na st.length && Nat.ble (((st.drop na).map fun v => v.category).sum) 8 then ∃ (r : Option Value) (h' : mv_Hp), E mi (st.take na).reverse h r h' ∧ k (r.toList ++ st.drop na) h' else False
/-- the class's number of a method -/
def mt_mc (mi : Nat) : Nat := match mt_m mi with
  | some x => x.1
  | none => 1000
def mv_rcv (n mi : Nat) (st : List Value) (h : mv_Hp) : Bool := match st.drop n with
  | .ref j :: _ => match h.1[j]? with
    | some (.inr ci) => Nat.beq ci (mt_mc mi)
    | _ => false
  | _ => false
/-- what must hold ahead of an instruction (k: behind it; Rt: at a return) -/
def mv_i (E : Nat → List Value → mv_Hp → Option Value → mv_Hp → Prop) (oc : Nat) (ini : Bool) (rt : Option FieldType) (Rt : Option Value → mv_Hp → Prop) (k : Nat → mv_Ls → List Value → mv_Hp → Prop) (pc : Nat) (L : mv_Ls) (st : List Value) (h : mv_Hp) : Instr → Prop
  | .iconst n => k (pc + 1) L (.int (mv_lit n) :: st) h
  | .bipush n => k (pc + 2) L (.int (mv_lit n) :: st) h
  | .sipush n => k (pc + 3) L (.int (mv_lit n) :: st) h
  | .lconst n => k (pc + 1) L (.long (Int64.ofNat n) :: st) h
  | .iload i => match L[i]? with | some (some (.int x)) => k (pc + 2) L (.int x :: st) h | _ => False
  | .iload_n i => match L[i.val]? with | some (some (.int x)) => k (pc + 1) L (.int x :: st) h | _ => False
  | .lload i => match L[i]? with | some (some (.long x)) => k (pc + 2) L (.long x :: st) h | _ => False
  | .lload_n i => match L[i.val]? with | some (some (.long x)) => k (pc + 1) L (.long x :: st) h | _ => False
  | .aload i => match L[i]? with | some (some (.ref x)) => k (pc + 2) L (.ref x :: st) h | some (some (.float x)) => k (pc + 2) L (.float x :: st) h | _ => False
  | .aload_n i => match L[i.val]? with | some (some (.ref x)) => k (pc + 1) L (.ref x :: st) h | some (some (.float x)) => k (pc + 1) L (.float x :: st) h | _ => False
  | .istore i => match st with | .int x :: st => bif Nat.blt i L.length then k (pc + 2) (mv_s1 L i (.int x)) st h else False | _ => False
  | .istore_n i => match st with | .int x :: st => bif Nat.blt i.val L.length then k (pc + 1) (mv_s1 L i.val (.int x)) st h else False | _ => False
  | .lstore i => match st with | .long x :: st => bif Nat.blt (i + 1) L.length then k (pc + 2) (mv_s2 L i (.long x)) st h else False | _ => False
  | .lstore_n i => match st with | .long x :: st => bif Nat.blt (i.val + 1) L.length then k (pc + 1) (mv_s2 L i.val (.long x)) st h else False | _ => False
  | .astore i => match st with | .ref x :: st => bif Nat.blt i L.length then k (pc + 2) (mv_s1 L i (.ref x)) st h else False | _ => False
  | .astore_n i => match st with | .ref x :: st => bif Nat.blt i.val L.length then k (pc + 1) (mv_s1 L i.val (.ref x)) st h else False | _ => False
  | .iinc i n => match L[i]? with | some (some (.int x)) => k (pc + 3) (mv_s1 L i (.int (x + mv_lit n))) st h | _ => False
  | .iadd => match st with | .int y :: .int x :: st => k (pc + 1) L (.int (x + y) :: st) h | _ => False
  | .isub => match st with | .int y :: .int x :: st => k (pc + 1) L (.int (x - y) :: st) h | _ => False
  | .imul => match st with | .int y :: .int x :: st => k (pc + 1) L (.int (x * y) :: st) h | _ => False
  | .idiv => match st with | .int y :: .int x :: st => ¬ y = 0 ∧ k (pc + 1) L (.int (x / y) :: st) h | _ => False
  | .irem => match st with | .int y :: .int x :: st => ¬ y = 0 ∧ k (pc + 1) L (.int (x - x / y * y) :: st) h | _ => False
  | .ineg => match st with | .int x :: st => k (pc + 1) L (.int (-x) :: st) h | _ => False
  | .iand => match st with | .int y :: .int x :: st => k (pc + 1) L (.int (x &&& y) :: st) h | _ => False
  | .ior => match st with | .int y :: .int x :: st => k (pc + 1) L (.int (x ||| y) :: st) h | _ => False
  | .ixor => match st with | .int y :: .int x :: st => k (pc + 1) L (.int (x ^^^ y) :: st) h | _ => False
  | .ishl => match st with | .int y :: .int x :: st => k (pc + 1) L (.int (x <<< (y &&& 31)) :: st) h | _ => False
  | .ishr => match st with | .int y :: .int x :: st => k (pc + 1) L (.int (x >>> (y &&& 31)) :: st) h | _ => False
  | .i2b => match st with | .int x :: st => k (pc + 1) L (.int x.toInt8.toInt32 :: st) h | _ => False
  | .i2l => match st with | .int x :: st => k (pc + 1) L (.long x.toInt64 :: st) h | _ => False
  | .l2i => match st with | .long x :: st => k (pc + 1) L (.int x.toInt32 :: st) h | _ => False
  | .ladd => match st with | .long y :: .long x :: st => k (pc + 1) L (.long (x + y) :: st) h | _ => False
  | .lsub => match st with | .long y :: .long x :: st => k (pc + 1) L (.long (x - y) :: st) h | _ => False
  | .lmul => match st with | .long y :: .long x :: st => k (pc + 1) L (.long (x * y) :: st) h | _ => False
  | .ldiv => match st with | .long y :: .long x :: st => ¬ y = 0 ∧ k (pc + 1) L (.long (x / y) :: st) h | _ => False
  | .lrem => match st with | .long y :: .long x :: st => ¬ y = 0 ∧ k (pc + 1) L (.long (x - x / y * y) :: st) h | _ => False
  | .lneg => match st with | .long x :: st => k (pc + 1) L (.long (-x) :: st) h | _ => False
  | .land => match st with | .long y :: .long x :: st => k (pc + 1) L (.long (x &&& y) :: st) h | _ => False
  | .lor => match st with | .long y :: .long x :: st => k (pc + 1) L (.long (x ||| y) :: st) h | _ => False
  | .lshl => match st with | .int y :: .long x :: st => k (pc + 1) L (.long (x <<< (y.toInt64 &&& 63)) :: st) h | _ => False
  | .lshr => match st with | .int y :: .long x :: st => k (pc + 1) L (.long (x >>> (y.toInt64 &&& 63)) :: st) h | _ => False
  | .lcmp => match st with | .long y :: .long x :: st => k (pc + 1) L (.int (lg_cmp x y) :: st) h | _ => False
  | .dup => match st with | v :: st => bif Nat.beq v.category 1 then k (pc + 1) L (v :: v :: st) h else False | _ => False
  | .pop => match st with | v :: st => bif Nat.beq v.category 1 then k (pc + 1) L st h else False | _ => False
  | .dup2 => match st with | v :: w :: st => bif Nat.beq v.category 1 && Nat.beq w.category 1 then k (pc + 1) L (v :: w :: v :: w :: st) h else False | _ => False
  | .ifCond c off => match st with | .int x :: st => (match mv_tg pc off with | some t => (mv_cc c x 0 → k t L st h) ∧ (¬ mv_cc c x 0 → k (pc + 3) L st h) | none => False) | _ => False
  | .if_icmp c off => match st with | .int y :: .int x :: st => (match mv_tg pc off with | some t => (mv_cc c x y → k t L st h) ∧ (¬ mv_cc c x y → k (pc + 3) L st h) | none => False) | _ => False
  | .goto off => match mv_tg pc off with | some t => k t L st h | none => False
  | .tableswitch dflt lo hi offs => match st with | .int x :: st => (match mv_tg pc dflt with | some t => (x.toInt < lo ∨ hi < x.toInt → k t L st h) | none => False) ∧ (¬ x.toInt < lo → ¬ hi < x.toInt → mv_ts (fun t => k t L st h) pc x.toInt lo offs.toList) ∧ hi = lo + (offs.toList.length : Int) - 1 | _ => False
  | .lookupswitch dflt ps => match st with | .int x :: st => mv_lk (fun t => k t L st h) pc x.toInt dflt ps.toList | _ => False
  | .getfield ix => match st with
    | .ref o :: st => (match mt_lf oc ix, h.1[o]? with
      | some (ci, f), some (.inr c2) => bif Nat.beq ci c2 then (bif refKind (mt_ft ci f) then (match h.2.2 o f with | some j => k (pc + 3) L (.ref j :: st) h | none => False) else k (pc + 3) L (.int (h.2.1 o f) :: st) h) else False
      | _, _ => False)
    | _ => False
  | .putfield ix => match st with
    | .int x :: .ref o :: st => (match mt_lf oc ix, h.1[o]? with
      | some (ci, f), some (.inr c2) => bif Nat.beq ci c2 && (!mt_fin ci f || (ini && Nat.beq ci oc)) then (match mt_ft ci f with
        | .int => k (pc + 3) L st (h.1, mv_rw h.2.1 o (upd (h.2.1 o) f x), h.2.2)
        | .boolean => fits .boolean (.int x) = true ∧ k (pc + 3) L st (h.1, mv_rw h.2.1 o (upd (h.2.1 o) f x), h.2.2)
        | _ => False) else False
      | _, _ => False)
    | .ref j :: .ref o :: st => (match mt_lf oc ix, h.1[o]? with
      | some (ci, f), some (.inr c2) => bif Nat.beq ci c2 && (refKind (mt_ft ci f) && (!mt_fin ci f || (ini && Nat.beq ci oc))) then k (pc + 3) L st (h.1, h.2.1, mv_rw h.2.2 o (va_up (h.2.2 o) f (some j))) else False
      | _, _ => False)
    | _ => False
  | .iaload => match st with | .int i :: .ref a :: st => (match h.1[a]? with | some (.inl (.int, n)) => vp_in i n ∧ k (pc + 1) L (.int (h.2.1 a i.toNatClampNeg) :: st) h | _ => False) | _ => False
  | .baload => match st with | .int i :: .ref a :: st => (match h.1[a]? with | some (.inl (.byte, n)) => vp_in i n ∧ k (pc + 1) L (.int (h.2.1 a i.toNatClampNeg) :: st) h | some (.inl (.boolean, n)) => vp_in i n ∧ k (pc + 1) L (.int (h.2.1 a i.toNatClampNeg) :: st) h | _ => False) | _ => False
  | .caload => match st with | .int i :: .ref a :: st => (match h.1[a]? with | some (.inl (.char, n)) => vp_in i n ∧ k (pc + 1) L (.int (h.2.1 a i.toNatClampNeg) :: st) h | _ => False) | _ => False
  | .aaload => match st with | .int i :: .ref a :: st => (match h.1[a]? with | some (.inl (.object C, n)) => vp_in i n ∧ (∃ j, h.2.2 a i.toNatClampNeg = some j ∧ k (pc + 1) L (.ref j :: st) h) | _ => False) | _ => False
  | .iastore => match st with | .int x :: .int i :: .ref a :: st => (match h.1[a]? with | some (.inl (.int, n)) => vp_in i n ∧ k (pc + 1) L st (h.1, mv_rw h.2.1 a (upd (h.2.1 a) i.toNatClampNeg x), h.2.2) | _ => False) | _ => False
  | .bastore => match st with | .int x :: .int i :: .ref a :: st => (match h.1[a]? with | some (.inl (.byte, n)) => vp_in i n ∧ k (pc + 1) L st (h.1, mv_rw h.2.1 a (upd (h.2.1 a) i.toNatClampNeg (vp_nar .byte x)), h.2.2) | some (.inl (.boolean, n)) => vp_in i n ∧ k (pc + 1) L st (h.1, mv_rw h.2.1 a (upd (h.2.1 a) i.toNatClampNeg (vp_nar .boolean x)), h.2.2) | _ => False) | _ => False
  | .castore => match st with | .int x :: .int i :: .ref a :: st => (match h.1[a]? with | some (.inl (.char, n)) => vp_in i n ∧ k (pc + 1) L st (h.1, mv_rw h.2.1 a (upd (h.2.1 a) i.toNatClampNeg (vp_nar .char x)), h.2.2) | _ => False) | _ => False
  | .arraylength => match st with | .ref a :: st => (match h.1[a]? with | some (.inl (_, n)) => k (pc + 1) L (.int (Int32.ofNat n) :: st) h | _ => False) | _ => False
  | .invokestatic ix => match mt_lm oc ix with
    | some (0, mi) => mv_cal E (fun st h => k (pc + 3) L st h) (mt_ar mi) mi st h
    | some (1, mi) => mv_cal E (fun st h => k (pc + 3) L st h) (mt_ar mi) mi st h
    | some (5, _) => (match st with
      | .int n :: .int dp :: .ref b :: .int sp :: .ref a :: st => (match h.1[a]?, h.1[b]? with
        | some (.inl (ty, n0)), some (.inl (ty2, n1)) => bif decide (ty = ty2) && (!refKind ty && Nat.ble ((st.map fun v => v.category).sum) 8) then ¬ sp < 0 ∧ ¬ dp < 0 ∧ ¬ n < 0 ∧ sp.toNatClampNeg + n.toNatClampNeg ≤ n0 ∧ dp.toNatClampNeg + n.toNatClampNeg ≤ n1 ∧ k (pc + 3) L st (h.1, mv_rw h.2.1 b (va_cpy (h.2.1 a) (h.2.1 b) sp.toNatClampNeg dp.toNatClampNeg n.toNatClampNeg), h.2.2) else False
        | _, _ => False)
      | _ => False)
    | some (6, _) => (match st with | .int y :: .int x :: st => bif Nat.ble ((st.map fun v => v.category).sum) 8 then k (pc + 3) L (.int (if x < y then y else x) :: st) h else False | _ => False)
    | some (7, _) => (match st with | .int y :: .int x :: st => bif Nat.ble ((st.map fun v => v.category).sum) 8 then k (pc + 3) L (.int (if y < x then y else x) :: st) h else False | _ => False)
    | some (8, _) => (match st with | .int x :: st => bif Nat.ble ((st.map fun v => v.category).sum) 8 then k (pc + 3) L (.int (if 0 ≤ x then x else 0 - x) :: st) h else False | _ => False)
    | _ => False
  | .invokevirtual ix => match mt_lm oc ix with
    | some (2, mi) => bif mv_rcv (mt_ar mi) mi st h then mv_cal E (fun st h => k (pc + 3) L st h) (mt_ar mi + 1) mi st h else False
    | some (3, mi) => (match st.drop (mt_ar mi) with
      | .float q :: _ => bif Nat.blt q.toNat mt_sn then mv_cal E (fun st h => k (pc + 3) L st h) (mt_ar mi + 1) mi st h else False
      | _ => False)
    | _ => False
  | .ldc ix => match mt_lc oc ix with | some (.inl v) => k (pc + 2) L (.int v :: st) h | some (.inr q) => k (pc + 2) L (.float q :: st) h | none => False
  | .ldc_w ix => match mt_lc oc ix with | some (.inl v) => k (pc + 3) L (.int v :: st) h | some (.inr q) => k (pc + 3) L (.float q :: st) h | none => False
  | .ldc2_w ix => match mt_ll oc ix with | some v => k (pc + 3) L (.long v :: st) h | none => False
  | .ireturn => match st with | [.int x] => (match rt with | some ty => narrow ty (.int x) = .int x ∧ Rt (some (.int x)) h | none => False) | _ => False
  | .areturn => match st with | [.ref j] => (match rt with | some (.object _) => Rt (some (.ref j)) h | some (.array _) => Rt (some (.ref j)) h | _ => False) | _ => False
  | .return_ => match st, rt with | [], none => Rt none h | _, _ => False
  | _ => False
