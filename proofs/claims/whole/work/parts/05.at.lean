/-! THE SMALL MACHINE: many instructions at once, and a method's contract out of a walk of it -/
def mt_ok : Prop := mt_okF ∧ mt_okM ∧ mt_okL ∧ mt_okG ∧ mt_okC
/-- all that is fixed while a method runs -/
def mv_Cx (p : Program) (R : Room) (s : State) (m : MethodId) (args : Array Value) (below : List Frame) (meth : Method) (c : Code) (cells slots : Nat) (Q : State → Prop) (ad sa sv : Nat → Nat) (A : Nat → Prop) (tc : FieldType → ClassId) (D : va_G) (nL d mi oc : Nat) (ini : Bool) (rt : Option FieldType) (Rt : Option Value → mv_Hp → Prop) (Qc : Array Value → State → Outcome → State → Prop) (free : Addr → Prop) : Prop :=
  p.tables.exec = Jvm.exec ∧ (∃ y, mt_m mi = some (oc, y, c.code, nL, rt) ∧ (ini = true → y.name = "<init>") ∧ meth.name = y.name) ∧ s.vm.findClass (mt_on oc) = some m.cls ∧ (∀ w ∈ mt_TB, w.before args s = true) ∧ va_K D mt_cl (mv_tys tc) s ∧ mv_X sa sv A s s.heap ∧ c.maxLocals = nL ∧ meth.locks = false ∧ meth.sig.returnType = rt ∧ (d + 1 ≤ R.frames ∧ mt_lo * (d + 1) ≤ R.locals) ∧ (cells ≤ R.cells ∧ slots ≤ R.slots) ∧ Q = MQ below Qc args s cells slots free ∧ (∀ q, A q → free q) ∧
  ∀ (r : Option Value) (h : mv_Hp) (H : Heap) (locs : List Loc), Rt r h → mv_R ad tc D h H → va_S A s.heap H locs → ∀ t : State, t.heap = H → s.WarmedH t.vm → Qc args s (.returned (r.map (mv_v ad sa))) t
/-- method mi, at pc with these locals and this stack over h, comes to a return with Rt; what it calls has d frames -/
def mv_At (d mi oc : Nat) (ini : Bool) (rt : Option FieldType) (Rt : Option Value → mv_Hp → Prop) (pc : Nat) (L : mv_Ls) (st : List Value) (h : mv_Hp) : Prop :=
  ∀ (p : Program) (l : Launch) (e : Env) (R : Room) (s : State) (m : MethodId) (args : Array Value) (below : List Frame) (meth : Method) (c : Code) (cells slots : Nat) (Q : State → Prop) (ad sa sv : Nat → Nat) (A : Nat → Prop) (tc : FieldType → ClassId) (D : va_G) (nL : Nat) (Qc : Array Value → State → Outcome → State → Prop) (free : Addr → Prop),
    mv_Cx p R s m args below meth c cells slots Q ad sa sv A tc D nL d mi oc ini rt Rt Qc free → mv_Wm p l e R s m args below meth c cells slots Q ad sa A tc D nL pc L st h
/-- one instruction -/
theorem mv_at1 (Z : mt_ok) {d mi oc : Nat} {ini : Bool} {rt : Option FieldType} {Rt : Option Value → mv_Hp → Prop} {k : Nat → mv_Ls → List Value → mv_Hp → Prop} (hk : ∀ pc L st h, k pc L st h → mv_At d mi oc ini rt Rt pc L st h) {pc : Nat} {L : mv_Ls} {st : List Value} {h : mv_Hp} {i : Instr} (htb : mt_tb mi pc = some i) (hw : mv_i (mv_Ev d) oc ini rt Rt k pc L st h i) : mv_At d mi oc ini rt Rt pc L st h := by
  intro p l e R s m args below meth c cells slots Q ad sa sv A tc D nL Qc free X
  obtain ⟨hx, ⟨y, hm, hin1, hin2⟩, hown, hts, hK, hX, hml, hlocks, hr, hRm, hcs, hQ, hfree, hRt⟩ := id X
  obtain ⟨zF, zM, zL, zG, zC⟩ := Z
  have hdec := (zM mi oc y c.code nL rt hm).2.2.2.2.2.2
  exact mv_snd (E := mv_Ev d) (k := k) (Rt := Rt) hx rfl hown hts hK hdec zF (fun q => hin2.trans (hin1 q)) zM zL zG zC hX hml hlocks hr hRm hcs (fun _ _ _ _ _ q => q) hQ hfree (fun pc L st h q => hk pc L st h q p l e R s m args below meth c cells slots Q ad sa sv A tc D nL Qc free X) hRt htb hw
/-- up to n instructions of the code T, up to the places that stop tells -/
def mv_wp (d oc : Nat) (ini : Bool) (rt : Option FieldType) (Rt : Option Value → mv_Hp → Prop) (T : List (Option Instr)) (stop : Nat → Bool) (G : Nat → mv_Ls → List Value → mv_Hp → Prop) : Nat → Nat → mv_Ls → List Value → mv_Hp → Prop
  | 0, pc, L, st, h => G pc L st h
  | n + 1, pc, L, st, h => bif stop pc then G pc L st h else match mv_nth T pc with
    | some (some i) => mv_i (mv_Ev d) oc ini rt Rt (mv_wp d oc ini rt Rt T stop G n) pc L st h i
    | _ => False
theorem mv_at_wp (Z : mt_ok) {d mi oc : Nat} {ini : Bool} {rt : Option FieldType} {Rt : Option Value → mv_Hp → Prop} {T : List (Option Instr)} (hT : ∀ pc, mt_tb mi pc = (mv_nth T pc).join) {stop : Nat → Bool} {G : Nat → mv_Ls → List Value → mv_Hp → Prop} (hG : ∀ pc L st h, G pc L st h → mv_At d mi oc ini rt Rt pc L st h) : ∀ (n pc : Nat) (L : mv_Ls) (st : List Value) (h : mv_Hp), mv_wp d oc ini rt Rt T stop G n pc L st h → mv_At d mi oc ini rt Rt pc L st h := by
  intro n
  induction n with
  | zero => intro pc L st h q; exact hG pc L st h q
  | succ n ih =>
    intro pc L st h q
    simp only [mv_wp] at q
    cases hs : stop pc with
    | true => rw [hs] at q; exact hG pc L st h q
    | false =>
      rw [hs] at q
      simp only [cond_false] at q
      split at q
      · rename_i i hi
        exact mv_at1 Z ih (by rw [hT, hi]; rfl) q
      · exact q.elim
/-- the first instruction, whatever stop tells of it, and then on -/
theorem mv_at_go (Z : mt_ok) {d mi oc : Nat} {ini : Bool} {rt : Option FieldType} {Rt : Option Value → mv_Hp → Prop} {T : List (Option Instr)} (hT : ∀ pc, mt_tb mi pc = (mv_nth T pc).join) (stop : Nat → Bool) {G : Nat → mv_Ls → List Value → mv_Hp → Prop} (hG : ∀ pc L st h, G pc L st h → mv_At d mi oc ini rt Rt pc L st h) (n : Nat) {pc : Nat} {L : mv_Ls} {st : List Value} {h : mv_Hp} (q : match mv_nth T pc with | some (some i) => mv_i (mv_Ev d) oc ini rt Rt (mv_wp d oc ini rt Rt T stop G n) pc L st h i | _ => False) : mv_At d mi oc ini rt Rt pc L st h := by
  split at q
  · rename_i i hi
    exact mv_at1 Z (mv_at_wp Z hT hG n) (by rw [hT, hi]; rfl) q
  · exact q.elim
/-- the locals at a method's entry -/
def mv_en : List Value → mv_Ls
  | [] => []
  | v :: vs => bif Nat.beq v.category 2 then some v :: none :: mv_en vs else some v :: mv_en vs
theorem mv_ps_rep {f : Value → Value} : ∀ (n i : Nat), mv_ps f i (List.replicate n none) = [] := by
  intro n
  induction n with
  | zero => intro i; rfl
  | succ n ih => intro i; simp only [List.replicate_succ, mv_ps]; exact ih (i + 1)
theorem mv_en_ps {f : Value → Value} (hf : ∀ v, (f v).category = v.category) (n : Nat) : ∀ (vs : List Value) (i : Nat), mv_ps f i (mv_en vs ++ List.replicate n none) = lv_args i (vs.map f) := by
  intro vs
  induction vs with
  | nil => intro i; simp only [mv_en, List.nil_append, List.map_nil, lv_args]; exact mv_ps_rep n i
  | cons v vs ih =>
    intro i
    simp only [mv_en, List.map_cons, lv_args, hf]
    by_cases hc : v.category = 2
    · have hb : Nat.beq v.category 2 = true := by rw [hc]; rfl
      rw [hb, if_pos hc]
      simp only [cond_true, List.cons_append, mv_ps]
      rw [ih]
    · have hb : Nat.beq v.category 2 = false := by
        cases hb : Nat.beq v.category 2 with
        | false => rfl
        | true => exact absurd (Nat.eq_of_beq_eq_true hb) hc
      rw [hb, if_neg hc]
      simp only [cond_false, List.cons_append, mv_ps]
      rw [ih]
theorem mv_en_len {f : Value → Value} (hf : ∀ v, (f v).category = v.category) : ∀ (vs : List Value), (lg_sl (vs.map f)).length = (mv_en vs).length := by
  intro vs
  induction vs with
  | nil => rfl
  | cons v vs ih =>
    have e : (lg_sl ((v :: vs).map f)).length = (if v.category = 2 then 2 else 1) + (lg_sl (vs.map f)).length := by
      simp only [List.map_cons, lg_sl, List.flatMap_cons, List.length_append, hf]
      by_cases hc : v.category = 2 <;> simp [hc]
    rw [e, ih]
    simp only [mv_en]
    by_cases hc : v.category = 2
    · have hb : Nat.beq v.category 2 = true := by rw [hc]; rfl
      rw [hb, if_pos hc]
      simp only [cond_true, List.length_cons]
      omega
    · have hb : Nat.beq v.category 2 = false := by
        cases hb : Nat.beq v.category 2 with
        | false => rfl
        | true => exact absurd (Nat.eq_of_beq_eq_true hb) hc
      rw [hb, if_neg hc]
      simp only [cond_false, List.length_cons]
      omega
set_option maxHeartbeats 4000000 in
/-- a method's contract out of a walk from its entry -/
theorem mv_ev_of (Z : mt_ok) {d mi oc nL : Nat} {y : MethodName} {cc : ByteArray} {rt : Option FieldType} {av : List Value} {h h' : mv_Hp} {r : Option Value} (ini : Bool) (hm : mt_m mi = some (oc, y, cc, nL, rt)) (hini : ini = true → y.name = "<init>") (hlen : (mv_en av).length ≤ nL) (hs : h'.1 = h.1)
    (hw : mv_At d mi oc ini rt (fun r2 h2 => r2 = r ∧ h2 = h') 0 (mv_en av ++ List.replicate (nL - (mv_en av).length) none) [] h) : mv_Ev (d + 1) mi av h r h' := by
  obtain ⟨w1, w2, w3, w4, w5, w6, w7⟩ := Z.2.1 mi oc y cc nL rt hm
  refine ⟨hs, oc, y, cc, nL, rt, hm, fun l ad sa sv tc D => ?_⟩
  refine Met.ofW (cc := cc) (maxL := nL) (ret := rt) w4 rfl ?_
  intro p e s m args below meth c s₁ B hml hv
  obtain ⟨rfl, hR, hK, hX, hJ⟩ := hv
  have hcat : ∀ v, (mv_v ad sa v).category = v.category := mv_v_cat ad sa
  have hts0 := atoms_spec (ws := Cond.code y cc nL rt :: mt_TB) B.pre
  have hown : s.vm.findClass y.cls = some m.cls := findClass_of_methodNamed B.named
  have hl := lv_entry (av.map (mv_v ad sa)) (n := nL) (by rw [mv_en_len hcat]; exact hlen)
  rw [lg_entry_eq]
  have hl2 : lv_has ((lg_sl (av.map (mv_v ad sa)) ++ List.replicate (nL - (lg_sl (av.map (mv_v ad sa))).length) Slot.unset).toArray) nL (mv_ps (mv_v ad sa) 0 (mv_en av ++ List.replicate (nL - (mv_en av).length) none)) := by
    rw [mv_en_ps hcat]
    exact hl
  refine hw p l e _ s m _ below meth c 0 0 _ ad sa sv (mv_A ad h.1.length) tc D nL (mv_Qc ad sa tc D h.1.length r h') (mv_A ad h.1.length) ⟨B.exec, ⟨y, ?_, hini, (name_of_methodNamed B.named B.method).1⟩, ?_, fun w hw => hts0 w (List.mem_cons_of_mem _ hw), hK, hX, hml, B.notSynchronized, B.returns, ⟨Nat.le_refl _, Nat.le_refl _⟩, ⟨Nat.zero_le _, Nat.zero_le _⟩, rfl, fun _ q => q, ?_⟩ s.heap [] _ hR hJ (fun i hi => ⟨i, hi, rfl⟩) va_S.rf hl2 ?_
  · rw [hm, B.bytes]
  · rw [← w3]; exact hown
  · rintro r2 h2 H locs ⟨rfl, rfl⟩ hR2 hS2 t ht hW
    exact ⟨rfl, by rw [ht]; exact hR2, hS2.F ht⟩
  · rw [List.length_append, List.length_replicate]
    omega
