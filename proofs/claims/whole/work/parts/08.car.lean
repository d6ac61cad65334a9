/-! A FIRST METHOD: Heap.car (the first cells of the class's world: the box, its row of keys, the heap and its rows) -/
def wc_P0 : List mv_Sh := [.inr 11, .inl (.int, 9), .inr 3, .inl (.byte, 8192), .inl (.boolean, 40), .inl (.int, 6000), .inl (.int, 6000), .inl (.int, 6000), .inl (.int, 6000), .inl (.int, 6000)]
def wc_row (b : Bool) : List (Option Nat) := [some 3, some 4, none, none, none, none, none, some (bif b then 7 else 5), some (bif b then 8 else 6), some (bif b then 5 else 7), some (bif b then 6 else 8), some 9]
def wc_R0 (b : Bool) (rest : Nat → Nat → Option Nat) : Nat → Nat → Option Nat := fun o k => bif Nat.beq o 2 then (mv_nth (wc_row b) k).join else rest o k
theorem i32_in {x t : Int32} {n : Nat} {m : Int32} (hm : m.toInt = n) (h0 : ¬ x < 0) (h1 : ¬ t ≤ x) (h2 : t ≤ m) : vp_in x n := by
  rw [vp_in_iff]
  rw [Int32.lt_iff_toInt_lt] at h0
  rw [Int32.le_iff_toInt_le] at h1 h2
  have : (0 : Int32).toInt = 0 := by decide
  omega
def hp_car (V : Nat → Nat → Int32) (a : Nat) (v : Int32) : Int32 := if v &&& 7 = 2 ∧ ¬ v >>> (3 &&& 31) < 0 ∧ ¬ V 2 2 ≤ v >>> (3 &&& 31) then V a ((v >>> (3 &&& 31)).toNatClampNeg) else 0
set_option maxRecDepth 10000 in
set_option maxHeartbeats 2000000 in
theorem e_car (d : Nat) (tl : List mv_Sh) (V : Nat → Nat → Int32) (rest : Nat → Nat → Option Nat) (b : Bool) (v : Int32) (htop : V 2 2 ≤ 6000) : mv_Ev (d + 1) 68 [.ref 2, .int v] (wc_P0 ++ tl, V, wc_R0 b rest) (some (.int (hp_car V (bif b then 7 else 5) v))) (wc_P0 ++ tl, V, wc_R0 b rest) := by
  refine mv_ev_of mt_OK (oc := 3) (nL := 3) (rt := some .int) false rfl (fun q => by cases q) (Nat.le_of_ble_eq_true rfl) rfl ?_
  refine mv_at_wp mt_OK (T := tb_68) (fun _ => rfl) (stop := fun _ => false) (G := fun _ _ _ _ => False) (fun _ _ _ _ q => q.elim) 40 _ _ _ _ ?_
  refine And.intro (fun c1 => ?_) (fun c1 => ?_)
  · have c1 : ¬ v &&& 7 = 2 := c1
    refine And.intro rfl (And.intro ?_ rfl)
    rw [hp_car, if_neg (fun q => c1 q.1)]
    rfl
  · have c1 : v &&& 7 = 2 := Decidable.not_not.mp c1
    refine And.intro (fun c2 => ?_) (fun c2 => ?_)
    · have c2 : v >>> (3 &&& 31) < 0 := c2
      refine And.intro rfl (And.intro ?_ rfl)
      rw [hp_car, if_neg (fun q => q.2.1 c2)]
      rfl
    · have c2 : ¬ v >>> (3 &&& 31) < 0 := c2
      refine And.intro (fun c3 => ?_) (fun c3 => ?_)
      · have c3 : V 2 2 ≤ v >>> (3 &&& 31) := c3
        refine And.intro rfl (And.intro ?_ rfl)
        rw [hp_car, if_neg (fun q => q.2.2 c3)]
        rfl
      · have c3 : ¬ V 2 2 ≤ v >>> (3 &&& 31) := c3
        cases b with
        | true =>
          refine And.intro (i32_in (m := 6000) (by decide) c2 c3 htop) (And.intro rfl (And.intro ?_ rfl))
          rw [hp_car, if_pos ⟨c1, c2, c3⟩]
          rfl
        | false =>
          refine And.intro (i32_in (m := 6000) (by decide) c2 c3 htop) (And.intro rfl (And.intro ?_ rfl))
          rw [hp_car, if_pos ⟨c1, c2, c3⟩]
          rfl
