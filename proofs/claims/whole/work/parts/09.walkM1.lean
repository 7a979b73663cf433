-- X10_isServant
def F_X10_isServant (fu : Nat) (l1 : Int32) (x : Mem) : Option Int32 :=
  (clp (F_X10_in fu l1 0 ((x 0 19) - 1) x) (fun r_1 => (retzp r_1)))
set_option maxRecDepth 100000 in
set_option maxHeartbeats 4000000 in
theorem c_X10_isServant (l : Launch) (D : va_G) (cy : ClassId) (ad : Nat → Nat) (fu : Nat) (l1 : Int32) (x : Mem) : Ct l D cy ad shM yX10_isServant cX10_isServant 2 (some .boolean) 2 80 [.ref (ad 0), .int l1] x (pr (F_X10_isServant fu l1 x) x) := by
  refine ct_of [some (.ref (ad 0)), some (.int l1)] (by decide) (Nat.le_of_ble_eq_true rfl) rfl rfl ?_
  intro p e s m args below meth c A X
  have X : Cx p s m args meth c RX10 cX10_isServant 2 (some .boolean) D cy ad shM A := X
  unfold F_X10_isServant
  refine s_iload_n (pc := 0) X rfl dX10_isServant_0 ?_
  refine s_iconst (pc := 1) X ic_0 dX10_isServant_1 ?_
  refine s_aload_n (pc := 2) X rfl dX10_isServant_2 ?_
  refine s_getI (pc := 3) X shM_0 rfl fl_RX10_141 dX10_isServant_3 ?_
  refine s_iconst (pc := 6) X ic_1 dX10_isServant_6 ?_
  refine s_isub (pc := 7) X dX10_isServant_7 ?_
  refine p_callS (pc := 8) (As := [.int l1, .int 0, .int ((x 0 19) - 1)]) (st := []) X lk_RX10_95 (c_X10_in l D cy ad fu _ _ _ _) rfl rfl ⟨by decide, by decide⟩ (Nat.le_of_ble_eq_true rfl) dX10_isServant_8 (fun r_1 => ?_)
  exact p_zret (pc := 11) X dX10_isServant_11

-- X10_isOnErrand
def L_X10_isOnErrand_4 (fu : Nat) (l1 : Int32) (x : Mem) : Nat → Int32 → Int32 → (Int32 → Option Int32) → Option Int32
  | 0, _, _, _ => none
  | n + 1, l2, l3, K => (if (x 0 19) ≤ l3 then (K l2) else (if l2 = 0 then (chk l3 5 (if (x 18 (l3 : Int32).toNatClampNeg) = l1 then (L_X10_isOnErrand_4 fu l1 x n 1 (l3 + 1) K) else (L_X10_isOnErrand_4 fu l1 x n 0 (l3 + 1) K))) else (L_X10_isOnErrand_4 fu l1 x n 1 (l3 + 1) K)))
set_option maxRecDepth 100000 in
set_option maxHeartbeats 4000000 in
theorem tL_X10_isOnErrand_4 {p : Program} {l : Launch} {e : Env} {s : State} {m : MethodId} {args : Array Value} {below : List Frame} {meth : Method} {c : Code} {D : va_G} {cy : ClassId} {ad : Nat → Nat} {A : Nat → Prop} {fu : Nat} (X : Cx p s m args meth c RX10 cX10_isOnErrand 4 (some .boolean) D cy ad shM A) {l1 : Int32} {x : Mem} {K : Int32 → Option Int32} (hK : ∀ (l2 : Int32), Sim p l e ({ frames := 1, cells := 0, slots := 0, locals := 40 } : Room) s m args below meth c 4 (some .boolean) D cy ad shM A 38 [none, none, some (.int l2), none] [] x (pr (K l2) x)) : ∀ (n : Nat) (l2 : Int32) (l3 : Int32), Sim p l e ({ frames := 1, cells := 0, slots := 0, locals := 40 } : Room) s m args below meth c 4 (some .boolean) D cy ad shM A 4 [some (.ref (ad 0)), some (.int l1), some (.int l2), some (.int l3)] [] x (pr (L_X10_isOnErrand_4 fu l1 x n l2 l3 K) x) := by
  intro n
  induction n with
  | zero =>
    intro l2 l3
    rw [L_X10_isOnErrand_4]
    exact p_none
  | succ n ih =>
    intro l2 l3
    rw [L_X10_isOnErrand_4]
    refine s_iload_n (pc := 4) X rfl dX10_isOnErrand_4 ?_
    refine s_aload_n (pc := 5) X rfl dX10_isOnErrand_5 ?_
    refine s_getI (pc := 6) X shM_0 rfl fl_RX10_141 dX10_isOnErrand_6 ?_
    refine p_icmp_ge (pc := 9) X 38 rfl dX10_isOnErrand_9 ?_ ?_
    · refine s_mask [false, false, true, false] ?_
      exact hK _
    · refine s_iload_n (pc := 12) X rfl dX10_isOnErrand_12 ?_
      refine p_if_ne (pc := 13) X 26 rfl dX10_isOnErrand_13 ?_ ?_
      · refine s_iconst (pc := 26) X ic_1 dX10_isOnErrand_26 ?_
        refine s_goto (pc := 27) X 31 rfl dX10_isOnErrand_27 ?_
        refine s_istore_n (pc := 31) X [some (.ref (ad 0)), some (.int l1), some (.int 1), some (.int l3)] rfl (by decide) dX10_isOnErrand_31 ?_
        refine s_iinc (pc := 32) X [some (.ref (ad 0)), some (.int l1), some (.int 1), some (.int (l3 + 1))] rfl (by decide) rfl ic_1 dX10_isOnErrand_32 ?_
        refine s_goto (pc := 35) X 4 rfl dX10_isOnErrand_35 ?_
        exact ih _ _
      · refine s_aload_n (pc := 16) X rfl dX10_isOnErrand_16 ?_
        refine s_getR (pc := 17) X shM_0 rfl fl_RX10_61 dX10_isOnErrand_17 ?_
        refine s_iload_n (pc := 20) X rfl dX10_isOnErrand_20 ?_
        refine p_iald (pc := 21) X shM_18 dX10_isOnErrand_21 ?_
        refine s_iload_n (pc := 22) X rfl dX10_isOnErrand_22 ?_
        refine p_icmp_ne (pc := 23) X 30 rfl dX10_isOnErrand_23 ?_ ?_
        · refine s_iconst (pc := 30) X ic_0 dX10_isOnErrand_30 ?_
          refine s_istore_n (pc := 31) X [some (.ref (ad 0)), some (.int l1), some (.int 0), some (.int l3)] rfl (by decide) dX10_isOnErrand_31 ?_
          refine s_iinc (pc := 32) X [some (.ref (ad 0)), some (.int l1), some (.int 0), some (.int (l3 + 1))] rfl (by decide) rfl ic_1 dX10_isOnErrand_32 ?_
          refine s_goto (pc := 35) X 4 rfl dX10_isOnErrand_35 ?_
          exact ih _ _
        · refine s_iconst (pc := 26) X ic_1 dX10_isOnErrand_26 ?_
          refine s_goto (pc := 27) X 31 rfl dX10_isOnErrand_27 ?_
          refine s_istore_n (pc := 31) X [some (.ref (ad 0)), some (.int l1), some (.int 1), some (.int l3)] rfl (by decide) dX10_isOnErrand_31 ?_
          refine s_iinc (pc := 32) X [some (.ref (ad 0)), some (.int l1), some (.int 1), some (.int (l3 + 1))] rfl (by decide) rfl ic_1 dX10_isOnErrand_32 ?_
          refine s_goto (pc := 35) X 4 rfl dX10_isOnErrand_35 ?_
          exact ih _ _

def F_X10_isOnErrand (fu : Nat) (l1 : Int32) (x : Mem) : Option Int32 :=
  (L_X10_isOnErrand_4 fu l1 x fu 0 0 (fun l2_1 => (retzp l2_1)))
set_option maxRecDepth 100000 in
set_option maxHeartbeats 4000000 in
theorem c_X10_isOnErrand (l : Launch) (D : va_G) (cy : ClassId) (ad : Nat → Nat) (fu : Nat) (l1 : Int32) (x : Mem) : Ct l D cy ad shM yX10_isOnErrand cX10_isOnErrand 4 (some .boolean) 1 40 [.ref (ad 0), .int l1] x (pr (F_X10_isOnErrand fu l1 x) x) := by
  refine ct_of [some (.ref (ad 0)), some (.int l1), none, none] (by decide) (Nat.le_of_ble_eq_true rfl) rfl rfl ?_
  intro p e s m args below meth c A X
  have X : Cx p s m args meth c RX10 cX10_isOnErrand 4 (some .boolean) D cy ad shM A := X
  unfold F_X10_isOnErrand
  refine s_iconst (pc := 0) X ic_0 dX10_isOnErrand_0 ?_
  refine s_istore_n (pc := 1) X [some (.ref (ad 0)), some (.int l1), some (.int 0), none] rfl (by decide) dX10_isOnErrand_1 ?_
  refine s_iconst (pc := 2) X ic_0 dX10_isOnErrand_2 ?_
  refine s_istore_n (pc := 3) X [some (.ref (ad 0)), some (.int l1), some (.int 0), some (.int 0)] rfl (by decide) dX10_isOnErrand_3 ?_
  refine tL_X10_isOnErrand_4 X (fun l2_1 => ?_) fu _ _
  refine s_iload_n (pc := 38) X rfl dX10_isOnErrand_38 ?_
  exact p_zret (pc := 39) X dX10_isOnErrand_39

-- X10_frees
def L_X10_frees_2 (fu : Nat) : Nat → Int32 → Mem → (Mem → Res) → Res
  | 0, _, _, _ => none
  | n + 1, l1, x, K => (if (x 0 19) ≤ l1 then (K x) else (chk l1 5 (if (x 18 (l1 : Int32).toNatClampNeg) < 0 then (L_X10_frees_2 fu n (l1 + 1) x K) else (chk l1 5 (if (x 0 26) < (x 19 (l1 : Int32).toNatClampNeg) then (L_X10_frees_2 fu n (l1 + 1) x K) else (chk l1 5 (chk (x 18 (l1 : Int32).toNatClampNeg) 12 (chk l1 5 (letm (wr x 15 (l1 : Int32).toNatClampNeg (x 4 ((x 18 (l1 : Int32).toNatClampNeg) : Int32).toNatClampNeg)) (fun x_1 => (chk l1 5 (chk (x_1 18 (l1 : Int32).toNatClampNeg) 12 (chk l1 5 (letm (wr x_1 16 (l1 : Int32).toNatClampNeg (x_1 5 ((x_1 18 (l1 : Int32).toNatClampNeg) : Int32).toNatClampNeg)) (fun x_2 => (chk l1 5 (letm (wr x_2 18 (l1 : Int32).toNatClampNeg (-4)) (fun x_3 => (L_X10_frees_2 fu n (l1 + 1) x_3 K)))))))))))))))))))
set_option maxRecDepth 100000 in
set_option maxHeartbeats 4000000 in
theorem tL_X10_frees_2 {p : Program} {l : Launch} {e : Env} {s : State} {m : MethodId} {args : Array Value} {below : List Frame} {meth : Method} {c : Code} {D : va_G} {cy : ClassId} {ad : Nat → Nat} {A : Nat → Prop} {fu : Nat} (X : Cx p s m args meth c RX10 cX10_frees 2 none D cy ad shM A) {K : Mem → Res} (hK : ∀ (x : Mem), Sim p l e ({ frames := 1, cells := 0, slots := 0, locals := 40 } : Room) s m args below meth c 2 none D cy ad shM A 80 [none, none] [] x (K x)) : ∀ (n : Nat) (l1 : Int32) (x : Mem), Sim p l e ({ frames := 1, cells := 0, slots := 0, locals := 40 } : Room) s m args below meth c 2 none D cy ad shM A 2 [some (.ref (ad 0)), some (.int l1)] [] x (L_X10_frees_2 fu n l1 x K) := by
  intro n
  induction n with
  | zero =>
    intro l1 x
    rw [L_X10_frees_2]
    exact s_none
  | succ n ih =>
    intro l1 x
    rw [L_X10_frees_2]
    refine s_iload_n (pc := 2) X rfl dX10_frees_2 ?_
    refine s_aload_n (pc := 3) X rfl dX10_frees_3 ?_
    refine s_getI (pc := 4) X shM_0 rfl fl_RX10_141 dX10_frees_4 ?_
    refine s_icmp_ge (pc := 7) X 80 rfl dX10_frees_7 ?_ ?_
    · refine s_mask [false, false] ?_
      exact hK _
    · refine s_aload_n (pc := 10) X rfl dX10_frees_10 ?_
      refine s_getR (pc := 11) X shM_0 rfl fl_RX10_61 dX10_frees_11 ?_
      refine s_iload_n (pc := 14) X rfl dX10_frees_14 ?_
      refine s_iald (pc := 15) X shM_18 dX10_frees_15 ?_
      refine s_if_lt (pc := 16) X 74 rfl dX10_frees_16 ?_ ?_
      · refine s_iinc (pc := 74) X [some (.ref (ad 0)), some (.int (l1 + 1))] rfl (by decide) rfl ic_1 dX10_frees_74 ?_
        refine s_goto (pc := 77) X 2 rfl dX10_frees_77 ?_
        exact ih _ _
      · refine s_aload_n (pc := 19) X rfl dX10_frees_19 ?_
        refine s_getI (pc := 20) X shM_0 rfl fl_RX10_144 dX10_frees_20 ?_
        refine s_aload_n (pc := 23) X rfl dX10_frees_23 ?_
        refine s_getR (pc := 24) X shM_0 rfl fl_RX10_64 dX10_frees_24 ?_
        refine s_iload_n (pc := 27) X rfl dX10_frees_27 ?_
        refine s_iald (pc := 28) X shM_19 dX10_frees_28 ?_
        refine s_icmp_lt (pc := 29) X 74 rfl dX10_frees_29 ?_ ?_
        · refine s_iinc (pc := 74) X [some (.ref (ad 0)), some (.int (l1 + 1))] rfl (by decide) rfl ic_1 dX10_frees_74 ?_
          refine s_goto (pc := 77) X 2 rfl dX10_frees_77 ?_
          exact ih _ _
        · refine s_aload_n (pc := 32) X rfl dX10_frees_32 ?_
          refine s_getR (pc := 33) X shM_0 rfl fl_RX10_52 dX10_frees_33 ?_
          refine s_iload_n (pc := 36) X rfl dX10_frees_36 ?_
          refine s_aload_n (pc := 37) X rfl dX10_frees_37 ?_
          refine s_getR (pc := 38) X shM_0 rfl fl_RX10_19 dX10_frees_38 ?_
          refine s_aload_n (pc := 41) X rfl dX10_frees_41 ?_
          refine s_getR (pc := 42) X shM_0 rfl fl_RX10_61 dX10_frees_42 ?_
          refine s_iload_n (pc := 45) X rfl dX10_frees_45 ?_
          refine s_iald (pc := 46) X shM_18 dX10_frees_46 ?_
          refine s_iald (pc := 47) X shM_4 dX10_frees_47 ?_
          refine s_iast (pc := 48) X shM_15 dX10_frees_48 ?_
          refine s_letm (fun x_1 => ?_)
          refine s_aload_n (pc := 49) X rfl dX10_frees_49 ?_
          refine s_getR (pc := 50) X shM_0 rfl fl_RX10_55 dX10_frees_50 ?_
          refine s_iload_n (pc := 53) X rfl dX10_frees_53 ?_
          refine s_aload_n (pc := 54) X rfl dX10_frees_54 ?_
          refine s_getR (pc := 55) X shM_0 rfl fl_RX10_22 dX10_frees_55 ?_
          refine s_aload_n (pc := 58) X rfl dX10_frees_58 ?_
          refine s_getR (pc := 59) X shM_0 rfl fl_RX10_61 dX10_frees_59 ?_
          refine s_iload_n (pc := 62) X rfl dX10_frees_62 ?_
          refine s_iald (pc := 63) X shM_18 dX10_frees_63 ?_
          refine s_iald (pc := 64) X shM_5 dX10_frees_64 ?_
          refine s_iast (pc := 65) X shM_16 dX10_frees_65 ?_
          refine s_letm (fun x_2 => ?_)
          refine s_aload_n (pc := 66) X rfl dX10_frees_66 ?_
          refine s_getR (pc := 67) X shM_0 rfl fl_RX10_61 dX10_frees_67 ?_
          refine s_iload_n (pc := 70) X rfl dX10_frees_70 ?_
          refine s_bipush (pc := 71) X bp_m4 dX10_frees_71 ?_
          refine s_iast (pc := 73) X shM_18 dX10_frees_73 ?_
          refine s_letm (fun x_3 => ?_)
          refine s_iinc (pc := 74) X [some (.ref (ad 0)), some (.int (l1 + 1))] rfl (by decide) rfl ic_1 dX10_frees_74 ?_
          refine s_goto (pc := 77) X 2 rfl dX10_frees_77 ?_
          exact ih _ _

def F_X10_frees (fu : Nat) (x : Mem) : Res :=
  (L_X10_frees_2 fu fu 0 x (fun x_4 => (some (0, x_4))))
set_option maxRecDepth 100000 in
set_option maxHeartbeats 4000000 in
theorem c_X10_frees (l : Launch) (D : va_G) (cy : ClassId) (ad : Nat → Nat) (fu : Nat) (x : Mem) : Ct l D cy ad shM yX10_frees cX10_frees 2 none 1 40 [.ref (ad 0)] x (F_X10_frees fu x) := by
  refine ct_of [some (.ref (ad 0)), none] (by decide) (Nat.le_of_ble_eq_true rfl) rfl rfl ?_
  intro p e s m args below meth c A X
  have X : Cx p s m args meth c RX10 cX10_frees 2 none D cy ad shM A := X
  unfold F_X10_frees
  refine s_iconst (pc := 0) X ic_0 dX10_frees_0 ?_
  refine s_istore_n (pc := 1) X [some (.ref (ad 0)), some (.int 0)] rfl (by decide) dX10_frees_1 ?_
  refine tL_X10_frees_2 X (fun x_4 => ?_) fu _ _
  exact s_vret (pc := 80) X dX10_frees_80

-- X10_wayOf
def F_X10_wayOf (fu : Nat) (l1 : Int32) (l2 : Int32) (x : Mem) : Option Int32 :=
  (chk l1 5 (chk l2 12 (if (x 15 (l1 : Int32).toNatClampNeg) = (x 4 (l2 : Int32).toNatClampNeg) then (chk l1 5 (chk l2 12 (clp (F_X10_size fu ((x 16 (l1 : Int32).toNatClampNeg) - (x 5 (l2 : Int32).toNatClampNeg)) x) (fun r_4 => (some r_4))))) else (chk l1 5 (clp (F_X10_size fu ((x 16 (l1 : Int32).toNatClampNeg) - 15) x) (fun r_1 => (chk l1 5 (chk l2 12 (clp (F_X10_size fu ((x 15 (l1 : Int32).toNatClampNeg) - (x 4 (l2 : Int32).toNatClampNeg)) x) (fun r_2 => (chk l2 12 (clp (F_X10_size fu (15 - (x 5 (l2 : Int32).toNatClampNeg)) x) (fun r_3 => (some ((r_1 + (6 * r_2)) + r_3)))))))))))))))
set_option maxRecDepth 100000 in
set_option maxHeartbeats 4000000 in
theorem c_X10_wayOf (l : Launch) (D : va_G) (cy : ClassId) (ad : Nat → Nat) (fu : Nat) (l1 : Int32) (l2 : Int32) (x : Mem) : Ct l D cy ad shM yX10_wayOf cX10_wayOf 3 (some .int) 2 80 [.ref (ad 0), .int l1, .int l2] x (pr (F_X10_wayOf fu l1 l2 x) x) := by
  refine ct_of [some (.ref (ad 0)), some (.int l1), some (.int l2)] (by decide) (Nat.le_of_ble_eq_true rfl) rfl rfl ?_
  intro p e s m args below meth c A X
  have X : Cx p s m args meth c RX10 cX10_wayOf 3 (some .int) D cy ad shM A := X
  unfold F_X10_wayOf
  refine s_aload_n (pc := 0) X rfl dX10_wayOf_0 ?_
  refine s_getR (pc := 1) X shM_0 rfl fl_RX10_52 dX10_wayOf_1 ?_
  refine s_iload_n (pc := 4) X rfl dX10_wayOf_4 ?_
  refine p_iald (pc := 5) X shM_15 dX10_wayOf_5 ?_
  refine s_aload_n (pc := 6) X rfl dX10_wayOf_6 ?_
  refine s_getR (pc := 7) X shM_0 rfl fl_RX10_19 dX10_wayOf_7 ?_
  refine s_iload_n (pc := 10) X rfl dX10_wayOf_10 ?_
  refine p_iald (pc := 11) X shM_4 dX10_wayOf_11 ?_
  refine p_icmp_ne (pc := 12) X 32 rfl dX10_wayOf_12 ?_ ?_
  · refine s_aload_n (pc := 32) X rfl dX10_wayOf_32 ?_
    refine s_getR (pc := 33) X shM_0 rfl fl_RX10_55 dX10_wayOf_33 ?_
    refine s_iload_n (pc := 36) X rfl dX10_wayOf_36 ?_
    refine p_iald (pc := 37) X shM_16 dX10_wayOf_37 ?_
    refine s_bipush (pc := 38) X bp_15 dX10_wayOf_38 ?_
    refine s_isub (pc := 40) X dX10_wayOf_40 ?_
    refine p_callS (pc := 41) (As := [.int ((x 16 (l1 : Int32).toNatClampNeg) - 15)]) (st := []) X lk_RX10_147 (c_X10_size l D cy ad fu _ _) rfl rfl ⟨by decide, by decide⟩ (Nat.le_of_ble_eq_true rfl) dX10_wayOf_41 (fun r_1 => ?_)
    refine s_bipush (pc := 44) X bp_6 dX10_wayOf_44 ?_
    refine s_aload_n (pc := 46) X rfl dX10_wayOf_46 ?_
    refine s_getR (pc := 47) X shM_0 rfl fl_RX10_52 dX10_wayOf_47 ?_
    refine s_iload_n (pc := 50) X rfl dX10_wayOf_50 ?_
    refine p_iald (pc := 51) X shM_15 dX10_wayOf_51 ?_
    refine s_aload_n (pc := 52) X rfl dX10_wayOf_52 ?_
    refine s_getR (pc := 53) X shM_0 rfl fl_RX10_19 dX10_wayOf_53 ?_
    refine s_iload_n (pc := 56) X rfl dX10_wayOf_56 ?_
    refine p_iald (pc := 57) X shM_4 dX10_wayOf_57 ?_
    refine s_isub (pc := 58) X dX10_wayOf_58 ?_
    refine p_callS (pc := 59) (As := [.int ((x 15 (l1 : Int32).toNatClampNeg) - (x 4 (l2 : Int32).toNatClampNeg))]) (st := [.int 6, .int r_1]) X lk_RX10_147 (c_X10_size l D cy ad fu _ _) rfl rfl ⟨by decide, by decide⟩ (Nat.le_of_ble_eq_true rfl) dX10_wayOf_59 (fun r_2 => ?_)
    refine s_imul (pc := 62) X dX10_wayOf_62 ?_
    refine s_iadd (pc := 63) X dX10_wayOf_63 ?_
    refine s_bipush (pc := 64) X bp_15 dX10_wayOf_64 ?_
    refine s_aload_n (pc := 66) X rfl dX10_wayOf_66 ?_
    refine s_getR (pc := 67) X shM_0 rfl fl_RX10_22 dX10_wayOf_67 ?_
    refine s_iload_n (pc := 70) X rfl dX10_wayOf_70 ?_
    refine p_iald (pc := 71) X shM_5 dX10_wayOf_71 ?_
    refine s_isub (pc := 72) X dX10_wayOf_72 ?_
    refine p_callS (pc := 73) (As := [.int (15 - (x 5 (l2 : Int32).toNatClampNeg))]) (st := [.int (r_1 + (6 * r_2))]) X lk_RX10_147 (c_X10_size l D cy ad fu _ _) rfl rfl ⟨by decide, by decide⟩ (Nat.le_of_ble_eq_true rfl) dX10_wayOf_73 (fun r_3 => ?_)
    refine s_iadd (pc := 76) X dX10_wayOf_76 ?_
    exact p_iret (pc := 77) X dX10_wayOf_77
  · refine s_aload_n (pc := 15) X rfl dX10_wayOf_15 ?_
    refine s_getR (pc := 16) X shM_0 rfl fl_RX10_55 dX10_wayOf_16 ?_
    refine s_iload_n (pc := 19) X rfl dX10_wayOf_19 ?_
    refine p_iald (pc := 20) X shM_16 dX10_wayOf_20 ?_
    refine s_aload_n (pc := 21) X rfl dX10_wayOf_21 ?_
    refine s_getR (pc := 22) X shM_0 rfl fl_RX10_22 dX10_wayOf_22 ?_
    refine s_iload_n (pc := 25) X rfl dX10_wayOf_25 ?_
    refine p_iald (pc := 26) X shM_5 dX10_wayOf_26 ?_
    refine s_isub (pc := 27) X dX10_wayOf_27 ?_
    refine p_callS (pc := 28) (As := [.int ((x 16 (l1 : Int32).toNatClampNeg) - (x 5 (l2 : Int32).toNatClampNeg))]) (st := []) X lk_RX10_147 (c_X10_size l D cy ad fu _ _) rfl rfl ⟨by decide, by decide⟩ (Nat.le_of_ble_eq_true rfl) dX10_wayOf_28 (fun r_4 => ?_)
    exact p_iret (pc := 31) X dX10_wayOf_31

-- X10_may
def F_X10_may (fu : Nat) (l1 : Int32) (l2 : Int32) (x : Mem) : Option Int32 :=
  (chk l1 5 (if 0 ≤ ((x 18 (l1 : Int32).toNatClampNeg) : Int32) then (retzp 0) else (chk l1 5 (chk l2 12 (if (((x 17 (l1 : Int32).toNatClampNeg) >>> ((x 6 (l2 : Int32).toNatClampNeg) &&& 31)) &&& 1) = 1 then (retzp 1) else (retzp 0))))))
set_option maxRecDepth 100000 in
set_option maxHeartbeats 4000000 in
theorem c_X10_may (l : Launch) (D : va_G) (cy : ClassId) (ad : Nat → Nat) (fu : Nat) (l1 : Int32) (l2 : Int32) (x : Mem) : Ct l D cy ad shM yX10_may cX10_may 3 (some .boolean) 1 40 [.ref (ad 0), .int l1, .int l2] x (pr (F_X10_may fu l1 l2 x) x) := by
  refine ct_of [some (.ref (ad 0)), some (.int l1), some (.int l2)] (by decide) (Nat.le_of_ble_eq_true rfl) rfl rfl ?_
  intro p e s m args below meth c A X
  have X : Cx p s m args meth c RX10 cX10_may 3 (some .boolean) D cy ad shM A := X
  unfold F_X10_may
  refine s_aload_n (pc := 0) X rfl dX10_may_0 ?_
  refine s_getR (pc := 1) X shM_0 rfl fl_RX10_61 dX10_may_1 ?_
  refine s_iload_n (pc := 4) X rfl dX10_may_4 ?_
  refine p_iald (pc := 5) X shM_18 dX10_may_5 ?_
  refine p_if_ge (pc := 6) X 32 rfl dX10_may_6 ?_ ?_
  · refine s_iconst (pc := 32) X ic_0 dX10_may_32 ?_
    exact p_zret (pc := 33) X dX10_may_33
  · refine s_aload_n (pc := 9) X rfl dX10_may_9 ?_
    refine s_getR (pc := 10) X shM_0 rfl fl_RX10_58 dX10_may_10 ?_
    refine s_iload_n (pc := 13) X rfl dX10_may_13 ?_
    refine p_iald (pc := 14) X shM_17 dX10_may_14 ?_
    refine s_aload_n (pc := 15) X rfl dX10_may_15 ?_
    refine s_getR (pc := 16) X shM_0 rfl fl_RX10_25 dX10_may_16 ?_
    refine s_iload_n (pc := 19) X rfl dX10_may_19 ?_
    refine p_iald (pc := 20) X shM_6 dX10_may_20 ?_
    refine s_ishr (pc := 21) X dX10_may_21 ?_
    refine s_iconst (pc := 22) X ic_1 dX10_may_22 ?_
    refine s_iand (pc := 23) X dX10_may_23 ?_
    refine s_iconst (pc := 24) X ic_1 dX10_may_24 ?_
    refine p_icmp_ne (pc := 25) X 32 rfl dX10_may_25 ?_ ?_
    · refine s_iconst (pc := 32) X ic_0 dX10_may_32 ?_
      exact p_zret (pc := 33) X dX10_may_33
    · refine s_iconst (pc := 28) X ic_1 dX10_may_28 ?_
      refine s_goto (pc := 29) X 33 rfl dX10_may_29 ?_
      exact p_zret (pc := 33) X dX10_may_33

-- X10_goes
def F_X10_goes (fu : Nat) (l1 : Int32) (l2 : Int32) (x : Mem) : Res :=
  (clp (F_X10_wayOf fu l1 l2 x) (fun r_1 => (chk l2 12 (letv (((x 0 26) - (x 11 (l2 : Int32).toNatClampNeg)) + r_1) (fun l4_2 => (chk l1 5 (letm (wr x 18 (l1 : Int32).toNatClampNeg l2) (fun x_3 => (chk l1 5 (letm (wr x_3 19 (l1 : Int32).toNatClampNeg (((x_3 0 26) + r_1) + 3)) (fun x_4 => (chk l1 5 (chk l1 5 (letm (wr x_4 20 (l1 : Int32).toNatClampNeg ((x_4 20 (l1 : Int32).toNatClampNeg) + 1)) (fun x_5 => (chk l2 12 (letm (wr x_5 11 (l2 : Int32).toNatClampNeg (-1)) (fun x_6 => (chk l2 12 (chk l2 12 (letm (wr x_6 12 (l2 : Int32).toNatClampNeg ((x_6 12 (l2 : Int32).toNatClampNeg) + 1)) (fun x_7 => (chk l2 12 (chk l2 12 (letm (wr x_7 13 (l2 : Int32).toNatClampNeg ((x_7 13 (l2 : Int32).toNatClampNeg) + l4_2)) (fun x_8 => (chk l2 12 (if l4_2 ≤ (x_8 14 (l2 : Int32).toNatClampNeg) then (chk l2 12 (chk l2 12 (letm (wr x_8 14 (l2 : Int32).toNatClampNeg (x_8 14 (l2 : Int32).toNatClampNeg)) (fun x_9 => (some (0, x_9)))))) else (chk l2 12 (letm (wr x_8 14 (l2 : Int32).toNatClampNeg l4_2) (fun x_10 => (some (0, x_10)))))))))))))))))))))))))))))))))
set_option maxRecDepth 100000 in
set_option maxHeartbeats 4000000 in
theorem c_X10_goes (l : Launch) (D : va_G) (cy : ClassId) (ad : Nat → Nat) (fu : Nat) (l1 : Int32) (l2 : Int32) (x : Mem) : Ct l D cy ad shM yX10_goes cX10_goes 5 none 3 120 [.ref (ad 0), .int l1, .int l2] x (F_X10_goes fu l1 l2 x) := by
  refine ct_of [some (.ref (ad 0)), some (.int l1), some (.int l2), none, none] (by decide) (Nat.le_of_ble_eq_true rfl) rfl rfl ?_
  intro p e s m args below meth c A X
  have X : Cx p s m args meth c RX10 cX10_goes 5 none D cy ad shM A := X
  unfold F_X10_goes
  refine s_aload_n (pc := 0) X rfl dX10_goes_0 ?_
  refine s_iload_n (pc := 1) X rfl dX10_goes_1 ?_
  refine s_iload_n (pc := 2) X rfl dX10_goes_2 ?_
  refine s_callVp (pc := 3) (As := [.int l1, .int l2]) (st := []) X lk_RX10_150 (c_X10_wayOf l D cy ad fu _ _ _) shM_0 rfl rfl rfl rfl ⟨by decide, by decide⟩ (Nat.le_of_ble_eq_true rfl) dX10_goes_3 (fun r_1 => ?_)
  refine s_istore_n (pc := 6) X [some (.ref (ad 0)), some (.int l1), some (.int l2), some (.int r_1), none] rfl (by decide) dX10_goes_6 ?_
  refine s_aload_n (pc := 7) X rfl dX10_goes_7 ?_
  refine s_getI (pc := 8) X shM_0 rfl fl_RX10_144 dX10_goes_8 ?_
  refine s_aload_n (pc := 11) X rfl dX10_goes_11 ?_
  refine s_getR (pc := 12) X shM_0 rfl fl_RX10_40 dX10_goes_12 ?_
  refine s_iload_n (pc := 15) X rfl dX10_goes_15 ?_
  refine s_iald (pc := 16) X shM_11 dX10_goes_16 ?_
  refine s_isub (pc := 17) X dX10_goes_17 ?_
  refine s_iload_n (pc := 18) X rfl dX10_goes_18 ?_
  refine s_iadd (pc := 19) X dX10_goes_19 ?_
  refine s_letv (fun l4_2 => ?_)
  refine s_istore (pc := 20) X [some (.ref (ad 0)), some (.int l1), some (.int l2), some (.int r_1), some (.int l4_2)] rfl (by decide) dX10_goes_20 ?_
  refine s_aload_n (pc := 22) X rfl dX10_goes_22 ?_
  refine s_getR (pc := 23) X shM_0 rfl fl_RX10_61 dX10_goes_23 ?_
  refine s_iload_n (pc := 26) X rfl dX10_goes_26 ?_
  refine s_iload_n (pc := 27) X rfl dX10_goes_27 ?_
  refine s_iast (pc := 28) X shM_18 dX10_goes_28 ?_
  refine s_letm (fun x_3 => ?_)
  refine s_aload_n (pc := 29) X rfl dX10_goes_29 ?_
  refine s_getR (pc := 30) X shM_0 rfl fl_RX10_64 dX10_goes_30 ?_
  refine s_iload_n (pc := 33) X rfl dX10_goes_33 ?_
  refine s_aload_n (pc := 34) X rfl dX10_goes_34 ?_
  refine s_getI (pc := 35) X shM_0 rfl fl_RX10_144 dX10_goes_35 ?_
  refine s_iload_n (pc := 38) X rfl dX10_goes_38 ?_
  refine s_iadd (pc := 39) X dX10_goes_39 ?_
  refine s_iconst (pc := 40) X ic_3 dX10_goes_40 ?_
  refine s_iadd (pc := 41) X dX10_goes_41 ?_
  refine s_iast (pc := 42) X shM_19 dX10_goes_42 ?_
  refine s_letm (fun x_4 => ?_)
  refine s_aload_n (pc := 43) X rfl dX10_goes_43 ?_
  refine s_getR (pc := 44) X shM_0 rfl fl_RX10_67 dX10_goes_44 ?_
  refine s_iload_n (pc := 47) X rfl dX10_goes_47 ?_
  refine s_dup2 (pc := 48) X rfl rfl dX10_goes_48 ?_
  refine s_iald (pc := 49) X shM_20 dX10_goes_49 ?_
  refine s_iconst (pc := 50) X ic_1 dX10_goes_50 ?_
  refine s_iadd (pc := 51) X dX10_goes_51 ?_
  refine s_iast (pc := 52) X shM_20 dX10_goes_52 ?_
  refine s_letm (fun x_5 => ?_)
  refine s_aload_n (pc := 53) X rfl dX10_goes_53 ?_
  refine s_getR (pc := 54) X shM_0 rfl fl_RX10_40 dX10_goes_54 ?_
  refine s_iload_n (pc := 57) X rfl dX10_goes_57 ?_
  refine s_iconst (pc := 58) X ic_m1 dX10_goes_58 ?_
  refine s_iast (pc := 59) X shM_11 dX10_goes_59 ?_
  refine s_letm (fun x_6 => ?_)
  refine s_aload_n (pc := 60) X rfl dX10_goes_60 ?_
  refine s_getR (pc := 61) X shM_0 rfl fl_RX10_43 dX10_goes_61 ?_
  refine s_iload_n (pc := 64) X rfl dX10_goes_64 ?_
  refine s_dup2 (pc := 65) X rfl rfl dX10_goes_65 ?_
  refine s_iald (pc := 66) X shM_12 dX10_goes_66 ?_
  refine s_iconst (pc := 67) X ic_1 dX10_goes_67 ?_
  refine s_iadd (pc := 68) X dX10_goes_68 ?_
  refine s_iast (pc := 69) X shM_12 dX10_goes_69 ?_
  refine s_letm (fun x_7 => ?_)
  refine s_aload_n (pc := 70) X rfl dX10_goes_70 ?_
  refine s_getR (pc := 71) X shM_0 rfl fl_RX10_46 dX10_goes_71 ?_
  refine s_iload_n (pc := 74) X rfl dX10_goes_74 ?_
  refine s_dup2 (pc := 75) X rfl rfl dX10_goes_75 ?_
  refine s_iald (pc := 76) X shM_13 dX10_goes_76 ?_
  refine s_iload (pc := 77) X rfl dX10_goes_77 ?_
  refine s_iadd (pc := 79) X dX10_goes_79 ?_
  refine s_iast (pc := 80) X shM_13 dX10_goes_80 ?_
  refine s_letm (fun x_8 => ?_)
  refine s_aload_n (pc := 81) X rfl dX10_goes_81 ?_
  refine s_getR (pc := 82) X shM_0 rfl fl_RX10_49 dX10_goes_82 ?_
  refine s_iload_n (pc := 85) X rfl dX10_goes_85 ?_
  refine s_iload (pc := 86) X rfl dX10_goes_86 ?_
  refine s_aload_n (pc := 88) X rfl dX10_goes_88 ?_
  refine s_getR (pc := 89) X shM_0 rfl fl_RX10_49 dX10_goes_89 ?_
  refine s_iload_n (pc := 92) X rfl dX10_goes_92 ?_
  refine s_iald (pc := 93) X shM_14 dX10_goes_93 ?_
  refine s_icmp_le (pc := 94) X 102 rfl dX10_goes_94 ?_ ?_
  · refine s_aload_n (pc := 102) X rfl dX10_goes_102 ?_
    refine s_getR (pc := 103) X shM_0 rfl fl_RX10_49 dX10_goes_103 ?_
    refine s_iload_n (pc := 106) X rfl dX10_goes_106 ?_
    refine s_iald (pc := 107) X shM_14 dX10_goes_107 ?_
    refine s_iast (pc := 108) X shM_14 dX10_goes_108 ?_
    refine s_letm (fun x_9 => ?_)
    exact s_vret (pc := 109) X dX10_goes_109
  · refine s_iload (pc := 97) X rfl dX10_goes_97 ?_
    refine s_goto (pc := 99) X 108 rfl dX10_goes_99 ?_
    refine s_iast (pc := 108) X shM_14 dX10_goes_108 ?_
    refine s_letm (fun x_10 => ?_)
    exact s_vret (pc := 109) X dX10_goes_109

-- X10_ring
def L_X10_ring_14 (fu : Nat) (l1 : Int32) : Nat → Int32 → Int32 → Mem → (Int32 → Mem → Res) → Res
  | 0, _, _, _, _ => none
  | n + 1, l2, l3, x, K => (if (8 : Int32) ≤ l3 then (K l2 x) else (clp (F_X10_rings fu l1 l3 x) (fun r_2 => (jn (fun (k_3 : Int32 → Res) => (if r_2 ≤ 0 then (k_3 0) else (k_3 ((1 : Int32) <<< (l3 &&& 31))))) (fun v_4 => (letv (l2 ||| v_4) (fun l2_5 => (jn (fun (k_6 : Int32 → Res) => (if r_2 = 2 then (k_6 8) else (if r_2 = 1 then (k_6 4) else (k_6 0)))) (fun v_7 => (chk l3 8 (if v_7 ≤ (x 21 (l3 : Int32).toNatClampNeg) then (chk l3 8 (chk l3 8 (letm (wr x 21 (l3 : Int32).toNatClampNeg (x 21 (l3 : Int32).toNatClampNeg)) (fun x_8 => (L_X10_ring_14 fu l1 n l2_5 (l3 + 1) x_8 K))))) else (chk l3 8 (letm (wr x 21 (l3 : Int32).toNatClampNeg v_7) (fun x_9 => (L_X10_ring_14 fu l1 n l2_5 (l3 + 1) x_9 K)))))))))))))))
set_option maxRecDepth 100000 in
set_option maxHeartbeats 4000000 in
theorem tL_X10_ring_14 {p : Program} {l : Launch} {e : Env} {s : State} {m : MethodId} {args : Array Value} {below : List Frame} {meth : Method} {c : Code} {D : va_G} {cy : ClassId} {ad : Nat → Nat} {A : Nat → Prop} {fu : Nat} (X : Cx p s m args meth c RX10 cX10_ring 6 (some .int) D cy ad shM A) {l1 : Int32} {K : Int32 → Mem → Res} (hK : ∀ (l2 : Int32) (x : Mem), Sim p l e ({ frames := 6, cells := 0, slots := 0, locals := 240 } : Room) s m args below meth c 6 (some .int) D cy ad shM A 101 [some (.ref (ad 0)), some (.int l1), some (.int l2), none, none, none] [] x (K l2 x)) : ∀ (n : Nat) (l2 : Int32) (l3 : Int32) (x : Mem), Sim p l e ({ frames := 6, cells := 0, slots := 0, locals := 240 } : Room) s m args below meth c 6 (some .int) D cy ad shM A 14 [some (.ref (ad 0)), some (.int l1), some (.int l2), some (.int l3), none, none] [] x (L_X10_ring_14 fu l1 n l2 l3 x K) := by
  intro n
  induction n with
  | zero =>
    intro l2 l3 x
    rw [L_X10_ring_14]
    exact s_none
  | succ n ih =>
    intro l2 l3 x
    rw [L_X10_ring_14]
    refine s_iload_n (pc := 14) X rfl dX10_ring_14 ?_
    refine s_bipush (pc := 15) X bp_8 dX10_ring_15 ?_
    refine s_icmp_ge (pc := 17) X 101 rfl dX10_ring_17 ?_ ?_
    · refine s_mask [true, true, true, false, false, false] ?_
      exact hK _ _
    · refine s_aload_n (pc := 20) X rfl dX10_ring_20 ?_
      refine s_iload_n (pc := 21) X rfl dX10_ring_21 ?_
      refine s_iload_n (pc := 22) X rfl dX10_ring_22 ?_
      refine s_callVp (pc := 23) (As := [.int l1, .int l3]) (st := []) X lk_RX10_138 (c_X10_rings l D cy ad fu _ _ _) shM_0 rfl rfl rfl rfl ⟨by decide, by decide⟩ (Nat.le_of_ble_eq_true rfl) dX10_ring_23 (fun r_2 => ?_)
      refine s_istore (pc := 26) X [some (.ref (ad 0)), some (.int l1), some (.int l2), some (.int l3), some (.int r_2), none] rfl (by decide) dX10_ring_26 ?_
      refine s_iload_n (pc := 28) X rfl dX10_ring_28 ?_
      refine s_iload (pc := 29) X rfl dX10_ring_29 ?_
      refine s_jn (fun (k_3 : Int32 → Res) => ∀ (v_4 : Int32), Sim p l e ({ frames := 6, cells := 0, slots := 0, locals := 240 } : Room) s m args below meth c 6 (some .int) D cy ad shM A 41 [some (.ref (ad 0)), some (.int l1), none, some (.int l3), some (.int r_2), none] [.int v_4, .int l2] x (k_3 v_4)) ?_ (fun k_3 hk_3 => ?_)
      · intro v_4
        refine s_ior (pc := 41) X dX10_ring_41 ?_
        refine s_letv (fun l2_5 => ?_)
        refine s_istore_n (pc := 42) X [some (.ref (ad 0)), some (.int l1), some (.int l2_5), some (.int l3), some (.int r_2), none] rfl (by decide) dX10_ring_42 ?_
        refine s_iload (pc := 43) X rfl dX10_ring_43 ?_
        refine s_iconst (pc := 45) X ic_2 dX10_ring_45 ?_
        refine s_jn (fun (k_6 : Int32 → Res) => ∀ (v_7 : Int32), Sim p l e ({ frames := 6, cells := 0, slots := 0, locals := 240 } : Room) s m args below meth c 6 (some .int) D cy ad shM A 65 [some (.ref (ad 0)), some (.int l1), some (.int l2_5), some (.int l3), none, none] [.int v_7] x (k_6 v_7)) ?_ (fun k_6 hk_6 => ?_)
        · intro v_7
          refine s_istore (pc := 65) X [some (.ref (ad 0)), some (.int l1), some (.int l2_5), some (.int l3), none, some (.int v_7)] rfl (by decide) dX10_ring_65 ?_
          refine s_aload_n (pc := 67) X rfl dX10_ring_67 ?_
          refine s_getR (pc := 68) X shM_0 rfl fl_RX10_70 dX10_ring_68 ?_
          refine s_iload_n (pc := 71) X rfl dX10_ring_71 ?_
          refine s_iload (pc := 72) X rfl dX10_ring_72 ?_
          refine s_aload_n (pc := 74) X rfl dX10_ring_74 ?_
          refine s_getR (pc := 75) X shM_0 rfl fl_RX10_70 dX10_ring_75 ?_
          refine s_iload_n (pc := 78) X rfl dX10_ring_78 ?_
          refine s_iald (pc := 79) X shM_21 dX10_ring_79 ?_
          refine s_icmp_le (pc := 80) X 88 rfl dX10_ring_80 ?_ ?_
          · refine s_aload_n (pc := 88) X rfl dX10_ring_88 ?_
            refine s_getR (pc := 89) X shM_0 rfl fl_RX10_70 dX10_ring_89 ?_
            refine s_iload_n (pc := 92) X rfl dX10_ring_92 ?_
            refine s_iald (pc := 93) X shM_21 dX10_ring_93 ?_
            refine s_iast (pc := 94) X shM_21 dX10_ring_94 ?_
            refine s_letm (fun x_8 => ?_)
            refine s_iinc (pc := 95) X [some (.ref (ad 0)), some (.int l1), some (.int l2_5), some (.int (l3 + 1)), none, some (.int v_7)] rfl (by decide) rfl ic_1 dX10_ring_95 ?_
            refine s_goto (pc := 98) X 14 rfl dX10_ring_98 ?_
            refine s_mask [true, true, true, true, false, false] ?_
            exact ih _ _ _
          · refine s_iload (pc := 83) X rfl dX10_ring_83 ?_
            refine s_goto (pc := 85) X 94 rfl dX10_ring_85 ?_
            refine s_iast (pc := 94) X shM_21 dX10_ring_94 ?_
            refine s_letm (fun x_9 => ?_)
            refine s_iinc (pc := 95) X [some (.ref (ad 0)), some (.int l1), some (.int l2_5), some (.int (l3 + 1)), none, some (.int v_7)] rfl (by decide) rfl ic_1 dX10_ring_95 ?_
            refine s_goto (pc := 98) X 14 rfl dX10_ring_98 ?_
            refine s_mask [true, true, true, true, false, false] ?_
            exact ih _ _ _
        · refine s_icmp_ne (pc := 46) X 54 rfl dX10_ring_46 ?_ ?_
          · refine s_iload (pc := 54) X rfl dX10_ring_54 ?_
            refine s_iconst (pc := 56) X ic_1 dX10_ring_56 ?_
            refine s_icmp_ne (pc := 57) X 64 rfl dX10_ring_57 ?_ ?_
            · refine s_iconst (pc := 64) X ic_0 dX10_ring_64 ?_
              refine s_mask [true, true, true, true, false, false] ?_
              exact hk_6 _
            · refine s_iconst (pc := 60) X ic_4 dX10_ring_60 ?_
              refine s_goto (pc := 61) X 65 rfl dX10_ring_61 ?_
              refine s_mask [true, true, true, true, false, false] ?_
              exact hk_6 _
          · refine s_bipush (pc := 49) X bp_8 dX10_ring_49 ?_
            refine s_goto (pc := 51) X 65 rfl dX10_ring_51 ?_
            refine s_mask [true, true, true, true, false, false] ?_
            exact hk_6 _
      · refine s_if_le (pc := 31) X 40 rfl dX10_ring_31 ?_ ?_
        · refine s_iconst (pc := 40) X ic_0 dX10_ring_40 ?_
          refine s_mask [true, true, false, true, true, false] ?_
          exact hk_3 _
        · refine s_iconst (pc := 34) X ic_1 dX10_ring_34 ?_
          refine s_iload_n (pc := 35) X rfl dX10_ring_35 ?_
          refine s_ishl (pc := 36) X dX10_ring_36 ?_
          refine s_goto (pc := 37) X 41 rfl dX10_ring_37 ?_
          refine s_mask [true, true, false, true, true, false] ?_
          exact hk_3 _

def F_X10_ring (fu : Nat) (l1 : Int32) (x : Mem) : Res :=
  (clp (F_X10_isPull fu l1 x) (fun r_1 => (if r_1 = 0 then (some ((-1), x)) else (L_X10_ring_14 fu l1 fu 0 0 x (fun l2_10 x_11 => (if l2_10 = 0 then (some (l2_10, x_11)) else (letm (wr x_11 0 14 ((x_11 0 14) ||| ((1 : Int32) <<< (l1 &&& 31)))) (fun x_12 => (chk l1 12 (if 0 ≤ ((x_12 11 (l1 : Int32).toNatClampNeg) : Int32) then (chk l1 12 (chk l1 12 (letm (wr x_12 11 (l1 : Int32).toNatClampNeg (x_12 11 (l1 : Int32).toNatClampNeg)) (fun x_13 => (some (l2_10, x_13)))))) else (clp (F_X10_isOnErrand fu l1 x_12) (fun r_14 => (if r_14 = 0 then (chk l1 12 (letm (wr x_12 11 (l1 : Int32).toNatClampNeg (x_12 0 26)) (fun x_16 => (some (l2_10, x_16))))) else (chk l1 12 (chk l1 12 (letm (wr x_12 11 (l1 : Int32).toNatClampNeg (x_12 11 (l1 : Int32).toNatClampNeg)) (fun x_15 => (some (l2_10, x_15)))))))))))))))))))
set_option maxRecDepth 100000 in
set_option maxHeartbeats 4000000 in
theorem c_X10_ring (l : Launch) (D : va_G) (cy : ClassId) (ad : Nat → Nat) (fu : Nat) (l1 : Int32) (x : Mem) : Ct l D cy ad shM yX10_ring cX10_ring 6 (some .int) 6 240 [.ref (ad 0), .int l1] x (F_X10_ring fu l1 x) := by
  refine ct_of [some (.ref (ad 0)), some (.int l1), none, none, none, none] (by decide) (Nat.le_of_ble_eq_true rfl) rfl rfl ?_
  intro p e s m args below meth c A X
  have X : Cx p s m args meth c RX10 cX10_ring 6 (some .int) D cy ad shM A := X
  unfold F_X10_ring
  refine s_aload_n (pc := 0) X rfl dX10_ring_0 ?_
  refine s_iload_n (pc := 1) X rfl dX10_ring_1 ?_
  refine s_callVp (pc := 2) (As := [.int l1]) (st := []) X lk_RX10_128 (c_X10_isPull l D cy ad fu _ _) shM_0 rfl rfl rfl rfl ⟨by decide, by decide⟩ (Nat.le_of_ble_eq_true rfl) dX10_ring_2 (fun r_1 => ?_)
  refine s_if_ne (pc := 5) X 10 rfl dX10_ring_5 ?_ ?_
  · refine s_iconst (pc := 10) X ic_0 dX10_ring_10 ?_
    refine s_istore_n (pc := 11) X [some (.ref (ad 0)), some (.int l1), some (.int 0), none, none, none] rfl (by decide) dX10_ring_11 ?_
    refine s_iconst (pc := 12) X ic_0 dX10_ring_12 ?_
    refine s_istore_n (pc := 13) X [some (.ref (ad 0)), some (.int l1), some (.int 0), some (.int 0), none, none] rfl (by decide) dX10_ring_13 ?_
    refine tL_X10_ring_14 X (fun l2_10 x_11 => ?_) fu _ _ _
    refine s_iload_n (pc := 101) X rfl dX10_ring_101 ?_
    refine s_if_eq (pc := 102) X 153 rfl dX10_ring_102 ?_ ?_
    · refine s_iload_n (pc := 153) X rfl dX10_ring_153 ?_
      exact s_iret (pc := 154) X dX10_ring_154
    · refine s_aload_n (pc := 105) X rfl dX10_ring_105 ?_
      refine s_dup (pc := 106) X rfl dX10_ring_106 ?_
      refine s_getI (pc := 107) X shM_0 rfl fl_RX10_153 dX10_ring_107 ?_
      refine s_iconst (pc := 110) X ic_1 dX10_ring_110 ?_
      refine s_iload_n (pc := 111) X rfl dX10_ring_111 ?_
      refine s_ishl (pc := 112) X dX10_ring_112 ?_
      refine s_ior (pc := 113) X dX10_ring_113 ?_
      refine s_put (pc := 114) X shM_0 rfl fp_RX10_153 dX10_ring_114 ?_
      refine s_letm (fun x_12 => ?_)
      refine s_aload_n (pc := 117) X rfl dX10_ring_117 ?_
      refine s_getR (pc := 118) X shM_0 rfl fl_RX10_40 dX10_ring_118 ?_
      refine s_iload_n (pc := 121) X rfl dX10_ring_121 ?_
      refine s_aload_n (pc := 122) X rfl dX10_ring_122 ?_
      refine s_getR (pc := 123) X shM_0 rfl fl_RX10_40 dX10_ring_123 ?_
      refine s_iload_n (pc := 126) X rfl dX10_ring_126 ?_
      refine s_iald (pc := 127) X shM_11 dX10_ring_127 ?_
      refine s_if_ge (pc := 128) X 146 rfl dX10_ring_128 ?_ ?_
      · refine s_aload_n (pc := 146) X rfl dX10_ring_146 ?_
        refine s_getR (pc := 147) X shM_0 rfl fl_RX10_40 dX10_ring_147 ?_
        refine s_iload_n (pc := 150) X rfl dX10_ring_150 ?_
        refine s_iald (pc := 151) X shM_11 dX10_ring_151 ?_
        refine s_iast (pc := 152) X shM_11 dX10_ring_152 ?_
        refine s_letm (fun x_13 => ?_)
        refine s_iload_n (pc := 153) X rfl dX10_ring_153 ?_
        exact s_iret (pc := 154) X dX10_ring_154
      · refine s_aload_n (pc := 131) X rfl dX10_ring_131 ?_
        refine s_iload_n (pc := 132) X rfl dX10_ring_132 ?_
        refine s_callVp (pc := 133) (As := [.int l1]) (st := [.int l1, .ref (ad 11)]) X lk_RX10_156 (c_X10_isOnErrand l D cy ad fu _ _) shM_0 rfl rfl rfl rfl ⟨by decide, by decide⟩ (Nat.le_of_ble_eq_true rfl) dX10_ring_133 (fun r_14 => ?_)
        refine s_if_ne (pc := 136) X 146 rfl dX10_ring_136 ?_ ?_
        · refine s_aload_n (pc := 146) X rfl dX10_ring_146 ?_
          refine s_getR (pc := 147) X shM_0 rfl fl_RX10_40 dX10_ring_147 ?_
          refine s_iload_n (pc := 150) X rfl dX10_ring_150 ?_
          refine s_iald (pc := 151) X shM_11 dX10_ring_151 ?_
          refine s_iast (pc := 152) X shM_11 dX10_ring_152 ?_
          refine s_letm (fun x_15 => ?_)
          refine s_iload_n (pc := 153) X rfl dX10_ring_153 ?_
          exact s_iret (pc := 154) X dX10_ring_154
        · refine s_aload_n (pc := 139) X rfl dX10_ring_139 ?_
          refine s_getI (pc := 140) X shM_0 rfl fl_RX10_144 dX10_ring_140 ?_
          refine s_goto (pc := 143) X 152 rfl dX10_ring_143 ?_
          refine s_iast (pc := 152) X shM_11 dX10_ring_152 ?_
          refine s_letm (fun x_16 => ?_)
          refine s_iload_n (pc := 153) X rfl dX10_ring_153 ?_
          exact s_iret (pc := 154) X dX10_ring_154
  · refine s_iconst (pc := 8) X ic_m1 dX10_ring_8 ?_
    exact s_iret (pc := 9) X dX10_ring_9

-- X10_nearest
def L_X10_nearest_4 (fu : Nat) (l1 : Int32) (x : Mem) : Nat → Int32 → Int32 → (Int32 → Option Int32) → Option Int32
  | 0, _, _, _ => none
  | n + 1, l2, l3, K => (if (x 0 19) ≤ l3 then (K l2) else (clp (F_X10_may fu l3 l1 x) (fun r_1 => (if r_1 = 0 then (L_X10_nearest_4 fu l1 x n l2 (l3 + 1) K) else (if l2 < 0 then (L_X10_nearest_4 fu l1 x n l3 (l3 + 1) K) else (clp (F_X10_wayOf fu l3 l1 x) (fun r_2 => (clp (F_X10_wayOf fu l2 l1 x) (fun r_3 => (if r_3 ≤ r_2 then (L_X10_nearest_4 fu l1 x n l2 (l3 + 1) K) else (L_X10_nearest_4 fu l1 x n l3 (l3 + 1) K)))))))))))
set_option maxRecDepth 100000 in
set_option maxHeartbeats 4000000 in
theorem tL_X10_nearest_4 {p : Program} {l : Launch} {e : Env} {s : State} {m : MethodId} {args : Array Value} {below : List Frame} {meth : Method} {c : Code} {D : va_G} {cy : ClassId} {ad : Nat → Nat} {A : Nat → Prop} {fu : Nat} (X : Cx p s m args meth c RX10 cX10_nearest 4 (some .int) D cy ad shM A) {l1 : Int32} {x : Mem} {K : Int32 → Option Int32} (hK : ∀ (l2 : Int32), Sim p l e ({ frames := 3, cells := 0, slots := 0, locals := 120 } : Room) s m args below meth c 4 (some .int) D cy ad shM A 52 [none, none, some (.int l2), none] [] x (pr (K l2) x)) : ∀ (n : Nat) (l2 : Int32) (l3 : Int32), Sim p l e ({ frames := 3, cells := 0, slots := 0, locals := 120 } : Room) s m args below meth c 4 (some .int) D cy ad shM A 4 [some (.ref (ad 0)), some (.int l1), some (.int l2), some (.int l3)] [] x (pr (L_X10_nearest_4 fu l1 x n l2 l3 K) x) := by
  intro n
  induction n with
  | zero =>
    intro l2 l3
    rw [L_X10_nearest_4]
    exact p_none
  | succ n ih =>
    intro l2 l3
    rw [L_X10_nearest_4]
    refine s_iload_n (pc := 4) X rfl dX10_nearest_4 ?_
    refine s_aload_n (pc := 5) X rfl dX10_nearest_5 ?_
    refine s_getI (pc := 6) X shM_0 rfl fl_RX10_141 dX10_nearest_6 ?_
    refine p_icmp_ge (pc := 9) X 52 rfl dX10_nearest_9 ?_ ?_
    · refine s_mask [false, false, true, false] ?_
      exact hK _
    · refine s_aload_n (pc := 12) X rfl dX10_nearest_12 ?_
      refine s_iload_n (pc := 13) X rfl dX10_nearest_13 ?_
      refine s_iload_n (pc := 14) X rfl dX10_nearest_14 ?_
      refine p_callV (pc := 15) (As := [.int l3, .int l1]) (st := []) X lk_RX10_159 (c_X10_may l D cy ad fu _ _ _) shM_0 rfl rfl rfl rfl ⟨by decide, by decide⟩ (Nat.le_of_ble_eq_true rfl) dX10_nearest_15 (fun r_1 => ?_)
      refine p_if_eq (pc := 18) X 44 rfl dX10_nearest_18 ?_ ?_
      · refine s_iload_n (pc := 44) X rfl dX10_nearest_44 ?_
        refine s_istore_n (pc := 45) X [some (.ref (ad 0)), some (.int l1), some (.int l2), some (.int l3)] rfl (by decide) dX10_nearest_45 ?_
        refine s_iinc (pc := 46) X [some (.ref (ad 0)), some (.int l1), some (.int l2), some (.int (l3 + 1))] rfl (by decide) rfl ic_1 dX10_nearest_46 ?_
        refine s_goto (pc := 49) X 4 rfl dX10_nearest_49 ?_
        exact ih _ _
      · refine s_iload_n (pc := 21) X rfl dX10_nearest_21 ?_
        refine p_if_lt (pc := 22) X 40 rfl dX10_nearest_22 ?_ ?_
        · refine s_iload_n (pc := 40) X rfl dX10_nearest_40 ?_
          refine s_goto (pc := 41) X 45 rfl dX10_nearest_41 ?_
          refine s_istore_n (pc := 45) X [some (.ref (ad 0)), some (.int l1), some (.int l3), some (.int l3)] rfl (by decide) dX10_nearest_45 ?_
          refine s_iinc (pc := 46) X [some (.ref (ad 0)), some (.int l1), some (.int l3), some (.int (l3 + 1))] rfl (by decide) rfl ic_1 dX10_nearest_46 ?_
          refine s_goto (pc := 49) X 4 rfl dX10_nearest_49 ?_
          exact ih _ _
        · refine s_aload_n (pc := 25) X rfl dX10_nearest_25 ?_
          refine s_iload_n (pc := 26) X rfl dX10_nearest_26 ?_
          refine s_iload_n (pc := 27) X rfl dX10_nearest_27 ?_
          refine p_callV (pc := 28) (As := [.int l3, .int l1]) (st := []) X lk_RX10_150 (c_X10_wayOf l D cy ad fu _ _ _) shM_0 rfl rfl rfl rfl ⟨by decide, by decide⟩ (Nat.le_of_ble_eq_true rfl) dX10_nearest_28 (fun r_2 => ?_)
          refine s_aload_n (pc := 31) X rfl dX10_nearest_31 ?_
          refine s_iload_n (pc := 32) X rfl dX10_nearest_32 ?_
          refine s_iload_n (pc := 33) X rfl dX10_nearest_33 ?_
          refine p_callV (pc := 34) (As := [.int l2, .int l1]) (st := [.int r_2]) X lk_RX10_150 (c_X10_wayOf l D cy ad fu _ _ _) shM_0 rfl rfl rfl rfl ⟨by decide, by decide⟩ (Nat.le_of_ble_eq_true rfl) dX10_nearest_34 (fun r_3 => ?_)
          refine p_icmp_ge (pc := 37) X 44 rfl dX10_nearest_37 ?_ ?_
          · refine s_iload_n (pc := 44) X rfl dX10_nearest_44 ?_
            refine s_istore_n (pc := 45) X [some (.ref (ad 0)), some (.int l1), some (.int l2), some (.int l3)] rfl (by decide) dX10_nearest_45 ?_
            refine s_iinc (pc := 46) X [some (.ref (ad 0)), some (.int l1), some (.int l2), some (.int (l3 + 1))] rfl (by decide) rfl ic_1 dX10_nearest_46 ?_
            refine s_goto (pc := 49) X 4 rfl dX10_nearest_49 ?_
            exact ih _ _
          · refine s_iload_n (pc := 40) X rfl dX10_nearest_40 ?_
            refine s_goto (pc := 41) X 45 rfl dX10_nearest_41 ?_
            refine s_istore_n (pc := 45) X [some (.ref (ad 0)), some (.int l1), some (.int l3), some (.int l3)] rfl (by decide) dX10_nearest_45 ?_
            refine s_iinc (pc := 46) X [some (.ref (ad 0)), some (.int l1), some (.int l3), some (.int (l3 + 1))] rfl (by decide) rfl ic_1 dX10_nearest_46 ?_
            refine s_goto (pc := 49) X 4 rfl dX10_nearest_49 ?_
            exact ih _ _

def F_X10_nearest (fu : Nat) (l1 : Int32) (x : Mem) : Option Int32 :=
  (L_X10_nearest_4 fu l1 x fu (-1) 0 (fun l2_4 => (some l2_4)))
set_option maxRecDepth 100000 in
set_option maxHeartbeats 4000000 in
theorem c_X10_nearest (l : Launch) (D : va_G) (cy : ClassId) (ad : Nat → Nat) (fu : Nat) (l1 : Int32) (x : Mem) : Ct l D cy ad shM yX10_nearest cX10_nearest 4 (some .int) 3 120 [.ref (ad 0), .int l1] x (pr (F_X10_nearest fu l1 x) x) := by
  refine ct_of [some (.ref (ad 0)), some (.int l1), none, none] (by decide) (Nat.le_of_ble_eq_true rfl) rfl rfl ?_
  intro p e s m args below meth c A X
  have X : Cx p s m args meth c RX10 cX10_nearest 4 (some .int) D cy ad shM A := X
  unfold F_X10_nearest
  refine s_iconst (pc := 0) X ic_m1 dX10_nearest_0 ?_
  refine s_istore_n (pc := 1) X [some (.ref (ad 0)), some (.int l1), some (.int (-1)), none] rfl (by decide) dX10_nearest_1 ?_
  refine s_iconst (pc := 2) X ic_0 dX10_nearest_2 ?_
  refine s_istore_n (pc := 3) X [some (.ref (ad 0)), some (.int l1), some (.int (-1)), some (.int 0)] rfl (by decide) dX10_nearest_3 ?_
  refine tL_X10_nearest_4 X (fun l2_4 => ?_) fu _ _
  refine s_iload_n (pc := 52) X rfl dX10_nearest_52 ?_
  exact p_iret (pc := 53) X dX10_nearest_53

-- X10_isAhead
def F_X10_isAhead (fu : Nat) (l1 : Int32) (l2 : Int32) (x : Mem) : Option Int32 :=
  (chk l1 12 (chk l2 12 (if (x 6 (l1 : Int32).toNatClampNeg) = (x 6 (l2 : Int32).toNatClampNeg) then (chk l1 12 (chk l2 12 (if (x 11 (l2 : Int32).toNatClampNeg) ≤ (x 11 (l1 : Int32).toNatClampNeg) then (retzp 0) else (retzp 1)))) else (chk l1 12 (chk l2 12 (if (x 6 (l1 : Int32).toNatClampNeg) ≤ (x 6 (l2 : Int32).toNatClampNeg) then (retzp 0) else (retzp 1)))))))
set_option maxRecDepth 100000 in
set_option maxHeartbeats 4000000 in
theorem c_X10_isAhead (l : Launch) (D : va_G) (cy : ClassId) (ad : Nat → Nat) (fu : Nat) (l1 : Int32) (l2 : Int32) (x : Mem) : Ct l D cy ad shM yX10_isAhead cX10_isAhead 3 (some .boolean) 1 40 [.ref (ad 0), .int l1, .int l2] x (pr (F_X10_isAhead fu l1 l2 x) x) := by
  refine ct_of [some (.ref (ad 0)), some (.int l1), some (.int l2)] (by decide) (Nat.le_of_ble_eq_true rfl) rfl rfl ?_
  intro p e s m args below meth c A X
  have X : Cx p s m args meth c RX10 cX10_isAhead 3 (some .boolean) D cy ad shM A := X
  unfold F_X10_isAhead
  refine s_aload_n (pc := 0) X rfl dX10_isAhead_0 ?_
  refine s_getR (pc := 1) X shM_0 rfl fl_RX10_25 dX10_isAhead_1 ?_
  refine s_iload_n (pc := 4) X rfl dX10_isAhead_4 ?_
  refine p_iald (pc := 5) X shM_6 dX10_isAhead_5 ?_
  refine s_aload_n (pc := 6) X rfl dX10_isAhead_6 ?_
  refine s_getR (pc := 7) X shM_0 rfl fl_RX10_25 dX10_isAhead_7 ?_
  refine s_iload_n (pc := 10) X rfl dX10_isAhead_10 ?_
  refine p_iald (pc := 11) X shM_6 dX10_isAhead_11 ?_
  refine p_icmp_eq (pc := 12) X 38 rfl dX10_isAhead_12 ?_ ?_
  · refine s_aload_n (pc := 38) X rfl dX10_isAhead_38 ?_
    refine s_getR (pc := 39) X shM_0 rfl fl_RX10_40 dX10_isAhead_39 ?_
    refine s_iload_n (pc := 42) X rfl dX10_isAhead_42 ?_
    refine p_iald (pc := 43) X shM_11 dX10_isAhead_43 ?_
    refine s_aload_n (pc := 44) X rfl dX10_isAhead_44 ?_
    refine s_getR (pc := 45) X shM_0 rfl fl_RX10_40 dX10_isAhead_45 ?_
    refine s_iload_n (pc := 48) X rfl dX10_isAhead_48 ?_
    refine p_iald (pc := 49) X shM_11 dX10_isAhead_49 ?_
    refine p_icmp_ge (pc := 50) X 57 rfl dX10_isAhead_50 ?_ ?_
    · refine s_iconst (pc := 57) X ic_0 dX10_isAhead_57 ?_
      exact p_zret (pc := 58) X dX10_isAhead_58
    · refine s_iconst (pc := 53) X ic_1 dX10_isAhead_53 ?_
      refine s_goto (pc := 54) X 58 rfl dX10_isAhead_54 ?_
      exact p_zret (pc := 58) X dX10_isAhead_58
  · refine s_aload_n (pc := 15) X rfl dX10_isAhead_15 ?_
    refine s_getR (pc := 16) X shM_0 rfl fl_RX10_25 dX10_isAhead_16 ?_
    refine s_iload_n (pc := 19) X rfl dX10_isAhead_19 ?_
    refine p_iald (pc := 20) X shM_6 dX10_isAhead_20 ?_
    refine s_aload_n (pc := 21) X rfl dX10_isAhead_21 ?_
    refine s_getR (pc := 22) X shM_0 rfl fl_RX10_25 dX10_isAhead_22 ?_
    refine s_iload_n (pc := 25) X rfl dX10_isAhead_25 ?_
    refine p_iald (pc := 26) X shM_6 dX10_isAhead_26 ?_
    refine p_icmp_le (pc := 27) X 34 rfl dX10_isAhead_27 ?_ ?_
    · refine s_iconst (pc := 34) X ic_0 dX10_isAhead_34 ?_
      refine s_goto (pc := 35) X 58 rfl dX10_isAhead_35 ?_
      exact p_zret (pc := 58) X dX10_isAhead_58
    · refine s_iconst (pc := 30) X ic_1 dX10_isAhead_30 ?_
      refine s_goto (pc := 31) X 58 rfl dX10_isAhead_31 ?_
      exact p_zret (pc := 58) X dX10_isAhead_58

-- X10_passes
def L_X10_passes_10 (fu : Nat) (x : Mem) : Nat → Int32 → Int32 → (Int32 → Res) → Res
  | 0, _, _, _ => none
  | n + 1, l2, l3, K => (if (x 0 4) ≤ l3 then (K l2) else (chk l3 12 (if (x 11 (l3 : Int32).toNatClampNeg) < 0 then (L_X10_passes_10 fu x n l2 (l3 + 1) K) else (clp (F_X10_nearest fu l3 x) (fun r_1 => (if r_1 < 0 then (L_X10_passes_10 fu x n l2 (l3 + 1) K) else (if l2 < 0 then (L_X10_passes_10 fu x n l3 (l3 + 1) K) else (clp (F_X10_isAhead fu l3 l2 x) (fun r_2 => (if r_2 = 0 then (L_X10_passes_10 fu x n l2 (l3 + 1) K) else (L_X10_passes_10 fu x n l3 (l3 + 1) K)))))))))))
set_option maxRecDepth 100000 in
set_option maxHeartbeats 4000000 in
theorem tL_X10_passes_10 {p : Program} {l : Launch} {e : Env} {s : State} {m : MethodId} {args : Array Value} {below : List Frame} {meth : Method} {c : Code} {D : va_G} {cy : ClassId} {ad : Nat → Nat} {A : Nat → Prop} {fu : Nat} (X : Cx p s m args meth c RX10 cX10_passes 4 none D cy ad shM A) {x : Mem} {K : Int32 → Res} (hK : ∀ (l2 : Int32), Sim p l e ({ frames := 4, cells := 0, slots := 0, locals := 160 } : Room) s m args below meth c 4 none D cy ad shM A 60 [some (.ref (ad 0)), none, some (.int l2), none] [] x (K l2)) : ∀ (n : Nat) (l2 : Int32) (l3 : Int32), Sim p l e ({ frames := 4, cells := 0, slots := 0, locals := 160 } : Room) s m args below meth c 4 none D cy ad shM A 10 [some (.ref (ad 0)), none, some (.int l2), some (.int l3)] [] x (L_X10_passes_10 fu x n l2 l3 K) := by
  intro n
  induction n with
  | zero =>
    intro l2 l3
    rw [L_X10_passes_10]
    exact s_none
  | succ n ih =>
    intro l2 l3
    rw [L_X10_passes_10]
    refine s_iload_n (pc := 10) X rfl dX10_passes_10 ?_
    refine s_aload_n (pc := 11) X rfl dX10_passes_11 ?_
    refine s_getI (pc := 12) X shM_0 rfl fl_RX10_91 dX10_passes_12 ?_
    refine s_icmp_ge (pc := 15) X 60 rfl dX10_passes_15 ?_ ?_
    · refine s_mask [true, false, true, false] ?_
      exact hK _
    · refine s_aload_n (pc := 18) X rfl dX10_passes_18 ?_
      refine s_getR (pc := 19) X shM_0 rfl fl_RX10_40 dX10_passes_19 ?_
      refine s_iload_n (pc := 22) X rfl dX10_passes_22 ?_
      refine s_iald (pc := 23) X shM_11 dX10_passes_23 ?_
      refine s_if_lt (pc := 24) X 52 rfl dX10_passes_24 ?_ ?_
      · refine s_iload_n (pc := 52) X rfl dX10_passes_52 ?_
        refine s_istore_n (pc := 53) X [some (.ref (ad 0)), none, some (.int l2), some (.int l3)] rfl (by decide) dX10_passes_53 ?_
        refine s_iinc (pc := 54) X [some (.ref (ad 0)), none, some (.int l2), some (.int (l3 + 1))] rfl (by decide) rfl ic_1 dX10_passes_54 ?_
        refine s_goto (pc := 57) X 10 rfl dX10_passes_57 ?_
        exact ih _ _
      · refine s_aload_n (pc := 27) X rfl dX10_passes_27 ?_
        refine s_iload_n (pc := 28) X rfl dX10_passes_28 ?_
        refine s_callVp (pc := 29) (As := [.int l3]) (st := []) X lk_RX10_162 (c_X10_nearest l D cy ad fu _ _) shM_0 rfl rfl rfl rfl ⟨by decide, by decide⟩ (Nat.le_of_ble_eq_true rfl) dX10_passes_29 (fun r_1 => ?_)
        refine s_if_lt (pc := 32) X 52 rfl dX10_passes_32 ?_ ?_
        · refine s_iload_n (pc := 52) X rfl dX10_passes_52 ?_
          refine s_istore_n (pc := 53) X [some (.ref (ad 0)), none, some (.int l2), some (.int l3)] rfl (by decide) dX10_passes_53 ?_
          refine s_iinc (pc := 54) X [some (.ref (ad 0)), none, some (.int l2), some (.int (l3 + 1))] rfl (by decide) rfl ic_1 dX10_passes_54 ?_
          refine s_goto (pc := 57) X 10 rfl dX10_passes_57 ?_
          exact ih _ _
        · refine s_iload_n (pc := 35) X rfl dX10_passes_35 ?_
          refine s_if_lt (pc := 36) X 48 rfl dX10_passes_36 ?_ ?_
          · refine s_iload_n (pc := 48) X rfl dX10_passes_48 ?_
            refine s_goto (pc := 49) X 53 rfl dX10_passes_49 ?_
            refine s_istore_n (pc := 53) X [some (.ref (ad 0)), none, some (.int l3), some (.int l3)] rfl (by decide) dX10_passes_53 ?_
            refine s_iinc (pc := 54) X [some (.ref (ad 0)), none, some (.int l3), some (.int (l3 + 1))] rfl (by decide) rfl ic_1 dX10_passes_54 ?_
            refine s_goto (pc := 57) X 10 rfl dX10_passes_57 ?_
            exact ih _ _
          · refine s_aload_n (pc := 39) X rfl dX10_passes_39 ?_
            refine s_iload_n (pc := 40) X rfl dX10_passes_40 ?_
            refine s_iload_n (pc := 41) X rfl dX10_passes_41 ?_
            refine s_callVp (pc := 42) (As := [.int l3, .int l2]) (st := []) X lk_RX10_165 (c_X10_isAhead l D cy ad fu _ _ _) shM_0 rfl rfl rfl rfl ⟨by decide, by decide⟩ (Nat.le_of_ble_eq_true rfl) dX10_passes_42 (fun r_2 => ?_)
            refine s_if_eq (pc := 45) X 52 rfl dX10_passes_45 ?_ ?_
            · refine s_iload_n (pc := 52) X rfl dX10_passes_52 ?_
              refine s_istore_n (pc := 53) X [some (.ref (ad 0)), none, some (.int l2), some (.int l3)] rfl (by decide) dX10_passes_53 ?_
              refine s_iinc (pc := 54) X [some (.ref (ad 0)), none, some (.int l2), some (.int (l3 + 1))] rfl (by decide) rfl ic_1 dX10_passes_54 ?_
              refine s_goto (pc := 57) X 10 rfl dX10_passes_57 ?_
              exact ih _ _
            · refine s_iload_n (pc := 48) X rfl dX10_passes_48 ?_
              refine s_goto (pc := 49) X 53 rfl dX10_passes_49 ?_
              refine s_istore_n (pc := 53) X [some (.ref (ad 0)), none, some (.int l3), some (.int l3)] rfl (by decide) dX10_passes_53 ?_
              refine s_iinc (pc := 54) X [some (.ref (ad 0)), none, some (.int l3), some (.int (l3 + 1))] rfl (by decide) rfl ic_1 dX10_passes_54 ?_
              refine s_goto (pc := 57) X 10 rfl dX10_passes_57 ?_
              exact ih _ _

def L_X10_passes_2 (fu : Nat) : Nat → Int32 → Mem → (Mem → Res) → Res
  | 0, _, _, _ => none
  | n + 1, l1, x, K => (if l1 = 0 then (K x) else (L_X10_passes_10 fu x fu (-1) 0 (fun l2_3 => (jn (fun (k_4 : Int32 → Res) => (if l2_3 < 0 then (k_4 0) else (k_4 1))) (fun v_5 => (if v_5 = 0 then (L_X10_passes_2 fu n v_5 x K) else (clp (F_X10_nearest fu l2_3 x) (fun r_6 => (cl (F_X10_goes fu r_6 l2_3 x) (fun _ x_7 => (L_X10_passes_2 fu n v_5 x_7 K)))))))))))
set_option maxRecDepth 100000 in
set_option maxHeartbeats 4000000 in
theorem tL_X10_passes_2 {p : Program} {l : Launch} {e : Env} {s : State} {m : MethodId} {args : Array Value} {below : List Frame} {meth : Method} {c : Code} {D : va_G} {cy : ClassId} {ad : Nat → Nat} {A : Nat → Prop} {fu : Nat} (X : Cx p s m args meth c RX10 cX10_passes 4 none D cy ad shM A) {K : Mem → Res} (hK : ∀ (x : Mem), Sim p l e ({ frames := 4, cells := 0, slots := 0, locals := 160 } : Room) s m args below meth c 4 none D cy ad shM A 87 [some (.ref (ad 0)), none, none, none] [] x (K x)) : ∀ (n : Nat) (l1 : Int32) (x : Mem), Sim p l e ({ frames := 4, cells := 0, slots := 0, locals := 160 } : Room) s m args below meth c 4 none D cy ad shM A 2 [some (.ref (ad 0)), some (.int l1), none, none] [] x (L_X10_passes_2 fu n l1 x K) := by
  intro n
  induction n with
  | zero =>
    intro l1 x
    rw [L_X10_passes_2]
    exact s_none
  | succ n ih =>
    intro l1 x
    rw [L_X10_passes_2]
    refine s_iload_n (pc := 2) X rfl dX10_passes_2 ?_
    refine s_if_eq (pc := 3) X 87 rfl dX10_passes_3 ?_ ?_
    · refine s_mask [true, false, false, false] ?_
      exact hK _
    · refine s_iconst (pc := 6) X ic_m1 dX10_passes_6 ?_
      refine s_istore_n (pc := 7) X [some (.ref (ad 0)), some (.int l1), some (.int (-1)), none] rfl (by decide) dX10_passes_7 ?_
      refine s_iconst (pc := 8) X ic_0 dX10_passes_8 ?_
      refine s_istore_n (pc := 9) X [some (.ref (ad 0)), some (.int l1), some (.int (-1)), some (.int 0)] rfl (by decide) dX10_passes_9 ?_
      refine s_mask [true, false, true, true] ?_
      refine tL_X10_passes_10 X (fun l2_3 => ?_) fu _ _
      refine s_iload_n (pc := 60) X rfl dX10_passes_60 ?_
      refine s_jn (fun (k_4 : Int32 → Res) => ∀ (v_5 : Int32), Sim p l e ({ frames := 4, cells := 0, slots := 0, locals := 160 } : Room) s m args below meth c 4 none D cy ad shM A 69 [some (.ref (ad 0)), none, some (.int l2_3), none] [.int v_5] x (k_4 v_5)) ?_ (fun k_4 hk_4 => ?_)
      · intro v_5
        refine s_istore_n (pc := 69) X [some (.ref (ad 0)), some (.int v_5), some (.int l2_3), none] rfl (by decide) dX10_passes_69 ?_
        refine s_iload_n (pc := 70) X rfl dX10_passes_70 ?_
        refine s_if_eq (pc := 71) X 84 rfl dX10_passes_71 ?_ ?_
        · refine s_goto (pc := 84) X 2 rfl dX10_passes_84 ?_
          refine s_mask [true, true, false, false] ?_
          exact ih _ _
        · refine s_aload_n (pc := 74) X rfl dX10_passes_74 ?_
          refine s_aload_n (pc := 75) X rfl dX10_passes_75 ?_
          refine s_iload_n (pc := 76) X rfl dX10_passes_76 ?_
          refine s_callVp (pc := 77) (As := [.int l2_3]) (st := [.ref (ad 0)]) X lk_RX10_162 (c_X10_nearest l D cy ad fu _ _) shM_0 rfl rfl rfl rfl ⟨by decide, by decide⟩ (Nat.le_of_ble_eq_true rfl) dX10_passes_77 (fun r_6 => ?_)
          refine s_iload_n (pc := 80) X rfl dX10_passes_80 ?_
          refine s_callV0 (pc := 81) (As := [.int r_6, .int l2_3]) (st := []) X lk_RX10_168 (c_X10_goes l D cy ad fu _ _ _) shM_0 rfl rfl rfl rfl ⟨by decide, by decide⟩ (Nat.le_of_ble_eq_true rfl) dX10_passes_81 (fun _ x_7 => ?_)
          refine s_goto (pc := 84) X 2 rfl dX10_passes_84 ?_
          refine s_mask [true, true, false, false] ?_
          exact ih _ _
      · refine s_if_lt (pc := 61) X 68 rfl dX10_passes_61 ?_ ?_
        · refine s_iconst (pc := 68) X ic_0 dX10_passes_68 ?_
          exact hk_4 _
        · refine s_iconst (pc := 64) X ic_1 dX10_passes_64 ?_
          refine s_goto (pc := 65) X 69 rfl dX10_passes_65 ?_
          exact hk_4 _

def L_X10_passes_89 (fu : Nat) : Nat → Int32 → Mem → (Mem → Res) → Res
  | 0, _, _, _ => none
  | n + 1, l2, x, K => (if (8 : Int32) ≤ l2 then (K x) else (chk l2 8 (chk l2 8 (jn (fun (k_9 : Int32 → Res) => (if (x 21 (l2 : Int32).toNatClampNeg) ≤ 0 then (k_9 0) else (k_9 1))) (fun v_10 => (chk l2 8 (letm (wr x 21 (l2 : Int32).toNatClampNeg ((x 21 (l2 : Int32).toNatClampNeg) - v_10)) (fun x_11 => (L_X10_passes_89 fu n (l2 + 1) x_11 K)))))))))
set_option maxRecDepth 100000 in
set_option maxHeartbeats 4000000 in
theorem tL_X10_passes_89 {p : Program} {l : Launch} {e : Env} {s : State} {m : MethodId} {args : Array Value} {below : List Frame} {meth : Method} {c : Code} {D : va_G} {cy : ClassId} {ad : Nat → Nat} {A : Nat → Prop} {fu : Nat} (X : Cx p s m args meth c RX10 cX10_passes 4 none D cy ad shM A) {K : Mem → Res} (hK : ∀ (x : Mem), Sim p l e ({ frames := 4, cells := 0, slots := 0, locals := 160 } : Room) s m args below meth c 4 none D cy ad shM A 124 [some (.ref (ad 0)), none, none, none] [] x (K x)) : ∀ (n : Nat) (l2 : Int32) (x : Mem), Sim p l e ({ frames := 4, cells := 0, slots := 0, locals := 160 } : Room) s m args below meth c 4 none D cy ad shM A 89 [some (.ref (ad 0)), none, some (.int l2), none] [] x (L_X10_passes_89 fu n l2 x K) := by
  intro n
  induction n with
  | zero =>
    intro l2 x
    rw [L_X10_passes_89]
    exact s_none
  | succ n ih =>
    intro l2 x
    rw [L_X10_passes_89]
    refine s_iload_n (pc := 89) X rfl dX10_passes_89 ?_
    refine s_bipush (pc := 90) X bp_8 dX10_passes_90 ?_
    refine s_icmp_ge (pc := 92) X 124 rfl dX10_passes_92 ?_ ?_
    · refine s_mask [true, false, false, false] ?_
      exact hK _
    · refine s_aload_n (pc := 95) X rfl dX10_passes_95 ?_
      refine s_getR (pc := 96) X shM_0 rfl fl_RX10_70 dX10_passes_96 ?_
      refine s_iload_n (pc := 99) X rfl dX10_passes_99 ?_
      refine s_dup2 (pc := 100) X rfl rfl dX10_passes_100 ?_
      refine s_iald (pc := 101) X shM_21 dX10_passes_101 ?_
      refine s_aload_n (pc := 102) X rfl dX10_passes_102 ?_
      refine s_getR (pc := 103) X shM_0 rfl fl_RX10_70 dX10_passes_103 ?_
      refine s_iload_n (pc := 106) X rfl dX10_passes_106 ?_
      refine s_iald (pc := 107) X shM_21 dX10_passes_107 ?_
      refine s_jn (fun (k_9 : Int32 → Res) => ∀ (v_10 : Int32), Sim p l e ({ frames := 4, cells := 0, slots := 0, locals := 160 } : Room) s m args below meth c 4 none D cy ad shM A 116 [some (.ref (ad 0)), none, some (.int l2), none] [.int v_10, .int (x 21 (l2 : Int32).toNatClampNeg), .int l2, .ref (ad 21)] x (k_9 v_10)) ?_ (fun k_9 hk_9 => ?_)
      · intro v_10
        refine s_isub (pc := 116) X dX10_passes_116 ?_
        refine s_iast (pc := 117) X shM_21 dX10_passes_117 ?_
        refine s_letm (fun x_11 => ?_)
        refine s_iinc (pc := 118) X [some (.ref (ad 0)), none, some (.int (l2 + 1)), none] rfl (by decide) rfl ic_1 dX10_passes_118 ?_
        refine s_goto (pc := 121) X 89 rfl dX10_passes_121 ?_
        exact ih _ _
      · refine s_if_le (pc := 108) X 115 rfl dX10_passes_108 ?_ ?_
        · refine s_iconst (pc := 115) X ic_0 dX10_passes_115 ?_
          exact hk_9 _
        · refine s_iconst (pc := 111) X ic_1 dX10_passes_111 ?_
          refine s_goto (pc := 112) X 116 rfl dX10_passes_112 ?_
          exact hk_9 _

def F_X10_passes (fu : Nat) (x : Mem) : Res :=
  (L_X10_passes_2 fu fu 1 x (fun x_8 => (L_X10_passes_89 fu fu 0 x_8 (fun x_12 => (letm (wr x_12 0 26 ((x_12 0 26) + 1)) (fun x_13 => (cl (F_X10_frees fu x_13) (fun _ x_14 => (some (0, x_14))))))))))
set_option maxRecDepth 100000 in
set_option maxHeartbeats 4000000 in
theorem c_X10_passes (l : Launch) (D : va_G) (cy : ClassId) (ad : Nat → Nat) (fu : Nat) (x : Mem) : Ct l D cy ad shM yX10_passes cX10_passes 4 none 4 160 [.ref (ad 0)] x (F_X10_passes fu x) := by
  refine ct_of [some (.ref (ad 0)), none, none, none] (by decide) (Nat.le_of_ble_eq_true rfl) rfl rfl ?_
  intro p e s m args below meth c A X
  have X : Cx p s m args meth c RX10 cX10_passes 4 none D cy ad shM A := X
  unfold F_X10_passes
  refine s_iconst (pc := 0) X ic_1 dX10_passes_0 ?_
  refine s_istore_n (pc := 1) X [some (.ref (ad 0)), some (.int 1), none, none] rfl (by decide) dX10_passes_1 ?_
  refine tL_X10_passes_2 X (fun x_8 => ?_) fu _ _
  refine s_iconst (pc := 87) X ic_0 dX10_passes_87 ?_
  refine s_istore_n (pc := 88) X [some (.ref (ad 0)), none, some (.int 0), none] rfl (by decide) dX10_passes_88 ?_
  refine tL_X10_passes_89 X (fun x_12 => ?_) fu _ _
  refine s_aload_n (pc := 124) X rfl dX10_passes_124 ?_
  refine s_dup (pc := 125) X rfl dX10_passes_125 ?_
  refine s_getI (pc := 126) X shM_0 rfl fl_RX10_144 dX10_passes_126 ?_
  refine s_iconst (pc := 129) X ic_1 dX10_passes_129 ?_
  refine s_iadd (pc := 130) X dX10_passes_130 ?_
  refine s_put (pc := 131) X shM_0 rfl fp_RX10_144 dX10_passes_131 ?_
  refine s_letm (fun x_13 => ?_)
  refine s_aload_n (pc := 134) X rfl dX10_passes_134 ?_
  refine s_callV0 (pc := 135) (As := []) (st := []) X lk_RX10_172 (c_X10_frees l D cy ad fu _) shM_0 rfl rfl rfl rfl ⟨by decide, by decide⟩ (Nat.le_of_ble_eq_true rfl) dX10_passes_135 (fun _ x_14 => ?_)
  exact s_vret (pc := 138) X dX10_passes_138

-- X10_ticks
def L_X10_ticks_30 (fu : Nat) (l1 : Int32) : Nat → Int32 → Mem → (Mem → Res) → Res
  | 0, _, _, _ => none
  | n + 1, l2, x, K => (if l1 ≤ l2 then (K x) else (cl (F_X10_passes fu x) (fun _ x_2 => (L_X10_ticks_30 fu l1 n (l2 + 1) x_2 K))))
set_option maxRecDepth 100000 in
set_option maxHeartbeats 4000000 in
theorem tL_X10_ticks_30 {p : Program} {l : Launch} {e : Env} {s : State} {m : MethodId} {args : Array Value} {below : List Frame} {meth : Method} {c : Code} {D : va_G} {cy : ClassId} {ad : Nat → Nat} {A : Nat → Prop} {fu : Nat} (X : Cx p s m args meth c RX10 cX10_ticks 3 (some .int) D cy ad shM A) {l1 : Int32} {K : Mem → Res} (hK : ∀ (x : Mem), Sim p l e ({ frames := 5, cells := 0, slots := 0, locals := 200 } : Room) s m args below meth c 3 (some .int) D cy ad shM A 45 [some (.ref (ad 0)), none, none] [] x (K x)) : ∀ (n : Nat) (l2 : Int32) (x : Mem), Sim p l e ({ frames := 5, cells := 0, slots := 0, locals := 200 } : Room) s m args below meth c 3 (some .int) D cy ad shM A 30 [some (.ref (ad 0)), some (.int l1), some (.int l2)] [] x (L_X10_ticks_30 fu l1 n l2 x K) := by
  intro n
  induction n with
  | zero =>
    intro l2 x
    rw [L_X10_ticks_30]
    exact s_none
  | succ n ih =>
    intro l2 x
    rw [L_X10_ticks_30]
    refine s_iload_n (pc := 30) X rfl dX10_ticks_30 ?_
    refine s_iload_n (pc := 31) X rfl dX10_ticks_31 ?_
    refine s_icmp_ge (pc := 32) X 45 rfl dX10_ticks_32 ?_ ?_
    · refine s_mask [true, false, false] ?_
      exact hK _
    · refine s_aload_n (pc := 35) X rfl dX10_ticks_35 ?_
      refine s_callV0 (pc := 36) (As := []) (st := []) X lk_RX10_175 (c_X10_passes l D cy ad fu _) shM_0 rfl rfl rfl rfl ⟨by decide, by decide⟩ (Nat.le_of_ble_eq_true rfl) dX10_ticks_36 (fun _ x_2 => ?_)
      refine s_iinc (pc := 39) X [some (.ref (ad 0)), some (.int l1), some (.int (l2 + 1))] rfl (by decide) rfl ic_1 dX10_ticks_39 ?_
      refine s_goto (pc := 42) X 30 rfl dX10_ticks_42 ?_
      exact ih _ _

def F_X10_ticks (fu : Nat) (l1 : Int32) (x : Mem) : Res :=
  (clp (F_X10_in fu l1 1 200 x) (fun r_1 => (if r_1 = 0 then (some ((-1), x)) else (if ((x 0 26) + l1) ≤ 5000 then (L_X10_ticks_30 fu l1 fu 0 x (fun x_3 => (some ((x_3 0 26), x_3)))) else (some ((-3), x))))))
set_option maxRecDepth 100000 in
set_option maxHeartbeats 4000000 in
theorem c_X10_ticks (l : Launch) (D : va_G) (cy : ClassId) (ad : Nat → Nat) (fu : Nat) (l1 : Int32) (x : Mem) : Ct l D cy ad shM yX10_ticks cX10_ticks 3 (some .int) 5 200 [.ref (ad 0), .int l1] x (F_X10_ticks fu l1 x) := by
  refine ct_of [some (.ref (ad 0)), some (.int l1), none] (by decide) (Nat.le_of_ble_eq_true rfl) rfl rfl ?_
  intro p e s m args below meth c A X
  have X : Cx p s m args meth c RX10 cX10_ticks 3 (some .int) D cy ad shM A := X
  unfold F_X10_ticks
  refine s_iload_n (pc := 0) X rfl dX10_ticks_0 ?_
  refine s_iconst (pc := 1) X ic_1 dX10_ticks_1 ?_
  refine s_sipush (pc := 2) X sp_200 dX10_ticks_2 ?_
  refine s_callSp (pc := 5) (As := [.int l1, .int 1, .int 200]) (st := []) X lk_RX10_95 (c_X10_in l D cy ad fu _ _ _ _) rfl rfl ⟨by decide, by decide⟩ (Nat.le_of_ble_eq_true rfl) dX10_ticks_5 (fun r_1 => ?_)
  refine s_if_ne (pc := 8) X 13 rfl dX10_ticks_8 ?_ ?_
  · refine s_aload_n (pc := 13) X rfl dX10_ticks_13 ?_
    refine s_getI (pc := 14) X shM_0 rfl fl_RX10_144 dX10_ticks_14 ?_
    refine s_iload_n (pc := 17) X rfl dX10_ticks_17 ?_
    refine s_iadd (pc := 18) X dX10_ticks_18 ?_
    refine s_sipush (pc := 19) X sp_5000 dX10_ticks_19 ?_
    refine s_icmp_le (pc := 22) X 28 rfl dX10_ticks_22 ?_ ?_
    · refine s_iconst (pc := 28) X ic_0 dX10_ticks_28 ?_
      refine s_istore_n (pc := 29) X [some (.ref (ad 0)), some (.int l1), some (.int 0)] rfl (by decide) dX10_ticks_29 ?_
      refine tL_X10_ticks_30 X (fun x_3 => ?_) fu _ _
      refine s_aload_n (pc := 45) X rfl dX10_ticks_45 ?_
      refine s_getI (pc := 46) X shM_0 rfl fl_RX10_144 dX10_ticks_46 ?_
      exact s_iret (pc := 49) X dX10_ticks_49
    · refine s_bipush (pc := 25) X bp_m3 dX10_ticks_25 ?_
      exact s_iret (pc := 27) X dX10_ticks_27
  · refine s_iconst (pc := 11) X ic_m1 dX10_ticks_11 ?_
    exact s_iret (pc := 12) X dX10_ticks_12

-- X10_takeBack
def F_X10_takeBack (fu : Nat) (l1 : Int32) (x : Mem) : Res :=
  (clp (F_X10_isPull fu l1 x) (fun r_1 => (if r_1 = 0 then (some ((-1), x)) else (chk l1 12 (if 0 ≤ ((x 11 (l1 : Int32).toNatClampNeg) : Int32) then (chk l1 12 (letv ((x 0 26) - (x 11 (l1 : Int32).toNatClampNeg)) (fun l2_2 => (chk l1 12 (letm (wr x 11 (l1 : Int32).toNatClampNeg (-1)) (fun x_3 => (letm (wr x_3 0 18 ((x_3 0 18) + 1)) (fun x_4 => (some (l2_2, x_4)))))))))) else (some ((-2), x)))))))
set_option maxRecDepth 100000 in
set_option maxHeartbeats 4000000 in
theorem c_X10_takeBack (l : Launch) (D : va_G) (cy : ClassId) (ad : Nat → Nat) (fu : Nat) (l1 : Int32) (x : Mem) : Ct l D cy ad shM yX10_takeBack cX10_takeBack 3 (some .int) 3 120 [.ref (ad 0), .int l1] x (F_X10_takeBack fu l1 x) := by
  refine ct_of [some (.ref (ad 0)), some (.int l1), none] (by decide) (Nat.le_of_ble_eq_true rfl) rfl rfl ?_
  intro p e s m args below meth c A X
  have X : Cx p s m args meth c RX10 cX10_takeBack 3 (some .int) D cy ad shM A := X
  unfold F_X10_takeBack
  refine s_aload_n (pc := 0) X rfl dX10_takeBack_0 ?_
  refine s_iload_n (pc := 1) X rfl dX10_takeBack_1 ?_
  refine s_callVp (pc := 2) (As := [.int l1]) (st := []) X lk_RX10_128 (c_X10_isPull l D cy ad fu _ _) shM_0 rfl rfl rfl rfl ⟨by decide, by decide⟩ (Nat.le_of_ble_eq_true rfl) dX10_takeBack_2 (fun r_1 => ?_)
  refine s_if_ne (pc := 5) X 10 rfl dX10_takeBack_5 ?_ ?_
  · refine s_aload_n (pc := 10) X rfl dX10_takeBack_10 ?_
    refine s_getR (pc := 11) X shM_0 rfl fl_RX10_40 dX10_takeBack_11 ?_
    refine s_iload_n (pc := 14) X rfl dX10_takeBack_14 ?_
    refine s_iald (pc := 15) X shM_11 dX10_takeBack_15 ?_
    refine s_if_ge (pc := 16) X 22 rfl dX10_takeBack_16 ?_ ?_
    · refine s_aload_n (pc := 22) X rfl dX10_takeBack_22 ?_
      refine s_getI (pc := 23) X shM_0 rfl fl_RX10_144 dX10_takeBack_23 ?_
      refine s_aload_n (pc := 26) X rfl dX10_takeBack_26 ?_
      refine s_getR (pc := 27) X shM_0 rfl fl_RX10_40 dX10_takeBack_27 ?_
      refine s_iload_n (pc := 30) X rfl dX10_takeBack_30 ?_
      refine s_iald (pc := 31) X shM_11 dX10_takeBack_31 ?_
      refine s_isub (pc := 32) X dX10_takeBack_32 ?_
      refine s_letv (fun l2_2 => ?_)
      refine s_istore_n (pc := 33) X [some (.ref (ad 0)), some (.int l1), some (.int l2_2)] rfl (by decide) dX10_takeBack_33 ?_
      refine s_aload_n (pc := 34) X rfl dX10_takeBack_34 ?_
      refine s_getR (pc := 35) X shM_0 rfl fl_RX10_40 dX10_takeBack_35 ?_
      refine s_iload_n (pc := 38) X rfl dX10_takeBack_38 ?_
      refine s_iconst (pc := 39) X ic_m1 dX10_takeBack_39 ?_
      refine s_iast (pc := 40) X shM_11 dX10_takeBack_40 ?_
      refine s_letm (fun x_3 => ?_)
      refine s_aload_n (pc := 41) X rfl dX10_takeBack_41 ?_
      refine s_dup (pc := 42) X rfl dX10_takeBack_42 ?_
      refine s_getI (pc := 43) X shM_0 rfl fl_RX10_178 dX10_takeBack_43 ?_
      refine s_iconst (pc := 46) X ic_1 dX10_takeBack_46 ?_
      refine s_iadd (pc := 47) X dX10_takeBack_47 ?_
      refine s_put (pc := 48) X shM_0 rfl fp_RX10_178 dX10_takeBack_48 ?_
      refine s_letm (fun x_4 => ?_)
      refine s_iload_n (pc := 51) X rfl dX10_takeBack_51 ?_
      exact s_iret (pc := 52) X dX10_takeBack_52
    · refine s_bipush (pc := 19) X bp_m2 dX10_takeBack_19 ?_
      exact s_iret (pc := 21) X dX10_takeBack_21
  · refine s_iconst (pc := 8) X ic_m1 dX10_takeBack_8 ?_
    exact s_iret (pc := 9) X dX10_takeBack_9

-- X10_flags
def F_X10_flags (fu : Nat) (l1 : Int32) (x : Mem) : Res :=
  (clp (F_X10_in fu l1 0 (((1 : Int32) <<< ((x 0 4) &&& 31)) - 1) x) (fun r_1 => (if r_1 = 0 then (some ((-1), x)) else (letv ((x 0 14) &&& l1) (fun l2_2 => (letm (wr x 0 14 ((x 0 14) &&& (l1 ^^^ (-1)))) (fun x_3 => (some (l2_2, x_3)))))))))
set_option maxRecDepth 100000 in
set_option maxHeartbeats 4000000 in
theorem c_X10_flags (l : Launch) (D : va_G) (cy : ClassId) (ad : Nat → Nat) (fu : Nat) (l1 : Int32) (x : Mem) : Ct l D cy ad shM yX10_flags cX10_flags 3 (some .int) 2 80 [.ref (ad 0), .int l1] x (F_X10_flags fu l1 x) := by
  refine ct_of [some (.ref (ad 0)), some (.int l1), none] (by decide) (Nat.le_of_ble_eq_true rfl) rfl rfl ?_
  intro p e s m args below meth c A X
  have X : Cx p s m args meth c RX10 cX10_flags 3 (some .int) D cy ad shM A := X
  unfold F_X10_flags
  refine s_iload_n (pc := 0) X rfl dX10_flags_0 ?_
  refine s_iconst (pc := 1) X ic_0 dX10_flags_1 ?_
  refine s_iconst (pc := 2) X ic_1 dX10_flags_2 ?_
  refine s_aload_n (pc := 3) X rfl dX10_flags_3 ?_
  refine s_getI (pc := 4) X shM_0 rfl fl_RX10_91 dX10_flags_4 ?_
  refine s_ishl (pc := 7) X dX10_flags_7 ?_
  refine s_iconst (pc := 8) X ic_1 dX10_flags_8 ?_
  refine s_isub (pc := 9) X dX10_flags_9 ?_
  refine s_callSp (pc := 10) (As := [.int l1, .int 0, .int (((1 : Int32) <<< ((x 0 4) &&& 31)) - 1)]) (st := []) X lk_RX10_95 (c_X10_in l D cy ad fu _ _ _ _) rfl rfl ⟨by decide, by decide⟩ (Nat.le_of_ble_eq_true rfl) dX10_flags_10 (fun r_1 => ?_)
  refine s_if_ne (pc := 13) X 18 rfl dX10_flags_13 ?_ ?_
  · refine s_aload_n (pc := 18) X rfl dX10_flags_18 ?_
    refine s_getI (pc := 19) X shM_0 rfl fl_RX10_153 dX10_flags_19 ?_
    refine s_iload_n (pc := 22) X rfl dX10_flags_22 ?_
    refine s_iand (pc := 23) X dX10_flags_23 ?_
    refine s_letv (fun l2_2 => ?_)
    refine s_istore_n (pc := 24) X [some (.ref (ad 0)), some (.int l1), some (.int l2_2)] rfl (by decide) dX10_flags_24 ?_
    refine s_aload_n (pc := 25) X rfl dX10_flags_25 ?_
    refine s_dup (pc := 26) X rfl dX10_flags_26 ?_
    refine s_getI (pc := 27) X shM_0 rfl fl_RX10_153 dX10_flags_27 ?_
    refine s_iload_n (pc := 30) X rfl dX10_flags_30 ?_
    refine s_iconst (pc := 31) X ic_m1 dX10_flags_31 ?_
    refine s_ixor (pc := 32) X dX10_flags_32 ?_
    refine s_iand (pc := 33) X dX10_flags_33 ?_
    refine s_put (pc := 34) X shM_0 rfl fp_RX10_153 dX10_flags_34 ?_
    refine s_letm (fun x_3 => ?_)
    refine s_iload_n (pc := 37) X rfl dX10_flags_37 ?_
    exact s_iret (pc := 38) X dX10_flags_38
  · refine s_iconst (pc := 16) X ic_m1 dX10_flags_16 ?_
    exact s_iret (pc := 17) X dX10_flags_17

-- X10_about
def F_X10_about (fu : Nat) (l1 : Int32) (l2 : Int32) (x : Mem) : Option Int32 :=
  (clp (F_X10_isPull fu l1 x) (fun r_1 => (if r_1 = 0 then (some (-1)) else (clp (F_X10_in fu l2 0 4 x) (fun r_2 => (if r_2 = 0 then (some (-1)) else (if l2 = 0 then (chk l1 12 (if (x 11 (l1 : Int32).toNatClampNeg) < 0 then (clp (F_X10_isOnErrand fu l1 x) (fun r_3 => (if r_3 = 0 then (some 0) else (some 2)))) else (some 1))) else (if l2 = 1 then (some (((x 0 14) >>> (l1 &&& 31)) &&& 1)) else (if l2 = 2 then (chk l1 12 (some (x 12 (l1 : Int32).toNatClampNeg))) else (if l2 = 3 then (chk l1 12 (some (x 13 (l1 : Int32).toNatClampNeg))) else (chk l1 12 (some (x 14 (l1 : Int32).toNatClampNeg)))))))))))))
set_option maxRecDepth 100000 in
set_option maxHeartbeats 4000000 in
theorem c_X10_about (l : Launch) (D : va_G) (cy : ClassId) (ad : Nat → Nat) (fu : Nat) (l1 : Int32) (l2 : Int32) (x : Mem) : Ct l D cy ad shM yX10_about cX10_about 3 (some .int) 3 120 [.ref (ad 0), .int l1, .int l2] x (pr (F_X10_about fu l1 l2 x) x) := by
  refine ct_of [some (.ref (ad 0)), some (.int l1), some (.int l2)] (by decide) (Nat.le_of_ble_eq_true rfl) rfl rfl ?_
  intro p e s m args below meth c A X
  have X : Cx p s m args meth c RX10 cX10_about 3 (some .int) D cy ad shM A := X
  unfold F_X10_about
  refine s_aload_n (pc := 0) X rfl dX10_about_0 ?_
  refine s_iload_n (pc := 1) X rfl dX10_about_1 ?_
  refine p_callV (pc := 2) (As := [.int l1]) (st := []) X lk_RX10_128 (c_X10_isPull l D cy ad fu _ _) shM_0 rfl rfl rfl rfl ⟨by decide, by decide⟩ (Nat.le_of_ble_eq_true rfl) dX10_about_2 (fun r_1 => ?_)
  refine p_if_eq (pc := 5) X 17 rfl dX10_about_5 ?_ ?_
  · refine s_iconst (pc := 17) X ic_m1 dX10_about_17 ?_
    exact p_iret (pc := 18) X dX10_about_18
  · refine s_iload_n (pc := 8) X rfl dX10_about_8 ?_
    refine s_iconst (pc := 9) X ic_0 dX10_about_9 ?_
    refine s_iconst (pc := 10) X ic_4 dX10_about_10 ?_
    refine p_callS (pc := 11) (As := [.int l2, .int 0, .int 4]) (st := []) X lk_RX10_95 (c_X10_in l D cy ad fu _ _ _ _) rfl rfl ⟨by decide, by decide⟩ (Nat.le_of_ble_eq_true rfl) dX10_about_11 (fun r_2 => ?_)
    refine p_if_ne (pc := 14) X 19 rfl dX10_about_14 ?_ ?_
    · refine s_iload_n (pc := 19) X rfl dX10_about_19 ?_
      refine p_ite (fun e20_0 => ?_) (fun e20_0 => ?_)
      · refine s_tabI (pc := 20) X 52 (by rw [e20_0]; decide) (by rw [e20_0]; decide) (by rw [e20_0]; rfl) rfl dX10_about_20 ?_
        refine s_aload_n (pc := 52) X rfl dX10_about_52 ?_
        refine s_getR (pc := 53) X shM_0 rfl fl_RX10_40 dX10_about_53 ?_
        refine s_iload_n (pc := 56) X rfl dX10_about_56 ?_
        refine p_iald (pc := 57) X shM_11 dX10_about_57 ?_
        refine p_if_lt (pc := 58) X 65 rfl dX10_about_58 ?_ ?_
        · refine s_aload_n (pc := 65) X rfl dX10_about_65 ?_
          refine s_iload_n (pc := 66) X rfl dX10_about_66 ?_
          refine p_callV (pc := 67) (As := [.int l1]) (st := []) X lk_RX10_156 (c_X10_isOnErrand l D cy ad fu _ _) shM_0 rfl rfl rfl rfl ⟨by decide, by decide⟩ (Nat.le_of_ble_eq_true rfl) dX10_about_67 (fun r_3 => ?_)
          refine p_if_eq (pc := 70) X 77 rfl dX10_about_70 ?_ ?_
          · refine s_iconst (pc := 77) X ic_0 dX10_about_77 ?_
            exact p_iret (pc := 78) X dX10_about_78
          · refine s_iconst (pc := 73) X ic_2 dX10_about_73 ?_
            refine s_goto (pc := 74) X 78 rfl dX10_about_74 ?_
            exact p_iret (pc := 78) X dX10_about_78
        · refine s_iconst (pc := 61) X ic_1 dX10_about_61 ?_
          refine s_goto (pc := 62) X 78 rfl dX10_about_62 ?_
          exact p_iret (pc := 78) X dX10_about_78
      · refine p_ite (fun e20_1 => ?_) (fun e20_1 => ?_)
        · refine s_tabI (pc := 20) X 79 (by rw [e20_1]; decide) (by rw [e20_1]; decide) (by rw [e20_1]; rfl) rfl dX10_about_20 ?_
          refine s_aload_n (pc := 79) X rfl dX10_about_79 ?_
          refine s_getI (pc := 80) X shM_0 rfl fl_RX10_153 dX10_about_80 ?_
          refine s_iload_n (pc := 83) X rfl dX10_about_83 ?_
          refine s_ishr (pc := 84) X dX10_about_84 ?_
          refine s_iconst (pc := 85) X ic_1 dX10_about_85 ?_
          refine s_iand (pc := 86) X dX10_about_86 ?_
          exact p_iret (pc := 87) X dX10_about_87
        · refine p_ite (fun e20_2 => ?_) (fun e20_2 => ?_)
          · refine s_tabI (pc := 20) X 88 (by rw [e20_2]; decide) (by rw [e20_2]; decide) (by rw [e20_2]; rfl) rfl dX10_about_20 ?_
            refine s_aload_n (pc := 88) X rfl dX10_about_88 ?_
            refine s_getR (pc := 89) X shM_0 rfl fl_RX10_43 dX10_about_89 ?_
            refine s_iload_n (pc := 92) X rfl dX10_about_92 ?_
            refine p_iald (pc := 93) X shM_12 dX10_about_93 ?_
            exact p_iret (pc := 94) X dX10_about_94
          · refine p_ite (fun e20_3 => ?_) (fun e20_3 => ?_)
            · refine s_tabI (pc := 20) X 95 (by rw [e20_3]; decide) (by rw [e20_3]; decide) (by rw [e20_3]; rfl) rfl dX10_about_20 ?_
              refine s_aload_n (pc := 95) X rfl dX10_about_95 ?_
              refine s_getR (pc := 96) X shM_0 rfl fl_RX10_46 dX10_about_96 ?_
              refine s_iload_n (pc := 99) X rfl dX10_about_99 ?_
              refine p_iald (pc := 100) X shM_13 dX10_about_100 ?_
              exact p_iret (pc := 101) X dX10_about_101
            · have hT : (l2 : Int32).toInt < (0 : Int) ∨ (3 : Int) < (l2 : Int32).toInt := tabO _ 3 (by decide) (fun k hk => by rcases (show k = 0 ∨ k = 1 ∨ k = 2 ∨ k = 3 by omega) with rfl | rfl | rfl | rfl <;> first | exact e20_0 | exact e20_1 | exact e20_2 | exact e20_3)
              refine s_tabO (pc := 20) X 102 hT rfl dX10_about_20 ?_
              refine s_aload_n (pc := 102) X rfl dX10_about_102 ?_
              refine s_getR (pc := 103) X shM_0 rfl fl_RX10_49 dX10_about_103 ?_
              refine s_iload_n (pc := 106) X rfl dX10_about_106 ?_
              refine p_iald (pc := 107) X shM_14 dX10_about_107 ?_
              exact p_iret (pc := 108) X dX10_about_108
    · refine s_iconst (pc := 17) X ic_m1 dX10_about_17 ?_
      exact p_iret (pc := 18) X dX10_about_18

-- X10_servantTold
def F_X10_servantTold (fu : Nat) (l1 : Int32) (l2 : Int32) (x : Mem) : Option Int32 :=
  (clp (F_X10_isServant fu l1 x) (fun r_1 => (if r_1 = 0 then (some (-1)) else (clp (F_X10_in fu l2 0 4 x) (fun r_2 => (if r_2 = 0 then (some (-1)) else (if l2 = 0 then (chk l1 5 (some (x 15 (l1 : Int32).toNatClampNeg))) else (if l2 = 1 then (chk l1 5 (some (x 16 (l1 : Int32).toNatClampNeg))) else (if l2 = 2 then (chk l1 5 (some (x 18 (l1 : Int32).toNatClampNeg))) else (if l2 = 3 then (chk l1 5 (if 0 ≤ ((x 18 (l1 : Int32).toNatClampNeg) : Int32) then (chk l1 5 (some ((x 19 (l1 : Int32).toNatClampNeg) - (x 0 26)))) else (some 0))) else (chk l1 5 (some (x 20 (l1 : Int32).toNatClampNeg)))))))))))))
set_option maxRecDepth 100000 in
set_option maxHeartbeats 4000000 in
theorem c_X10_servantTold (l : Launch) (D : va_G) (cy : ClassId) (ad : Nat → Nat) (fu : Nat) (l1 : Int32) (l2 : Int32) (x : Mem) : Ct l D cy ad shM yX10_servantTold cX10_servantTold 3 (some .int) 3 120 [.ref (ad 0), .int l1, .int l2] x (pr (F_X10_servantTold fu l1 l2 x) x) := by
  refine ct_of [some (.ref (ad 0)), some (.int l1), some (.int l2)] (by decide) (Nat.le_of_ble_eq_true rfl) rfl rfl ?_
  intro p e s m args below meth c A X
  have X : Cx p s m args meth c RX10 cX10_servantTold 3 (some .int) D cy ad shM A := X
  unfold F_X10_servantTold
  refine s_aload_n (pc := 0) X rfl dX10_servantTold_0 ?_
  refine s_iload_n (pc := 1) X rfl dX10_servantTold_1 ?_
  refine p_callV (pc := 2) (As := [.int l1]) (st := []) X lk_RX10_181 (c_X10_isServant l D cy ad fu _ _) shM_0 rfl rfl rfl rfl ⟨by decide, by decide⟩ (Nat.le_of_ble_eq_true rfl) dX10_servantTold_2 (fun r_1 => ?_)
  refine p_if_eq (pc := 5) X 17 rfl dX10_servantTold_5 ?_ ?_
  · refine s_iconst (pc := 17) X ic_m1 dX10_servantTold_17 ?_
    exact p_iret (pc := 18) X dX10_servantTold_18
  · refine s_iload_n (pc := 8) X rfl dX10_servantTold_8 ?_
    refine s_iconst (pc := 9) X ic_0 dX10_servantTold_9 ?_
    refine s_iconst (pc := 10) X ic_4 dX10_servantTold_10 ?_
    refine p_callS (pc := 11) (As := [.int l2, .int 0, .int 4]) (st := []) X lk_RX10_95 (c_X10_in l D cy ad fu _ _ _ _) rfl rfl ⟨by decide, by decide⟩ (Nat.le_of_ble_eq_true rfl) dX10_servantTold_11 (fun r_2 => ?_)
    refine p_if_ne (pc := 14) X 19 rfl dX10_servantTold_14 ?_ ?_
    · refine s_iload_n (pc := 19) X rfl dX10_servantTold_19 ?_
      refine p_ite (fun e20_0 => ?_) (fun e20_0 => ?_)
      · refine s_tabI (pc := 20) X 52 (by rw [e20_0]; decide) (by rw [e20_0]; decide) (by rw [e20_0]; rfl) rfl dX10_servantTold_20 ?_
        refine s_aload_n (pc := 52) X rfl dX10_servantTold_52 ?_
        refine s_getR (pc := 53) X shM_0 rfl fl_RX10_52 dX10_servantTold_53 ?_
        refine s_iload_n (pc := 56) X rfl dX10_servantTold_56 ?_
        refine p_iald (pc := 57) X shM_15 dX10_servantTold_57 ?_
        exact p_iret (pc := 58) X dX10_servantTold_58
      · refine p_ite (fun e20_1 => ?_) (fun e20_1 => ?_)
        · refine s_tabI (pc := 20) X 59 (by rw [e20_1]; decide) (by rw [e20_1]; decide) (by rw [e20_1]; rfl) rfl dX10_servantTold_20 ?_
          refine s_aload_n (pc := 59) X rfl dX10_servantTold_59 ?_
          refine s_getR (pc := 60) X shM_0 rfl fl_RX10_55 dX10_servantTold_60 ?_
          refine s_iload_n (pc := 63) X rfl dX10_servantTold_63 ?_
          refine p_iald (pc := 64) X shM_16 dX10_servantTold_64 ?_
          exact p_iret (pc := 65) X dX10_servantTold_65
        · refine p_ite (fun e20_2 => ?_) (fun e20_2 => ?_)
          · refine s_tabI (pc := 20) X 66 (by rw [e20_2]; decide) (by rw [e20_2]; decide) (by rw [e20_2]; rfl) rfl dX10_servantTold_20 ?_
            refine s_aload_n (pc := 66) X rfl dX10_servantTold_66 ?_
            refine s_getR (pc := 67) X shM_0 rfl fl_RX10_61 dX10_servantTold_67 ?_
            refine s_iload_n (pc := 70) X rfl dX10_servantTold_70 ?_
            refine p_iald (pc := 71) X shM_18 dX10_servantTold_71 ?_
            exact p_iret (pc := 72) X dX10_servantTold_72
          · refine p_ite (fun e20_3 => ?_) (fun e20_3 => ?_)
            · refine s_tabI (pc := 20) X 73 (by rw [e20_3]; decide) (by rw [e20_3]; decide) (by rw [e20_3]; rfl) rfl dX10_servantTold_20 ?_
              refine s_aload_n (pc := 73) X rfl dX10_servantTold_73 ?_
              refine s_getR (pc := 74) X shM_0 rfl fl_RX10_61 dX10_servantTold_74 ?_
              refine s_iload_n (pc := 77) X rfl dX10_servantTold_77 ?_
              refine p_iald (pc := 78) X shM_18 dX10_servantTold_78 ?_
              refine p_if_ge (pc := 79) X 86 rfl dX10_servantTold_79 ?_ ?_
              · refine s_aload_n (pc := 86) X rfl dX10_servantTold_86 ?_
                refine s_getR (pc := 87) X shM_0 rfl fl_RX10_64 dX10_servantTold_87 ?_
                refine s_iload_n (pc := 90) X rfl dX10_servantTold_90 ?_
                refine p_iald (pc := 91) X shM_19 dX10_servantTold_91 ?_
                refine s_aload_n (pc := 92) X rfl dX10_servantTold_92 ?_
                refine s_getI (pc := 93) X shM_0 rfl fl_RX10_144 dX10_servantTold_93 ?_
                refine s_isub (pc := 96) X dX10_servantTold_96 ?_
                exact p_iret (pc := 97) X dX10_servantTold_97
              · refine s_iconst (pc := 82) X ic_0 dX10_servantTold_82 ?_
                refine s_goto (pc := 83) X 97 rfl dX10_servantTold_83 ?_
                exact p_iret (pc := 97) X dX10_servantTold_97
            · have hT : (l2 : Int32).toInt < (0 : Int) ∨ (3 : Int) < (l2 : Int32).toInt := tabO _ 3 (by decide) (fun k hk => by rcases (show k = 0 ∨ k = 1 ∨ k = 2 ∨ k = 3 by omega) with rfl | rfl | rfl | rfl <;> first | exact e20_0 | exact e20_1 | exact e20_2 | exact e20_3)
              refine s_tabO (pc := 20) X 98 hT rfl dX10_servantTold_20 ?_
              refine s_aload_n (pc := 98) X rfl dX10_servantTold_98 ?_
              refine s_getR (pc := 99) X shM_0 rfl fl_RX10_67 dX10_servantTold_99 ?_
              refine s_iload_n (pc := 102) X rfl dX10_servantTold_102 ?_
              refine p_iald (pc := 103) X shM_20 dX10_servantTold_103 ?_
              exact p_iret (pc := 104) X dX10_servantTold_104
    · refine s_iconst (pc := 17) X ic_m1 dX10_servantTold_17 ?_
      exact p_iret (pc := 18) X dX10_servantTold_18

-- X10_way
def F_X10_way (fu : Nat) (l1 : Int32) (l2 : Int32) (x : Mem) : Option Int32 :=
  (clp (F_X10_isServant fu l1 x) (fun r_1 => (if r_1 = 0 then (some (-1)) else (clp (F_X10_isPull fu l2 x) (fun r_2 => (if r_2 = 0 then (some (-1)) else (clp (F_X10_wayOf fu l1 l2 x) (fun r_3 => (some r_3)))))))))
set_option maxRecDepth 100000 in
set_option maxHeartbeats 4000000 in
theorem c_X10_way (l : Launch) (D : va_G) (cy : ClassId) (ad : Nat → Nat) (fu : Nat) (l1 : Int32) (l2 : Int32) (x : Mem) : Ct l D cy ad shM yX10_way cX10_way 3 (some .int) 3 120 [.ref (ad 0), .int l1, .int l2] x (pr (F_X10_way fu l1 l2 x) x) := by
  refine ct_of [some (.ref (ad 0)), some (.int l1), some (.int l2)] (by decide) (Nat.le_of_ble_eq_true rfl) rfl rfl ?_
  intro p e s m args below meth c A X
  have X : Cx p s m args meth c RX10 cX10_way 3 (some .int) D cy ad shM A := X
  unfold F_X10_way
  refine s_aload_n (pc := 0) X rfl dX10_way_0 ?_
  refine s_iload_n (pc := 1) X rfl dX10_way_1 ?_
  refine p_callV (pc := 2) (As := [.int l1]) (st := []) X lk_RX10_181 (c_X10_isServant l D cy ad fu _ _) shM_0 rfl rfl rfl rfl ⟨by decide, by decide⟩ (Nat.le_of_ble_eq_true rfl) dX10_way_2 (fun r_1 => ?_)
  refine p_if_eq (pc := 5) X 25 rfl dX10_way_5 ?_ ?_
  · refine s_iconst (pc := 25) X ic_m1 dX10_way_25 ?_
    exact p_iret (pc := 26) X dX10_way_26
  · refine s_aload_n (pc := 8) X rfl dX10_way_8 ?_
    refine s_iload_n (pc := 9) X rfl dX10_way_9 ?_
    refine p_callV (pc := 10) (As := [.int l2]) (st := []) X lk_RX10_128 (c_X10_isPull l D cy ad fu _ _) shM_0 rfl rfl rfl rfl ⟨by decide, by decide⟩ (Nat.le_of_ble_eq_true rfl) dX10_way_10 (fun r_2 => ?_)
    refine p_if_eq (pc := 13) X 25 rfl dX10_way_13 ?_ ?_
    · refine s_iconst (pc := 25) X ic_m1 dX10_way_25 ?_
      exact p_iret (pc := 26) X dX10_way_26
    · refine s_aload_n (pc := 16) X rfl dX10_way_16 ?_
      refine s_iload_n (pc := 17) X rfl dX10_way_17 ?_
      refine s_iload_n (pc := 18) X rfl dX10_way_18 ?_
      refine p_callV (pc := 19) (As := [.int l1, .int l2]) (st := []) X lk_RX10_150 (c_X10_wayOf l D cy ad fu _ _ _) shM_0 rfl rfl rfl rfl ⟨by decide, by decide⟩ (Nat.le_of_ble_eq_true rfl) dX10_way_19 (fun r_3 => ?_)
      refine s_goto (pc := 22) X 26 rfl dX10_way_22 ?_
      exact p_iret (pc := 26) X dX10_way_26

-- X10_swings
def L_X10_swings_16 (fu : Nat) (l1 : Int32) (x : Mem) : Nat → Int32 → Int32 → (Int32 → Option Int32) → Option Int32
  | 0, _, _, _ => none
  | n + 1, l2, l3, K => (if (8 : Int32) ≤ l3 then (K l2) else (chk l3 8 (jn (fun (k_2 : Int32 → Option Int32) => (if (x 21 (l3 : Int32).toNatClampNeg) ≤ 0 then (k_2 0) else (k_2 ((1 : Int32) <<< (l3 &&& 31))))) (fun v_3 => (letv (l2 ||| v_3) (fun l2_4 => (L_X10_swings_16 fu l1 x n l2_4 (l3 + 1) K)))))))
set_option maxRecDepth 100000 in
set_option maxHeartbeats 4000000 in
theorem tL_X10_swings_16 {p : Program} {l : Launch} {e : Env} {s : State} {m : MethodId} {args : Array Value} {below : List Frame} {meth : Method} {c : Code} {D : va_G} {cy : ClassId} {ad : Nat → Nat} {A : Nat → Prop} {fu : Nat} (X : Cx p s m args meth c RX10 cX10_swings 4 (some .int) D cy ad shM A) {l1 : Int32} {x : Mem} {K : Int32 → Option Int32} (hK : ∀ (l2 : Int32), Sim p l e ({ frames := 2, cells := 0, slots := 0, locals := 80 } : Room) s m args below meth c 4 (some .int) D cy ad shM A 47 [some (.ref (ad 0)), some (.int l1), some (.int l2), none] [] x (pr (K l2) x)) : ∀ (n : Nat) (l2 : Int32) (l3 : Int32), Sim p l e ({ frames := 2, cells := 0, slots := 0, locals := 80 } : Room) s m args below meth c 4 (some .int) D cy ad shM A 16 [some (.ref (ad 0)), some (.int l1), some (.int l2), some (.int l3)] [] x (pr (L_X10_swings_16 fu l1 x n l2 l3 K) x) := by
  intro n
  induction n with
  | zero =>
    intro l2 l3
    rw [L_X10_swings_16]
    exact p_none
  | succ n ih =>
    intro l2 l3
    rw [L_X10_swings_16]
    refine s_iload_n (pc := 16) X rfl dX10_swings_16 ?_
    refine s_bipush (pc := 17) X bp_8 dX10_swings_17 ?_
    refine p_icmp_ge (pc := 19) X 47 rfl dX10_swings_19 ?_ ?_
    · refine s_mask [true, true, true, false] ?_
      exact hK _
    · refine s_iload_n (pc := 22) X rfl dX10_swings_22 ?_
      refine s_aload_n (pc := 23) X rfl dX10_swings_23 ?_
      refine s_getR (pc := 24) X shM_0 rfl fl_RX10_70 dX10_swings_24 ?_
      refine s_iload_n (pc := 27) X rfl dX10_swings_27 ?_
      refine p_iald (pc := 28) X shM_21 dX10_swings_28 ?_
      refine p_jn (fun (k_2 : Int32 → Option Int32) => ∀ (v_3 : Int32), Sim p l e ({ frames := 2, cells := 0, slots := 0, locals := 80 } : Room) s m args below meth c 4 (some .int) D cy ad shM A 39 [some (.ref (ad 0)), some (.int l1), none, some (.int l3)] [.int v_3, .int l2] x (pr (k_2 v_3) x)) ?_ (fun k_2 hk_2 => ?_)
      · intro v_3
        refine s_ior (pc := 39) X dX10_swings_39 ?_
        refine p_letv (fun l2_4 => ?_)
        refine s_istore_n (pc := 40) X [some (.ref (ad 0)), some (.int l1), some (.int l2_4), some (.int l3)] rfl (by decide) dX10_swings_40 ?_
        refine s_iinc (pc := 41) X [some (.ref (ad 0)), some (.int l1), some (.int l2_4), some (.int (l3 + 1))] rfl (by decide) rfl ic_1 dX10_swings_41 ?_
        refine s_goto (pc := 44) X 16 rfl dX10_swings_44 ?_
        exact ih _ _
      · refine p_if_le (pc := 29) X 38 rfl dX10_swings_29 ?_ ?_
        · refine s_iconst (pc := 38) X ic_0 dX10_swings_38 ?_
          refine s_mask [true, true, false, true] ?_
          exact hk_2 _
        · refine s_iconst (pc := 32) X ic_1 dX10_swings_32 ?_
          refine s_iload_n (pc := 33) X rfl dX10_swings_33 ?_
          refine s_ishl (pc := 34) X dX10_swings_34 ?_
          refine s_goto (pc := 35) X 39 rfl dX10_swings_35 ?_
          refine s_mask [true, true, false, true] ?_
          exact hk_2 _

def F_X10_swings (fu : Nat) (l1 : Int32) (x : Mem) : Option Int32 :=
  (clp (F_X10_in fu l1 (-1) 7 x) (fun r_1 => (if r_1 = 0 then (some (-1)) else (L_X10_swings_16 fu l1 x fu 0 0 (fun l2_5 => (if 0 ≤ (l1 : Int32) then (chk l1 8 (some (x 21 (l1 : Int32).toNatClampNeg))) else (some l2_5)))))))
set_option maxRecDepth 100000 in
set_option maxHeartbeats 4000000 in
theorem c_X10_swings (l : Launch) (D : va_G) (cy : ClassId) (ad : Nat → Nat) (fu : Nat) (l1 : Int32) (x : Mem) : Ct l D cy ad shM yX10_swings cX10_swings 4 (some .int) 2 80 [.ref (ad 0), .int l1] x (pr (F_X10_swings fu l1 x) x) := by
  refine ct_of [some (.ref (ad 0)), some (.int l1), none, none] (by decide) (Nat.le_of_ble_eq_true rfl) rfl rfl ?_
  intro p e s m args below meth c A X
  have X : Cx p s m args meth c RX10 cX10_swings 4 (some .int) D cy ad shM A := X
  unfold F_X10_swings
  refine s_iload_n (pc := 0) X rfl dX10_swings_0 ?_
  refine s_iconst (pc := 1) X ic_m1 dX10_swings_1 ?_
  refine s_bipush (pc := 2) X bp_7 dX10_swings_2 ?_
  refine p_callS (pc := 4) (As := [.int l1, .int (-1), .int 7]) (st := []) X lk_RX10_95 (c_X10_in l D cy ad fu _ _ _ _) rfl rfl ⟨by decide, by decide⟩ (Nat.le_of_ble_eq_true rfl) dX10_swings_4 (fun r_1 => ?_)
  refine p_if_ne (pc := 7) X 12 rfl dX10_swings_7 ?_ ?_
  · refine s_iconst (pc := 12) X ic_0 dX10_swings_12 ?_
    refine s_istore_n (pc := 13) X [some (.ref (ad 0)), some (.int l1), some (.int 0), none] rfl (by decide) dX10_swings_13 ?_
    refine s_iconst (pc := 14) X ic_0 dX10_swings_14 ?_
    refine s_istore_n (pc := 15) X [some (.ref (ad 0)), some (.int l1), some (.int 0), some (.int 0)] rfl (by decide) dX10_swings_15 ?_
    refine tL_X10_swings_16 X (fun l2_5 => ?_) fu _ _
    refine s_iload_n (pc := 47) X rfl dX10_swings_47 ?_
    refine p_if_ge (pc := 48) X 55 rfl dX10_swings_48 ?_ ?_
    · refine s_aload_n (pc := 55) X rfl dX10_swings_55 ?_
      refine s_getR (pc := 56) X shM_0 rfl fl_RX10_70 dX10_swings_56 ?_
      refine s_iload_n (pc := 59) X rfl dX10_swings_59 ?_
      refine p_iald (pc := 60) X shM_21 dX10_swings_60 ?_
      exact p_iret (pc := 61) X dX10_swings_61
    · refine s_iload_n (pc := 51) X rfl dX10_swings_51 ?_
      refine s_goto (pc := 52) X 61 rfl dX10_swings_52 ?_
      exact p_iret (pc := 61) X dX10_swings_61
  · refine s_iconst (pc := 10) X ic_m1 dX10_swings_10 ?_
    exact p_iret (pc := 11) X dX10_swings_11

-- X10_waitingNow
def L_X10_waitingNow_4 (fu : Nat) (x : Mem) : Nat → Int32 → Int32 → (Int32 → Option Int32) → Option Int32
  | 0, _, _, _ => none
  | n + 1, l1, l2, K => (if (x 0 4) ≤ l2 then (K l1) else (chk l2 12 (jn (fun (k_1 : Int32 → Option Int32) => (if (x 11 (l2 : Int32).toNatClampNeg) < 0 then (k_1 0) else (k_1 1))) (fun v_2 => (letv (l1 + v_2) (fun l1_3 => (L_X10_waitingNow_4 fu x n l1_3 (l2 + 1) K)))))))
set_option maxRecDepth 100000 in
set_option maxHeartbeats 4000000 in
theorem tL_X10_waitingNow_4 {p : Program} {l : Launch} {e : Env} {s : State} {m : MethodId} {args : Array Value} {below : List Frame} {meth : Method} {c : Code} {D : va_G} {cy : ClassId} {ad : Nat → Nat} {A : Nat → Prop} {fu : Nat} (X : Cx p s m args meth c RX10 cX10_waitingNow 3 (some .int) D cy ad shM A) {x : Mem} {K : Int32 → Option Int32} (hK : ∀ (l1 : Int32), Sim p l e ({ frames := 1, cells := 0, slots := 0, locals := 40 } : Room) s m args below meth c 3 (some .int) D cy ad shM A 35 [none, some (.int l1), none] [] x (pr (K l1) x)) : ∀ (n : Nat) (l1 : Int32) (l2 : Int32), Sim p l e ({ frames := 1, cells := 0, slots := 0, locals := 40 } : Room) s m args below meth c 3 (some .int) D cy ad shM A 4 [some (.ref (ad 0)), some (.int l1), some (.int l2)] [] x (pr (L_X10_waitingNow_4 fu x n l1 l2 K) x) := by
  intro n
  induction n with
  | zero =>
    intro l1 l2
    rw [L_X10_waitingNow_4]
    exact p_none
  | succ n ih =>
    intro l1 l2
    rw [L_X10_waitingNow_4]
    refine s_iload_n (pc := 4) X rfl dX10_waitingNow_4 ?_
    refine s_aload_n (pc := 5) X rfl dX10_waitingNow_5 ?_
    refine s_getI (pc := 6) X shM_0 rfl fl_RX10_91 dX10_waitingNow_6 ?_
    refine p_icmp_ge (pc := 9) X 35 rfl dX10_waitingNow_9 ?_ ?_
    · refine s_mask [false, true, false] ?_
      exact hK _
    · refine s_iload_n (pc := 12) X rfl dX10_waitingNow_12 ?_
      refine s_aload_n (pc := 13) X rfl dX10_waitingNow_13 ?_
      refine s_getR (pc := 14) X shM_0 rfl fl_RX10_40 dX10_waitingNow_14 ?_
      refine s_iload_n (pc := 17) X rfl dX10_waitingNow_17 ?_
      refine p_iald (pc := 18) X shM_11 dX10_waitingNow_18 ?_
      refine p_jn (fun (k_1 : Int32 → Option Int32) => ∀ (v_2 : Int32), Sim p l e ({ frames := 1, cells := 0, slots := 0, locals := 40 } : Room) s m args below meth c 3 (some .int) D cy ad shM A 27 [some (.ref (ad 0)), none, some (.int l2)] [.int v_2, .int l1] x (pr (k_1 v_2) x)) ?_ (fun k_1 hk_1 => ?_)
      · intro v_2
        refine s_iadd (pc := 27) X dX10_waitingNow_27 ?_
        refine p_letv (fun l1_3 => ?_)
        refine s_istore_n (pc := 28) X [some (.ref (ad 0)), some (.int l1_3), some (.int l2)] rfl (by decide) dX10_waitingNow_28 ?_
        refine s_iinc (pc := 29) X [some (.ref (ad 0)), some (.int l1_3), some (.int (l2 + 1))] rfl (by decide) rfl ic_1 dX10_waitingNow_29 ?_
        refine s_goto (pc := 32) X 4 rfl dX10_waitingNow_32 ?_
        exact ih _ _
      · refine p_if_lt (pc := 19) X 26 rfl dX10_waitingNow_19 ?_ ?_
        · refine s_iconst (pc := 26) X ic_0 dX10_waitingNow_26 ?_
          refine s_mask [true, false, true] ?_
          exact hk_1 _
        · refine s_iconst (pc := 22) X ic_1 dX10_waitingNow_22 ?_
          refine s_goto (pc := 23) X 27 rfl dX10_waitingNow_23 ?_
          refine s_mask [true, false, true] ?_
          exact hk_1 _

def F_X10_waitingNow (fu : Nat) (x : Mem) : Option Int32 :=
  (L_X10_waitingNow_4 fu x fu 0 0 (fun l1_4 => (some l1_4)))
set_option maxRecDepth 100000 in
set_option maxHeartbeats 4000000 in
theorem c_X10_waitingNow (l : Launch) (D : va_G) (cy : ClassId) (ad : Nat → Nat) (fu : Nat) (x : Mem) : Ct l D cy ad shM yX10_waitingNow cX10_waitingNow 3 (some .int) 1 40 [.ref (ad 0)] x (pr (F_X10_waitingNow fu x) x) := by
  refine ct_of [some (.ref (ad 0)), none, none] (by decide) (Nat.le_of_ble_eq_true rfl) rfl rfl ?_
  intro p e s m args below meth c A X
  have X : Cx p s m args meth c RX10 cX10_waitingNow 3 (some .int) D cy ad shM A := X
  unfold F_X10_waitingNow
  refine s_iconst (pc := 0) X ic_0 dX10_waitingNow_0 ?_
  refine s_istore_n (pc := 1) X [some (.ref (ad 0)), some (.int 0), none] rfl (by decide) dX10_waitingNow_1 ?_
  refine s_iconst (pc := 2) X ic_0 dX10_waitingNow_2 ?_
  refine s_istore_n (pc := 3) X [some (.ref (ad 0)), some (.int 0), some (.int 0)] rfl (by decide) dX10_waitingNow_3 ?_
  refine tL_X10_waitingNow_4 X (fun l1_4 => ?_) fu _ _
  refine s_iload_n (pc := 35) X rfl dX10_waitingNow_35 ?_
  exact p_iret (pc := 36) X dX10_waitingNow_36

-- X10_costOf
def L_X10_costOf_11 (fu : Nat) (l1 : Int32) (x : Mem) : Nat → Int32 → Int32 → Int32 → Int32 → (Int32 → Option Int32) → Option Int32
  | 0, _, _, _, _, _ => none
  | n + 1, l3, l4, l5, l6, K => (if (x 0 34) ≤ l6 then (K l5) else (nz 6 (letv (l3 / 6) (fun l3_1 => (nz l3_1 (nz 6 (letv ((l1 / l3_1) - (l1 / l3_1) / 6 * 6) (fun l7_2 => (chk l6 4 (letv (x 26 (l6 : Int32).toNatClampNeg) (fun l8_3 => (if l7_2 = 5 then (chk l8_3 12 (letv (l5 + (((x 6 (l8_3 : Int32).toNatClampNeg) + 1) * 100)) (fun l5_8 => (L_X10_costOf_11 fu l1 x n l3_1 l4 l5_8 (l6 + 1) K)))) else (if (x 0 19) ≤ l7_2 then (some 9999999) else (if (((l4 : Int32) >>> (l7_2 &&& 31)) &&& 1) = 1 then (some 9999999) else (clp (F_X10_may fu l7_2 l8_3 x) (fun r_4 => (if r_4 = 0 then (some 9999999) else (letv (l4 ||| ((1 : Int32) <<< (l7_2 &&& 31))) (fun l4_5 => (chk l8_3 12 (clp (F_X10_wayOf fu l7_2 l8_3 x) (fun r_6 => (letv (l5 + (((x 6 (l8_3 : Int32).toNatClampNeg) + 1) * r_6)) (fun l5_7 => (L_X10_costOf_11 fu l1 x n l3_1 l4_5 l5_7 (l6 + 1) K)))))))))))))))))))))))))
set_option maxRecDepth 100000 in
set_option maxHeartbeats 4000000 in
theorem tL_X10_costOf_11 {p : Program} {l : Launch} {e : Env} {s : State} {m : MethodId} {args : Array Value} {below : List Frame} {meth : Method} {c : Code} {D : va_G} {cy : ClassId} {ad : Nat → Nat} {A : Nat → Prop} {fu : Nat} (X : Cx p s m args meth c RX10 cX10_costOf 9 (some .int) D cy ad shM A) {l1 : Int32} {x : Mem} {K : Int32 → Option Int32} (hK : ∀ (l5 : Int32), Sim p l e ({ frames := 3, cells := 0, slots := 0, locals := 120 } : Room) s m args below meth c 9 (some .int) D cy ad shM A 140 [none, none, none, none, none, some (.int l5), none, none, none] [] x (pr (K l5) x)) : ∀ (n : Nat) (l3 : Int32) (l4 : Int32) (l5 : Int32) (l6 : Int32), Sim p l e ({ frames := 3, cells := 0, slots := 0, locals := 120 } : Room) s m args below meth c 9 (some .int) D cy ad shM A 11 [some (.ref (ad 0)), some (.int l1), none, some (.int l3), some (.int l4), some (.int l5), some (.int l6), none, none] [] x (pr (L_X10_costOf_11 fu l1 x n l3 l4 l5 l6 K) x) := by
  intro n
  induction n with
  | zero =>
    intro l3 l4 l5 l6
    rw [L_X10_costOf_11]
    exact p_none
  | succ n ih =>
    intro l3 l4 l5 l6
    rw [L_X10_costOf_11]
    refine s_iload (pc := 11) X rfl dX10_costOf_11 ?_
    refine s_aload_n (pc := 13) X rfl dX10_costOf_13 ?_
    refine s_getI (pc := 14) X shM_0 rfl fl_RX10_184 dX10_costOf_14 ?_
    refine p_icmp_ge (pc := 17) X 140 rfl dX10_costOf_17 ?_ ?_
    · refine s_mask [false, false, false, false, false, true, false, false, false] ?_
      exact hK _
    · refine s_iload_n (pc := 20) X rfl dX10_costOf_20 ?_
      refine s_bipush (pc := 21) X bp_6 dX10_costOf_21 ?_
      refine p_idiv (pc := 23) X dX10_costOf_23 ?_
      refine p_letv (fun l3_1 => ?_)
      refine s_istore_n (pc := 24) X [some (.ref (ad 0)), some (.int l1), none, some (.int l3_1), some (.int l4), some (.int l5), some (.int l6), none, none] rfl (by decide) dX10_costOf_24 ?_
      refine s_iload_n (pc := 25) X rfl dX10_costOf_25 ?_
      refine s_iload_n (pc := 26) X rfl dX10_costOf_26 ?_
      refine p_idiv (pc := 27) X dX10_costOf_27 ?_
      refine s_bipush (pc := 28) X bp_6 dX10_costOf_28 ?_
      refine p_irem (pc := 30) X dX10_costOf_30 ?_
      refine p_letv (fun l7_2 => ?_)
      refine s_istore (pc := 31) X [some (.ref (ad 0)), some (.int l1), none, some (.int l3_1), some (.int l4), some (.int l5), some (.int l6), some (.int l7_2), none] rfl (by decide) dX10_costOf_31 ?_
      refine s_aload_n (pc := 33) X rfl dX10_costOf_33 ?_
      refine s_getR (pc := 34) X shM_0 rfl fl_RX10_85 dX10_costOf_34 ?_
      refine s_iload (pc := 37) X rfl dX10_costOf_37 ?_
      refine p_iald (pc := 39) X shM_26 dX10_costOf_39 ?_
      refine p_letv (fun l8_3 => ?_)
      refine s_istore (pc := 40) X [some (.ref (ad 0)), some (.int l1), none, some (.int l3_1), some (.int l4), some (.int l5), some (.int l6), some (.int l7_2), some (.int l8_3)] rfl (by decide) dX10_costOf_40 ?_
      refine s_iload (pc := 42) X rfl dX10_costOf_42 ?_
      refine s_iconst (pc := 44) X ic_5 dX10_costOf_44 ?_
      refine p_icmp_ne (pc := 45) X 68 rfl dX10_costOf_45 ?_ ?_
      · refine s_iload (pc := 68) X rfl dX10_costOf_68 ?_
        refine s_aload_n (pc := 70) X rfl dX10_costOf_70 ?_
        refine s_getI (pc := 71) X shM_0 rfl fl_RX10_141 dX10_costOf_71 ?_
        refine p_icmp_ge (pc := 74) X 99 rfl dX10_costOf_74 ?_ ?_
        · refine s_ldc (pc := 99) X k_RX10_187 dX10_costOf_99 ?_
          exact p_iret (pc := 101) X dX10_costOf_101
        · refine s_iload (pc := 77) X rfl dX10_costOf_77 ?_
          refine s_iload (pc := 79) X rfl dX10_costOf_79 ?_
          refine s_ishr (pc := 81) X dX10_costOf_81 ?_
          refine s_iconst (pc := 82) X ic_1 dX10_costOf_82 ?_
          refine s_iand (pc := 83) X dX10_costOf_83 ?_
          refine s_iconst (pc := 84) X ic_1 dX10_costOf_84 ?_
          refine p_icmp_eq (pc := 85) X 99 rfl dX10_costOf_85 ?_ ?_
          · refine s_ldc (pc := 99) X k_RX10_187 dX10_costOf_99 ?_
            exact p_iret (pc := 101) X dX10_costOf_101
          · refine s_aload_n (pc := 88) X rfl dX10_costOf_88 ?_
            refine s_iload (pc := 89) X rfl dX10_costOf_89 ?_
            refine s_iload (pc := 91) X rfl dX10_costOf_91 ?_
            refine p_callV (pc := 93) (As := [.int l7_2, .int l8_3]) (st := []) X lk_RX10_159 (c_X10_may l D cy ad fu _ _ _) shM_0 rfl rfl rfl rfl ⟨by decide, by decide⟩ (Nat.le_of_ble_eq_true rfl) dX10_costOf_93 (fun r_4 => ?_)
            refine p_if_ne (pc := 96) X 102 rfl dX10_costOf_96 ?_ ?_
            · refine s_iload (pc := 102) X rfl dX10_costOf_102 ?_
              refine s_iconst (pc := 104) X ic_1 dX10_costOf_104 ?_
              refine s_iload (pc := 105) X rfl dX10_costOf_105 ?_
              refine s_ishl (pc := 107) X dX10_costOf_107 ?_
              refine s_ior (pc := 108) X dX10_costOf_108 ?_
              refine p_letv (fun l4_5 => ?_)
              refine s_istore (pc := 109) X [some (.ref (ad 0)), some (.int l1), none, some (.int l3_1), some (.int l4_5), some (.int l5), some (.int l6), some (.int l7_2), some (.int l8_3)] rfl (by decide) dX10_costOf_109 ?_
              refine s_iload (pc := 111) X rfl dX10_costOf_111 ?_
              refine s_aload_n (pc := 113) X rfl dX10_costOf_113 ?_
              refine s_getR (pc := 114) X shM_0 rfl fl_RX10_25 dX10_costOf_114 ?_
              refine s_iload (pc := 117) X rfl dX10_costOf_117 ?_
              refine p_iald (pc := 119) X shM_6 dX10_costOf_119 ?_
              refine s_iconst (pc := 120) X ic_1 dX10_costOf_120 ?_
              refine s_iadd (pc := 121) X dX10_costOf_121 ?_
              refine s_aload_n (pc := 122) X rfl dX10_costOf_122 ?_
              refine s_iload (pc := 123) X rfl dX10_costOf_123 ?_
              refine s_iload (pc := 125) X rfl dX10_costOf_125 ?_
              refine p_callV (pc := 127) (As := [.int l7_2, .int l8_3]) (st := [.int ((x 6 (l8_3 : Int32).toNatClampNeg) + 1), .int l5]) X lk_RX10_150 (c_X10_wayOf l D cy ad fu _ _ _) shM_0 rfl rfl rfl rfl ⟨by decide, by decide⟩ (Nat.le_of_ble_eq_true rfl) dX10_costOf_127 (fun r_6 => ?_)
              refine s_imul (pc := 130) X dX10_costOf_130 ?_
              refine s_iadd (pc := 131) X dX10_costOf_131 ?_
              refine p_letv (fun l5_7 => ?_)
              refine s_istore (pc := 132) X [some (.ref (ad 0)), some (.int l1), none, some (.int l3_1), some (.int l4_5), some (.int l5_7), some (.int l6), some (.int l7_2), some (.int l8_3)] rfl (by decide) dX10_costOf_132 ?_
              refine s_iinc (pc := 134) X [some (.ref (ad 0)), some (.int l1), none, some (.int l3_1), some (.int l4_5), some (.int l5_7), some (.int (l6 + 1)), some (.int l7_2), some (.int l8_3)] rfl (by decide) rfl ic_1 dX10_costOf_134 ?_
              refine s_goto (pc := 137) X 11 rfl dX10_costOf_137 ?_
              refine s_mask [true, true, false, true, true, true, true, false, false] ?_
              exact ih _ _ _ _
            · refine s_ldc (pc := 99) X k_RX10_187 dX10_costOf_99 ?_
              exact p_iret (pc := 101) X dX10_costOf_101
      · refine s_iload (pc := 48) X rfl dX10_costOf_48 ?_
        refine s_aload_n (pc := 50) X rfl dX10_costOf_50 ?_
        refine s_getR (pc := 51) X shM_0 rfl fl_RX10_25 dX10_costOf_51 ?_
        refine s_iload (pc := 54) X rfl dX10_costOf_54 ?_
        refine p_iald (pc := 56) X shM_6 dX10_costOf_56 ?_
        refine s_iconst (pc := 57) X ic_1 dX10_costOf_57 ?_
        refine s_iadd (pc := 58) X dX10_costOf_58 ?_
        refine s_bipush (pc := 59) X bp_100 dX10_costOf_59 ?_
        refine s_imul (pc := 61) X dX10_costOf_61 ?_
        refine s_iadd (pc := 62) X dX10_costOf_62 ?_
        refine p_letv (fun l5_8 => ?_)
        refine s_istore (pc := 63) X [some (.ref (ad 0)), some (.int l1), none, some (.int l3_1), some (.int l4), some (.int l5_8), some (.int l6), some (.int l7_2), some (.int l8_3)] rfl (by decide) dX10_costOf_63 ?_
        refine s_goto (pc := 65) X 134 rfl dX10_costOf_65 ?_
        refine s_iinc (pc := 134) X [some (.ref (ad 0)), some (.int l1), none, some (.int l3_1), some (.int l4), some (.int l5_8), some (.int (l6 + 1)), some (.int l7_2), some (.int l8_3)] rfl (by decide) rfl ic_1 dX10_costOf_134 ?_
        refine s_goto (pc := 137) X 11 rfl dX10_costOf_137 ?_
        refine s_mask [true, true, false, true, true, true, true, false, false] ?_
        exact ih _ _ _ _

def F_X10_costOf (fu : Nat) (l1 : Int32) (l2 : Int32) (x : Mem) : Option Int32 :=
  (L_X10_costOf_11 fu l1 x fu l2 0 0 0 (fun l5_9 => (some l5_9)))
set_option maxRecDepth 100000 in
set_option maxHeartbeats 4000000 in
theorem c_X10_costOf (l : Launch) (D : va_G) (cy : ClassId) (ad : Nat → Nat) (fu : Nat) (l1 : Int32) (l2 : Int32) (x : Mem) : Ct l D cy ad shM yX10_costOf cX10_costOf 9 (some .int) 3 120 [.ref (ad 0), .int l1, .int l2] x (pr (F_X10_costOf fu l1 l2 x) x) := by
  refine ct_of [some (.ref (ad 0)), some (.int l1), some (.int l2), none, none, none, none, none, none] (by decide) (Nat.le_of_ble_eq_true rfl) rfl rfl ?_
  intro p e s m args below meth c A X
  have X : Cx p s m args meth c RX10 cX10_costOf 9 (some .int) D cy ad shM A := X
  unfold F_X10_costOf
  refine s_iload_n (pc := 0) X rfl dX10_costOf_0 ?_
  refine s_istore_n (pc := 1) X [some (.ref (ad 0)), some (.int l1), some (.int l2), some (.int l2), none, none, none, none, none] rfl (by decide) dX10_costOf_1 ?_
  refine s_iconst (pc := 2) X ic_0 dX10_costOf_2 ?_
  refine s_istore (pc := 3) X [some (.ref (ad 0)), some (.int l1), some (.int l2), some (.int l2), some (.int 0), none, none, none, none] rfl (by decide) dX10_costOf_3 ?_
  refine s_iconst (pc := 5) X ic_0 dX10_costOf_5 ?_
  refine s_istore (pc := 6) X [some (.ref (ad 0)), some (.int l1), some (.int l2), some (.int l2), some (.int 0), some (.int 0), none, none, none] rfl (by decide) dX10_costOf_6 ?_
  refine s_iconst (pc := 8) X ic_0 dX10_costOf_8 ?_
  refine s_istore (pc := 9) X [some (.ref (ad 0)), some (.int l1), some (.int l2), some (.int l2), some (.int 0), some (.int 0), some (.int 0), none, none] rfl (by decide) dX10_costOf_9 ?_
  refine s_mask [true, true, false, true, true, true, true, false, false] ?_
  refine tL_X10_costOf_11 X (fun l5_9 => ?_) fu _ _ _ _
  refine s_iload (pc := 140) X rfl dX10_costOf_140 ?_
  exact p_iret (pc := 142) X dX10_costOf_142

-- X10_shares
def L_X10_shares_7 (fu : Nat) : Nat → Int32 → Mem → (Mem → Res) → Res
  | 0, _, _, _ => none
  | n + 1, l1, x, K => (if (x 0 4) ≤ l1 then (K x) else (chk l1 12 (if (x 11 (l1 : Int32).toNatClampNeg) < 0 then (L_X10_shares_7 fu n (l1 + 1) x K) else (chk (x 0 34) 4 (letm (wr x 26 ((x 0 34) : Int32).toNatClampNeg l1) (fun x_2 => (letm (wr x_2 0 34 ((x_2 0 34) + 1)) (fun x_3 => (L_X10_shares_7 fu n (l1 + 1) x_3 K)))))))))
set_option maxRecDepth 100000 in
set_option maxHeartbeats 4000000 in
theorem tL_X10_shares_7 {p : Program} {l : Launch} {e : Env} {s : State} {m : MethodId} {args : Array Value} {below : List Frame} {meth : Method} {c : Code} {D : va_G} {cy : ClassId} {ad : Nat → Nat} {A : Nat → Prop} {fu : Nat} (X : Cx p s m args meth c RX10 cX10_shares 5 (some .int) D cy ad shM A) {K : Mem → Res} (hK : ∀ (x : Mem), Sim p l e ({ frames := 4, cells := 0, slots := 0, locals := 160 } : Room) s m args below meth c 5 (some .int) D cy ad shM A 50 [some (.ref (ad 0)), none, none, none, none] [] x (K x)) : ∀ (n : Nat) (l1 : Int32) (x : Mem), Sim p l e ({ frames := 4, cells := 0, slots := 0, locals := 160 } : Room) s m args below meth c 5 (some .int) D cy ad shM A 7 [some (.ref (ad 0)), some (.int l1), none, none, none] [] x (L_X10_shares_7 fu n l1 x K) := by
  intro n
  induction n with
  | zero =>
    intro l1 x
    rw [L_X10_shares_7]
    exact s_none
  | succ n ih =>
    intro l1 x
    rw [L_X10_shares_7]
    refine s_iload_n (pc := 7) X rfl dX10_shares_7 ?_
    refine s_aload_n (pc := 8) X rfl dX10_shares_8 ?_
    refine s_getI (pc := 9) X shM_0 rfl fl_RX10_91 dX10_shares_9 ?_
    refine s_icmp_ge (pc := 12) X 50 rfl dX10_shares_12 ?_ ?_
    · refine s_mask [true, false, false, false, false] ?_
      exact hK _
    · refine s_aload_n (pc := 15) X rfl dX10_shares_15 ?_
      refine s_getR (pc := 16) X shM_0 rfl fl_RX10_40 dX10_shares_16 ?_
      refine s_iload_n (pc := 19) X rfl dX10_shares_19 ?_
      refine s_iald (pc := 20) X shM_11 dX10_shares_20 ?_
      refine s_if_lt (pc := 21) X 44 rfl dX10_shares_21 ?_ ?_
      · refine s_iinc (pc := 44) X [some (.ref (ad 0)), some (.int (l1 + 1)), none, none, none] rfl (by decide) rfl ic_1 dX10_shares_44 ?_
        refine s_goto (pc := 47) X 7 rfl dX10_shares_47 ?_
        exact ih _ _
      · refine s_aload_n (pc := 24) X rfl dX10_shares_24 ?_
        refine s_getR (pc := 25) X shM_0 rfl fl_RX10_85 dX10_shares_25 ?_
        refine s_aload_n (pc := 28) X rfl dX10_shares_28 ?_
        refine s_getI (pc := 29) X shM_0 rfl fl_RX10_184 dX10_shares_29 ?_
        refine s_iload_n (pc := 32) X rfl dX10_shares_32 ?_
        refine s_iast (pc := 33) X shM_26 dX10_shares_33 ?_
        refine s_letm (fun x_2 => ?_)
        refine s_aload_n (pc := 34) X rfl dX10_shares_34 ?_
        refine s_dup (pc := 35) X rfl dX10_shares_35 ?_
        refine s_getI (pc := 36) X shM_0 rfl fl_RX10_184 dX10_shares_36 ?_
        refine s_iconst (pc := 39) X ic_1 dX10_shares_39 ?_
        refine s_iadd (pc := 40) X dX10_shares_40 ?_
        refine s_put (pc := 41) X shM_0 rfl fp_RX10_184 dX10_shares_41 ?_
        refine s_letm (fun x_3 => ?_)
        refine s_iinc (pc := 44) X [some (.ref (ad 0)), some (.int (l1 + 1)), none, none, none] rfl (by decide) rfl ic_1 dX10_shares_44 ?_
        refine s_goto (pc := 47) X 7 rfl dX10_shares_47 ?_
        exact ih _ _

def L_X10_shares_54 (fu : Nat) (x : Mem) : Nat → Int32 → Int32 → (Int32 → Res) → Res
  | 0, _, _, _ => none
  | n + 1, l1, l2, K => (if (x 0 34) ≤ l2 then (K l1) else (letv (l1 * 6) (fun l1_5 => (L_X10_shares_54 fu x n l1_5 (l2 + 1) K))))
set_option maxRecDepth 100000 in
set_option maxHeartbeats 4000000 in
theorem tL_X10_shares_54 {p : Program} {l : Launch} {e : Env} {s : State} {m : MethodId} {args : Array Value} {below : List Frame} {meth : Method} {c : Code} {D : va_G} {cy : ClassId} {ad : Nat → Nat} {A : Nat → Prop} {fu : Nat} (X : Cx p s m args meth c RX10 cX10_shares 5 (some .int) D cy ad shM A) {x : Mem} {K : Int32 → Res} (hK : ∀ (l1 : Int32), Sim p l e ({ frames := 4, cells := 0, slots := 0, locals := 160 } : Room) s m args below meth c 5 (some .int) D cy ad shM A 73 [some (.ref (ad 0)), some (.int l1), none, none, none] [] x (K l1)) : ∀ (n : Nat) (l1 : Int32) (l2 : Int32), Sim p l e ({ frames := 4, cells := 0, slots := 0, locals := 160 } : Room) s m args below meth c 5 (some .int) D cy ad shM A 54 [some (.ref (ad 0)), some (.int l1), some (.int l2), none, none] [] x (L_X10_shares_54 fu x n l1 l2 K) := by
  intro n
  induction n with
  | zero =>
    intro l1 l2
    rw [L_X10_shares_54]
    exact s_none
  | succ n ih =>
    intro l1 l2
    rw [L_X10_shares_54]
    refine s_iload_n (pc := 54) X rfl dX10_shares_54 ?_
    refine s_aload_n (pc := 55) X rfl dX10_shares_55 ?_
    refine s_getI (pc := 56) X shM_0 rfl fl_RX10_184 dX10_shares_56 ?_
    refine s_icmp_ge (pc := 59) X 73 rfl dX10_shares_59 ?_ ?_
    · refine s_mask [true, true, false, false, false] ?_
      exact hK _
    · refine s_iload_n (pc := 62) X rfl dX10_shares_62 ?_
      refine s_bipush (pc := 63) X bp_6 dX10_shares_63 ?_
      refine s_imul (pc := 65) X dX10_shares_65 ?_
      refine s_letv (fun l1_5 => ?_)
      refine s_istore_n (pc := 66) X [some (.ref (ad 0)), some (.int l1_5), some (.int l2), none, none] rfl (by decide) dX10_shares_66 ?_
      refine s_iinc (pc := 67) X [some (.ref (ad 0)), some (.int l1_5), some (.int (l2 + 1)), none, none] rfl (by decide) rfl ic_1 dX10_shares_67 ?_
      refine s_goto (pc := 70) X 54 rfl dX10_shares_70 ?_
      exact ih _ _

def L_X10_shares_83 (fu : Nat) (l1 : Int32) : Nat → Int32 → Int32 → Mem → (Int32 → Mem → Res) → Res
  | 0, _, _, _, _ => none
  | n + 1, l2, l3, x, K => (if l1 ≤ l3 then (K l2 x) else (clp (F_X10_costOf fu l3 l1 x) (fun r_8 => (jn (fun (k_9 : Int32 → Res) => (if (x 0 35) ≤ r_8 then (k_9 l2) else (k_9 l3))) (fun v_10 => (if (x 0 35) ≤ r_8 then (letm (wr x 0 35 (x 0 35)) (fun x_11 => (L_X10_shares_83 fu l1 n v_10 (l3 + 1) x_11 K))) else (letm (wr x 0 35 r_8) (fun x_12 => (L_X10_shares_83 fu l1 n v_10 (l3 + 1) x_12 K)))))))))
set_option maxRecDepth 100000 in
set_option maxHeartbeats 4000000 in
theorem tL_X10_shares_83 {p : Program} {l : Launch} {e : Env} {s : State} {m : MethodId} {args : Array Value} {below : List Frame} {meth : Method} {c : Code} {D : va_G} {cy : ClassId} {ad : Nat → Nat} {A : Nat → Prop} {fu : Nat} (X : Cx p s m args meth c RX10 cX10_shares 5 (some .int) D cy ad shM A) {l1 : Int32} {K : Int32 → Mem → Res} (hK : ∀ (l2 : Int32) (x : Mem), Sim p l e ({ frames := 4, cells := 0, slots := 0, locals := 160 } : Room) s m args below meth c 5 (some .int) D cy ad shM A 139 [none, none, some (.int l2), none, none] [] x (K l2 x)) : ∀ (n : Nat) (l2 : Int32) (l3 : Int32) (x : Mem), Sim p l e ({ frames := 4, cells := 0, slots := 0, locals := 160 } : Room) s m args below meth c 5 (some .int) D cy ad shM A 83 [some (.ref (ad 0)), some (.int l1), some (.int l2), some (.int l3), none] [] x (L_X10_shares_83 fu l1 n l2 l3 x K) := by
  intro n
  induction n with
  | zero =>
    intro l2 l3 x
    rw [L_X10_shares_83]
    exact s_none
  | succ n ih =>
    intro l2 l3 x
    rw [L_X10_shares_83]
    refine s_iload_n (pc := 83) X rfl dX10_shares_83 ?_
    refine s_iload_n (pc := 84) X rfl dX10_shares_84 ?_
    refine s_icmp_ge (pc := 85) X 139 rfl dX10_shares_85 ?_ ?_
    · refine s_mask [false, false, true, false, false] ?_
      exact hK _ _
    · refine s_aload_n (pc := 88) X rfl dX10_shares_88 ?_
      refine s_iload_n (pc := 89) X rfl dX10_shares_89 ?_
      refine s_iload_n (pc := 90) X rfl dX10_shares_90 ?_
      refine s_callVp (pc := 91) (As := [.int l3, .int l1]) (st := []) X lk_RX10_191 (c_X10_costOf l D cy ad fu _ _ _) shM_0 rfl rfl rfl rfl ⟨by decide, by decide⟩ (Nat.le_of_ble_eq_true rfl) dX10_shares_91 (fun r_8 => ?_)
      refine s_istore (pc := 94) X [some (.ref (ad 0)), some (.int l1), some (.int l2), some (.int l3), some (.int r_8)] rfl (by decide) dX10_shares_94 ?_
      refine s_iload (pc := 96) X rfl dX10_shares_96 ?_
      refine s_aload_n (pc := 98) X rfl dX10_shares_98 ?_
      refine s_getI (pc := 99) X shM_0 rfl fl_RX10_188 dX10_shares_99 ?_
      refine s_jn (fun (k_9 : Int32 → Res) => ∀ (v_10 : Int32), Sim p l e ({ frames := 4, cells := 0, slots := 0, locals := 160 } : Room) s m args below meth c 5 (some .int) D cy ad shM A 110 [some (.ref (ad 0)), some (.int l1), none, some (.int l3), some (.int r_8)] [.int v_10] x (k_9 v_10)) ?_ (fun k_9 hk_9 => ?_)
      · intro v_10
        refine s_istore_n (pc := 110) X [some (.ref (ad 0)), some (.int l1), some (.int v_10), some (.int l3), some (.int r_8)] rfl (by decide) dX10_shares_110 ?_
        refine s_aload_n (pc := 111) X rfl dX10_shares_111 ?_
        refine s_iload (pc := 112) X rfl dX10_shares_112 ?_
        refine s_aload_n (pc := 114) X rfl dX10_shares_114 ?_
        refine s_getI (pc := 115) X shM_0 rfl fl_RX10_188 dX10_shares_115 ?_
        refine s_icmp_ge (pc := 118) X 126 rfl dX10_shares_118 ?_ ?_
        · refine s_aload_n (pc := 126) X rfl dX10_shares_126 ?_
          refine s_getI (pc := 127) X shM_0 rfl fl_RX10_188 dX10_shares_127 ?_
          refine s_put (pc := 130) X shM_0 rfl fp_RX10_188 dX10_shares_130 ?_
          refine s_letm (fun x_11 => ?_)
          refine s_iinc (pc := 133) X [some (.ref (ad 0)), some (.int l1), some (.int v_10), some (.int (l3 + 1)), some (.int r_8)] rfl (by decide) rfl ic_1 dX10_shares_133 ?_
          refine s_goto (pc := 136) X 83 rfl dX10_shares_136 ?_
          refine s_mask [true, true, true, true, false] ?_
          exact ih _ _ _
        · refine s_iload (pc := 121) X rfl dX10_shares_121 ?_
          refine s_goto (pc := 123) X 130 rfl dX10_shares_123 ?_
          refine s_put (pc := 130) X shM_0 rfl fp_RX10_188 dX10_shares_130 ?_
          refine s_letm (fun x_12 => ?_)
          refine s_iinc (pc := 133) X [some (.ref (ad 0)), some (.int l1), some (.int v_10), some (.int (l3 + 1)), some (.int r_8)] rfl (by decide) rfl ic_1 dX10_shares_133 ?_
          refine s_goto (pc := 136) X 83 rfl dX10_shares_136 ?_
          refine s_mask [true, true, true, true, false] ?_
          exact ih _ _ _
      · refine s_icmp_ge (pc := 102) X 109 rfl dX10_shares_102 ?_ ?_
        · refine s_iload_n (pc := 109) X rfl dX10_shares_109 ?_
          refine s_mask [true, true, false, true, true] ?_
          exact hk_9 _
        · refine s_iload_n (pc := 105) X rfl dX10_shares_105 ?_
          refine s_goto (pc := 106) X 110 rfl dX10_shares_106 ?_
          refine s_mask [true, true, false, true, true] ?_
          exact hk_9 _

def F_X10_shares (fu : Nat) (x : Mem) : Res :=
  (letm (wr x 0 34 0) (fun x_1 => (L_X10_shares_7 fu fu 0 x_1 (fun x_4 => (L_X10_shares_54 fu x_4 fu 1 0 (fun l1_6 => (letm (wr x_4 0 35 9999999) (fun x_7 => (L_X10_shares_83 fu l1_6 fu 0 0 x_7 (fun l2_13 x_14 => (some (l2_13, x_14))))))))))))
set_option maxRecDepth 100000 in
set_option maxHeartbeats 4000000 in
theorem c_X10_shares (l : Launch) (D : va_G) (cy : ClassId) (ad : Nat → Nat) (fu : Nat) (x : Mem) : Ct l D cy ad shM yX10_shares cX10_shares 5 (some .int) 4 160 [.ref (ad 0)] x (F_X10_shares fu x) := by
  refine ct_of [some (.ref (ad 0)), none, none, none, none] (by decide) (Nat.le_of_ble_eq_true rfl) rfl rfl ?_
  intro p e s m args below meth c A X
  have X : Cx p s m args meth c RX10 cX10_shares 5 (some .int) D cy ad shM A := X
  unfold F_X10_shares
  refine s_aload_n (pc := 0) X rfl dX10_shares_0 ?_
  refine s_iconst (pc := 1) X ic_0 dX10_shares_1 ?_
  refine s_put (pc := 2) X shM_0 rfl fp_RX10_184 dX10_shares_2 ?_
  refine s_letm (fun x_1 => ?_)
  refine s_iconst (pc := 5) X ic_0 dX10_shares_5 ?_
  refine s_istore_n (pc := 6) X [some (.ref (ad 0)), some (.int 0), none, none, none] rfl (by decide) dX10_shares_6 ?_
  refine tL_X10_shares_7 X (fun x_4 => ?_) fu _ _
  refine s_iconst (pc := 50) X ic_1 dX10_shares_50 ?_
  refine s_istore_n (pc := 51) X [some (.ref (ad 0)), some (.int 1), none, none, none] rfl (by decide) dX10_shares_51 ?_
  refine s_iconst (pc := 52) X ic_0 dX10_shares_52 ?_
  refine s_istore_n (pc := 53) X [some (.ref (ad 0)), some (.int 1), some (.int 0), none, none] rfl (by decide) dX10_shares_53 ?_
  refine tL_X10_shares_54 X (fun l1_6 => ?_) fu _ _
  refine s_iconst (pc := 73) X ic_0 dX10_shares_73 ?_
  refine s_istore_n (pc := 74) X [some (.ref (ad 0)), some (.int l1_6), some (.int 0), none, none] rfl (by decide) dX10_shares_74 ?_
  refine s_aload_n (pc := 75) X rfl dX10_shares_75 ?_
  refine s_ldc (pc := 76) X k_RX10_187 dX10_shares_76 ?_
  refine s_put (pc := 78) X shM_0 rfl fp_RX10_188 dX10_shares_78 ?_
  refine s_letm (fun x_7 => ?_)
  refine s_iconst (pc := 81) X ic_0 dX10_shares_81 ?_
  refine s_istore_n (pc := 82) X [some (.ref (ad 0)), some (.int l1_6), some (.int 0), some (.int 0), none] rfl (by decide) dX10_shares_82 ?_
  refine tL_X10_shares_83 X (fun l2_13 x_14 => ?_) fu _ _ _
  refine s_iload_n (pc := 139) X rfl dX10_shares_139 ?_
  exact s_iret (pc := 140) X dX10_shares_140
