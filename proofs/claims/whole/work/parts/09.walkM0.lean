-- X10_in
def F_X10_in (fu : Nat) (l0 : Int32) (l1 : Int32) (l2 : Int32) (x : Mem) : Option Int32 :=
  (if l0 < l1 then (retzp 0) else (if l2 < l0 then (retzp 0) else (retzp 1)))
set_option maxRecDepth 100000 in
set_option maxHeartbeats 4000000 in
theorem c_X10_in (l : Launch) (D : va_G) (cy : ClassId) (ad : Nat → Nat) (fu : Nat) (l0 : Int32) (l1 : Int32) (l2 : Int32) (x : Mem) : Ct l D cy ad shM yX10_in cX10_in 3 (some .boolean) 1 40 [.int l0, .int l1, .int l2] x (pr (F_X10_in fu l0 l1 l2 x) x) := by
  refine ct_of [some (.int l0), some (.int l1), some (.int l2)] (by decide) (Nat.le_of_ble_eq_true rfl) rfl rfl ?_
  intro p e s m args below meth c A X
  have X : Cx p s m args meth c RX10 cX10_in 3 (some .boolean) D cy ad shM A := X
  unfold F_X10_in
  refine s_iload_n (pc := 0) X rfl dX10_in_0 ?_
  refine s_iload_n (pc := 1) X rfl dX10_in_1 ?_
  refine p_icmp_lt (pc := 2) X 14 rfl dX10_in_2 ?_ ?_
  · refine s_iconst (pc := 14) X ic_0 dX10_in_14 ?_
    exact p_zret (pc := 15) X dX10_in_15
  · refine s_iload_n (pc := 5) X rfl dX10_in_5 ?_
    refine s_iload_n (pc := 6) X rfl dX10_in_6 ?_
    refine p_icmp_gt (pc := 7) X 14 rfl dX10_in_7 ?_ ?_
    · refine s_iconst (pc := 14) X ic_0 dX10_in_14 ?_
      exact p_zret (pc := 15) X dX10_in_15
    · refine s_iconst (pc := 10) X ic_1 dX10_in_10 ?_
      refine s_goto (pc := 11) X 15 rfl dX10_in_11 ?_
      exact p_zret (pc := 15) X dX10_in_15

-- X10_size
def F_X10_size (fu : Nat) (l0 : Int32) (x : Mem) : Option Int32 :=
  (if 0 ≤ (l0 : Int32) then (some l0) else (some (-l0)))
set_option maxRecDepth 100000 in
set_option maxHeartbeats 4000000 in
theorem c_X10_size (l : Launch) (D : va_G) (cy : ClassId) (ad : Nat → Nat) (fu : Nat) (l0 : Int32) (x : Mem) : Ct l D cy ad shM yX10_size cX10_size 1 (some .int) 1 40 [.int l0] x (pr (F_X10_size fu l0 x) x) := by
  refine ct_of [some (.int l0)] (by decide) (Nat.le_of_ble_eq_true rfl) rfl rfl ?_
  intro p e s m args below meth c A X
  have X : Cx p s m args meth c RX10 cX10_size 1 (some .int) D cy ad shM A := X
  unfold F_X10_size
  refine s_iload_n (pc := 0) X rfl dX10_size_0 ?_
  refine p_if_ge (pc := 1) X 9 rfl dX10_size_1 ?_ ?_
  · refine s_iload_n (pc := 9) X rfl dX10_size_9 ?_
    exact p_iret (pc := 10) X dX10_size_10
  · refine s_iload_n (pc := 4) X rfl dX10_size_4 ?_
    refine s_ineg (pc := 5) X dX10_size_5 ?_
    refine s_goto (pc := 6) X 10 rfl dX10_size_6 ?_
    exact p_iret (pc := 10) X dX10_size_10

-- X10_bits
def L_X10_bits_4 (fu : Nat) (l0 : Int32) (x : Mem) : Nat → Int32 → Int32 → (Int32 → Option Int32) → Option Int32
  | 0, _, _, _ => none
  | n + 1, l1, l2, K => (if (24 : Int32) ≤ l2 then (K l1) else (letv (l1 + (((l0 : Int32) >>> (l2 &&& 31)) &&& 1)) (fun l1_1 => (L_X10_bits_4 fu l0 x n l1_1 (l2 + 1) K))))
set_option maxRecDepth 100000 in
set_option maxHeartbeats 4000000 in
theorem tL_X10_bits_4 {p : Program} {l : Launch} {e : Env} {s : State} {m : MethodId} {args : Array Value} {below : List Frame} {meth : Method} {c : Code} {D : va_G} {cy : ClassId} {ad : Nat → Nat} {A : Nat → Prop} {fu : Nat} (X : Cx p s m args meth c RX10 cX10_bits 3 (some .int) D cy ad shM A) {l0 : Int32} {x : Mem} {K : Int32 → Option Int32} (hK : ∀ (l1 : Int32), Sim p l e ({ frames := 1, cells := 0, slots := 0, locals := 40 } : Room) s m args below meth c 3 (some .int) D cy ad shM A 24 [none, some (.int l1), none] [] x (pr (K l1) x)) : ∀ (n : Nat) (l1 : Int32) (l2 : Int32), Sim p l e ({ frames := 1, cells := 0, slots := 0, locals := 40 } : Room) s m args below meth c 3 (some .int) D cy ad shM A 4 [some (.int l0), some (.int l1), some (.int l2)] [] x (pr (L_X10_bits_4 fu l0 x n l1 l2 K) x) := by
  intro n
  induction n with
  | zero =>
    intro l1 l2
    rw [L_X10_bits_4]
    exact p_none
  | succ n ih =>
    intro l1 l2
    rw [L_X10_bits_4]
    refine s_iload_n (pc := 4) X rfl dX10_bits_4 ?_
    refine s_bipush (pc := 5) X bp_24 dX10_bits_5 ?_
    refine p_icmp_ge (pc := 7) X 24 rfl dX10_bits_7 ?_ ?_
    · refine s_mask [false, true, false] ?_
      exact hK _
    · refine s_iload_n (pc := 10) X rfl dX10_bits_10 ?_
      refine s_iload_n (pc := 11) X rfl dX10_bits_11 ?_
      refine s_iload_n (pc := 12) X rfl dX10_bits_12 ?_
      refine s_ishr (pc := 13) X dX10_bits_13 ?_
      refine s_iconst (pc := 14) X ic_1 dX10_bits_14 ?_
      refine s_iand (pc := 15) X dX10_bits_15 ?_
      refine s_iadd (pc := 16) X dX10_bits_16 ?_
      refine p_letv (fun l1_1 => ?_)
      refine s_istore_n (pc := 17) X [some (.int l0), some (.int l1_1), some (.int l2)] rfl (by decide) dX10_bits_17 ?_
      refine s_iinc (pc := 18) X [some (.int l0), some (.int l1_1), some (.int (l2 + 1))] rfl (by decide) rfl ic_1 dX10_bits_18 ?_
      refine s_goto (pc := 21) X 4 rfl dX10_bits_21 ?_
      exact ih _ _

def F_X10_bits (fu : Nat) (l0 : Int32) (x : Mem) : Option Int32 :=
  (L_X10_bits_4 fu l0 x fu 0 0 (fun l1_2 => (some l1_2)))
set_option maxRecDepth 100000 in
set_option maxHeartbeats 4000000 in
theorem c_X10_bits (l : Launch) (D : va_G) (cy : ClassId) (ad : Nat → Nat) (fu : Nat) (l0 : Int32) (x : Mem) : Ct l D cy ad shM yX10_bits cX10_bits 3 (some .int) 1 40 [.int l0] x (pr (F_X10_bits fu l0 x) x) := by
  refine ct_of [some (.int l0), none, none] (by decide) (Nat.le_of_ble_eq_true rfl) rfl rfl ?_
  intro p e s m args below meth c A X
  have X : Cx p s m args meth c RX10 cX10_bits 3 (some .int) D cy ad shM A := X
  unfold F_X10_bits
  refine s_iconst (pc := 0) X ic_0 dX10_bits_0 ?_
  refine s_istore_n (pc := 1) X [some (.int l0), some (.int 0), none] rfl (by decide) dX10_bits_1 ?_
  refine s_iconst (pc := 2) X ic_0 dX10_bits_2 ?_
  refine s_istore_n (pc := 3) X [some (.int l0), some (.int 0), some (.int 0)] rfl (by decide) dX10_bits_3 ?_
  refine tL_X10_bits_4 X (fun l1_2 => ?_) fu _ _
  refine s_iload_n (pc := 24) X rfl dX10_bits_24 ?_
  exact p_iret (pc := 25) X dX10_bits_25

-- X10_isPull
def F_X10_isPull (fu : Nat) (l1 : Int32) (x : Mem) : Option Int32 :=
  (clp (F_X10_in fu l1 0 ((x 0 4) - 1) x) (fun r_1 => (retzp r_1)))
set_option maxRecDepth 100000 in
set_option maxHeartbeats 4000000 in
theorem c_X10_isPull (l : Launch) (D : va_G) (cy : ClassId) (ad : Nat → Nat) (fu : Nat) (l1 : Int32) (x : Mem) : Ct l D cy ad shM yX10_isPull cX10_isPull 2 (some .boolean) 2 80 [.ref (ad 0), .int l1] x (pr (F_X10_isPull fu l1 x) x) := by
  refine ct_of [some (.ref (ad 0)), some (.int l1)] (by decide) (Nat.le_of_ble_eq_true rfl) rfl rfl ?_
  intro p e s m args below meth c A X
  have X : Cx p s m args meth c RX10 cX10_isPull 2 (some .boolean) D cy ad shM A := X
  unfold F_X10_isPull
  refine s_iload_n (pc := 0) X rfl dX10_isPull_0 ?_
  refine s_iconst (pc := 1) X ic_0 dX10_isPull_1 ?_
  refine s_aload_n (pc := 2) X rfl dX10_isPull_2 ?_
  refine s_getI (pc := 3) X shM_0 rfl fl_RX10_91 dX10_isPull_3 ?_
  refine s_iconst (pc := 6) X ic_1 dX10_isPull_6 ?_
  refine s_isub (pc := 7) X dX10_isPull_7 ?_
  refine p_callS (pc := 8) (As := [.int l1, .int 0, .int ((x 0 4) - 1)]) (st := []) X lk_RX10_95 (c_X10_in l D cy ad fu _ _ _ _) rfl rfl ⟨by decide, by decide⟩ (Nat.le_of_ble_eq_true rfl) dX10_isPull_8 (fun r_1 => ?_)
  exact p_zret (pc := 11) X dX10_isPull_11

-- X10_crank
def F_X10_crank (fu : Nat) (l1 : Int32) (l2 : Int32) (x : Mem) : Res :=
  (clp (F_X10_in fu l1 0 15 x) (fun r_1 => (if r_1 = 0 then (some ((-1), x)) else (clp (F_X10_in fu l2 0 10 x) (fun r_2 => (if r_2 = 0 then (some ((-1), x)) else (chk l1 16 (letv (x 1 (l1 : Int32).toNatClampNeg) (fun l3_3 => (chk l1 16 (letm (wr x 1 (l1 : Int32).toNatClampNeg l2) (fun x_4 => (some (l3_3, x_4))))))))))))))
set_option maxRecDepth 100000 in
set_option maxHeartbeats 4000000 in
theorem c_X10_crank (l : Launch) (D : va_G) (cy : ClassId) (ad : Nat → Nat) (fu : Nat) (l1 : Int32) (l2 : Int32) (x : Mem) : Ct l D cy ad shM yX10_crank cX10_crank 4 (some .int) 2 80 [.ref (ad 0), .int l1, .int l2] x (F_X10_crank fu l1 l2 x) := by
  refine ct_of [some (.ref (ad 0)), some (.int l1), some (.int l2), none] (by decide) (Nat.le_of_ble_eq_true rfl) rfl rfl ?_
  intro p e s m args below meth c A X
  have X : Cx p s m args meth c RX10 cX10_crank 4 (some .int) D cy ad shM A := X
  unfold F_X10_crank
  refine s_iload_n (pc := 0) X rfl dX10_crank_0 ?_
  refine s_iconst (pc := 1) X ic_0 dX10_crank_1 ?_
  refine s_bipush (pc := 2) X bp_15 dX10_crank_2 ?_
  refine s_callSp (pc := 4) (As := [.int l1, .int 0, .int 15]) (st := []) X lk_RX10_95 (c_X10_in l D cy ad fu _ _ _ _) rfl rfl ⟨by decide, by decide⟩ (Nat.le_of_ble_eq_true rfl) dX10_crank_4 (fun r_1 => ?_)
  refine s_if_eq (pc := 7) X 20 rfl dX10_crank_7 ?_ ?_
  · refine s_iconst (pc := 20) X ic_m1 dX10_crank_20 ?_
    exact s_iret (pc := 21) X dX10_crank_21
  · refine s_iload_n (pc := 10) X rfl dX10_crank_10 ?_
    refine s_iconst (pc := 11) X ic_0 dX10_crank_11 ?_
    refine s_bipush (pc := 12) X bp_10 dX10_crank_12 ?_
    refine s_callSp (pc := 14) (As := [.int l2, .int 0, .int 10]) (st := []) X lk_RX10_95 (c_X10_in l D cy ad fu _ _ _ _) rfl rfl ⟨by decide, by decide⟩ (Nat.le_of_ble_eq_true rfl) dX10_crank_14 (fun r_2 => ?_)
    refine s_if_ne (pc := 17) X 22 rfl dX10_crank_17 ?_ ?_
    · refine s_aload_n (pc := 22) X rfl dX10_crank_22 ?_
      refine s_getR (pc := 23) X shM_0 rfl fl_RX10_7 dX10_crank_23 ?_
      refine s_iload_n (pc := 26) X rfl dX10_crank_26 ?_
      refine s_iald (pc := 27) X shM_1 dX10_crank_27 ?_
      refine s_letv (fun l3_3 => ?_)
      refine s_istore_n (pc := 28) X [some (.ref (ad 0)), some (.int l1), some (.int l2), some (.int l3_3)] rfl (by decide) dX10_crank_28 ?_
      refine s_aload_n (pc := 29) X rfl dX10_crank_29 ?_
      refine s_getR (pc := 30) X shM_0 rfl fl_RX10_7 dX10_crank_30 ?_
      refine s_iload_n (pc := 33) X rfl dX10_crank_33 ?_
      refine s_iload_n (pc := 34) X rfl dX10_crank_34 ?_
      refine s_iast (pc := 35) X shM_1 dX10_crank_35 ?_
      refine s_letm (fun x_4 => ?_)
      refine s_iload_n (pc := 36) X rfl dX10_crank_36 ?_
      exact s_iret (pc := 37) X dX10_crank_37
    · refine s_iconst (pc := 20) X ic_m1 dX10_crank_20 ?_
      exact s_iret (pc := 21) X dX10_crank_21

-- X10_bell
def F_X10_bell (fu : Nat) (l1 : Int32) (l2 : Int32) (l3 : Int32) (x : Mem) : Res :=
  (clp (F_X10_in fu l1 0 7 x) (fun r_1 => (if r_1 = 0 then (some ((-1), x)) else (clp (F_X10_in fu l2 0 1 x) (fun r_2 => (if r_2 = 0 then (some ((-1), x)) else (jn (fun (k_3 : Int32 → Res) => (if l2 = 0 then (k_3 5) else (k_3 1))) (fun v_4 => (clp (F_X10_in fu l3 0 v_4 x) (fun r_5 => (if r_5 = 0 then (some ((-1), x)) else (jn (fun (k_6 : Int32 → Res) => (if l2 = 0 then (chk l1 8 (k_6 (x 2 (l1 : Int32).toNatClampNeg))) else (chk l1 8 (k_6 (x 3 (l1 : Int32).toNatClampNeg))))) (fun v_7 => (jn (fun (k_8 : Int32 → Res) => (if l2 = 0 then (k_8 l3) else (chk l1 8 (k_8 (x 2 (l1 : Int32).toNatClampNeg))))) (fun v_9 => (chk l1 8 (letm (wr x 2 (l1 : Int32).toNatClampNeg v_9) (fun x_10 => (if l2 = 1 then (chk l1 8 (letm (wr x_10 3 (l1 : Int32).toNatClampNeg l3) (fun x_12 => (some (v_7, x_12))))) else (chk l1 8 (chk l1 8 (letm (wr x_10 3 (l1 : Int32).toNatClampNeg (x_10 3 (l1 : Int32).toNatClampNeg)) (fun x_11 => (some (v_7, x_11)))))))))))))))))))))))))
set_option maxRecDepth 100000 in
set_option maxHeartbeats 4000000 in
theorem c_X10_bell (l : Launch) (D : va_G) (cy : ClassId) (ad : Nat → Nat) (fu : Nat) (l1 : Int32) (l2 : Int32) (l3 : Int32) (x : Mem) : Ct l D cy ad shM yX10_bell cX10_bell 5 (some .int) 2 80 [.ref (ad 0), .int l1, .int l2, .int l3] x (F_X10_bell fu l1 l2 l3 x) := by
  refine ct_of [some (.ref (ad 0)), some (.int l1), some (.int l2), some (.int l3), none] (by decide) (Nat.le_of_ble_eq_true rfl) rfl rfl ?_
  intro p e s m args below meth c A X
  have X : Cx p s m args meth c RX10 cX10_bell 5 (some .int) D cy ad shM A := X
  unfold F_X10_bell
  refine s_iload_n (pc := 0) X rfl dX10_bell_0 ?_
  refine s_iconst (pc := 1) X ic_0 dX10_bell_1 ?_
  refine s_bipush (pc := 2) X bp_7 dX10_bell_2 ?_
  refine s_callSp (pc := 4) (As := [.int l1, .int 0, .int 7]) (st := []) X lk_RX10_95 (c_X10_in l D cy ad fu _ _ _ _) rfl rfl ⟨by decide, by decide⟩ (Nat.le_of_ble_eq_true rfl) dX10_bell_4 (fun r_1 => ?_)
  refine s_if_eq (pc := 7) X 36 rfl dX10_bell_7 ?_ ?_
  · refine s_iconst (pc := 36) X ic_m1 dX10_bell_36 ?_
    exact s_iret (pc := 37) X dX10_bell_37
  · refine s_iload_n (pc := 10) X rfl dX10_bell_10 ?_
    refine s_iconst (pc := 11) X ic_0 dX10_bell_11 ?_
    refine s_iconst (pc := 12) X ic_1 dX10_bell_12 ?_
    refine s_callSp (pc := 13) (As := [.int l2, .int 0, .int 1]) (st := []) X lk_RX10_95 (c_X10_in l D cy ad fu _ _ _ _) rfl rfl ⟨by decide, by decide⟩ (Nat.le_of_ble_eq_true rfl) dX10_bell_13 (fun r_2 => ?_)
    refine s_if_eq (pc := 16) X 36 rfl dX10_bell_16 ?_ ?_
    · refine s_iconst (pc := 36) X ic_m1 dX10_bell_36 ?_
      exact s_iret (pc := 37) X dX10_bell_37
    · refine s_iload_n (pc := 19) X rfl dX10_bell_19 ?_
      refine s_iconst (pc := 20) X ic_0 dX10_bell_20 ?_
      refine s_iload_n (pc := 21) X rfl dX10_bell_21 ?_
      refine s_jn (fun (k_3 : Int32 → Res) => ∀ (v_4 : Int32), Sim p l e ({ frames := 2, cells := 0, slots := 0, locals := 80 } : Room) s m args below meth c 5 (some .int) D cy ad shM A 30 [some (.ref (ad 0)), some (.int l1), some (.int l2), some (.int l3), none] [.int v_4, .int 0, .int l3] x (k_3 v_4)) ?_ (fun k_3 hk_3 => ?_)
      · intro v_4
        refine s_callSp (pc := 30) (As := [.int l3, .int 0, .int v_4]) (st := []) X lk_RX10_95 (c_X10_in l D cy ad fu _ _ _ _) rfl rfl ⟨by decide, by decide⟩ (Nat.le_of_ble_eq_true rfl) dX10_bell_30 (fun r_5 => ?_)
        refine s_if_ne (pc := 33) X 38 rfl dX10_bell_33 ?_ ?_
        · refine s_iload_n (pc := 38) X rfl dX10_bell_38 ?_
          refine s_jn (fun (k_6 : Int32 → Res) => ∀ (v_7 : Int32), Sim p l e ({ frames := 2, cells := 0, slots := 0, locals := 80 } : Room) s m args below meth c 5 (some .int) D cy ad shM A 57 [some (.ref (ad 0)), some (.int l1), some (.int l2), some (.int l3), none] [.int v_7] x (k_6 v_7)) ?_ (fun k_6 hk_6 => ?_)
          · intro v_7
            refine s_istore (pc := 57) X [some (.ref (ad 0)), some (.int l1), some (.int l2), some (.int l3), some (.int v_7)] rfl (by decide) dX10_bell_57 ?_
            refine s_aload_n (pc := 59) X rfl dX10_bell_59 ?_
            refine s_getR (pc := 60) X shM_0 rfl fl_RX10_13 dX10_bell_60 ?_
            refine s_iload_n (pc := 63) X rfl dX10_bell_63 ?_
            refine s_iload_n (pc := 64) X rfl dX10_bell_64 ?_
            refine s_jn (fun (k_8 : Int32 → Res) => ∀ (v_9 : Int32), Sim p l e ({ frames := 2, cells := 0, slots := 0, locals := 80 } : Room) s m args below meth c 5 (some .int) D cy ad shM A 78 [some (.ref (ad 0)), some (.int l1), some (.int l2), some (.int l3), some (.int v_7)] [.int v_9, .int l1, .ref (ad 2)] x (k_8 v_9)) ?_ (fun k_8 hk_8 => ?_)
            · intro v_9
              refine s_iast (pc := 78) X shM_2 dX10_bell_78 ?_
              refine s_letm (fun x_10 => ?_)
              refine s_aload_n (pc := 79) X rfl dX10_bell_79 ?_
              refine s_getR (pc := 80) X shM_0 rfl fl_RX10_16 dX10_bell_80 ?_
              refine s_iload_n (pc := 83) X rfl dX10_bell_83 ?_
              refine s_iload_n (pc := 84) X rfl dX10_bell_84 ?_
              refine s_iconst (pc := 85) X ic_1 dX10_bell_85 ?_
              refine s_icmp_ne (pc := 86) X 93 rfl dX10_bell_86 ?_ ?_
              · refine s_aload_n (pc := 93) X rfl dX10_bell_93 ?_
                refine s_getR (pc := 94) X shM_0 rfl fl_RX10_16 dX10_bell_94 ?_
                refine s_iload_n (pc := 97) X rfl dX10_bell_97 ?_
                refine s_iald (pc := 98) X shM_3 dX10_bell_98 ?_
                refine s_iast (pc := 99) X shM_3 dX10_bell_99 ?_
                refine s_letm (fun x_11 => ?_)
                refine s_iload (pc := 100) X rfl dX10_bell_100 ?_
                exact s_iret (pc := 102) X dX10_bell_102
              · refine s_iload_n (pc := 89) X rfl dX10_bell_89 ?_
                refine s_goto (pc := 90) X 99 rfl dX10_bell_90 ?_
                refine s_iast (pc := 99) X shM_3 dX10_bell_99 ?_
                refine s_letm (fun x_12 => ?_)
                refine s_iload (pc := 100) X rfl dX10_bell_100 ?_
                exact s_iret (pc := 102) X dX10_bell_102
            · refine s_if_ne (pc := 65) X 72 rfl dX10_bell_65 ?_ ?_
              · refine s_aload_n (pc := 72) X rfl dX10_bell_72 ?_
                refine s_getR (pc := 73) X shM_0 rfl fl_RX10_13 dX10_bell_73 ?_
                refine s_iload_n (pc := 76) X rfl dX10_bell_76 ?_
                refine s_iald (pc := 77) X shM_2 dX10_bell_77 ?_
                exact hk_8 _
              · refine s_iload_n (pc := 68) X rfl dX10_bell_68 ?_
                refine s_goto (pc := 69) X 78 rfl dX10_bell_69 ?_
                exact hk_8 _
          · refine s_if_ne (pc := 39) X 51 rfl dX10_bell_39 ?_ ?_
            · refine s_aload_n (pc := 51) X rfl dX10_bell_51 ?_
              refine s_getR (pc := 52) X shM_0 rfl fl_RX10_16 dX10_bell_52 ?_
              refine s_iload_n (pc := 55) X rfl dX10_bell_55 ?_
              refine s_iald (pc := 56) X shM_3 dX10_bell_56 ?_
              exact hk_6 _
            · refine s_aload_n (pc := 42) X rfl dX10_bell_42 ?_
              refine s_getR (pc := 43) X shM_0 rfl fl_RX10_13 dX10_bell_43 ?_
              refine s_iload_n (pc := 46) X rfl dX10_bell_46 ?_
              refine s_iald (pc := 47) X shM_2 dX10_bell_47 ?_
              refine s_goto (pc := 48) X 57 rfl dX10_bell_48 ?_
              exact hk_6 _
        · refine s_iconst (pc := 36) X ic_m1 dX10_bell_36 ?_
          exact s_iret (pc := 37) X dX10_bell_37
      · refine s_if_ne (pc := 22) X 29 rfl dX10_bell_22 ?_ ?_
        · refine s_iconst (pc := 29) X ic_1 dX10_bell_29 ?_
          exact hk_3 _
        · refine s_iconst (pc := 25) X ic_5 dX10_bell_25 ?_
          refine s_goto (pc := 26) X 30 rfl dX10_bell_26 ?_
          exact hk_3 _

-- X10_heat
def F_X10_heat (fu : Nat) (l1 : Int32) (x : Mem) : Res :=
  (clp (F_X10_in fu l1 0 40 x) (fun r_1 => (if r_1 = 0 then (some ((-1), x)) else (letv (x 0 3) (fun l2_2 => (letm (wr x 0 3 l1) (fun x_3 => (some (l2_2, x_3)))))))))
set_option maxRecDepth 100000 in
set_option maxHeartbeats 4000000 in
theorem c_X10_heat (l : Launch) (D : va_G) (cy : ClassId) (ad : Nat → Nat) (fu : Nat) (l1 : Int32) (x : Mem) : Ct l D cy ad shM yX10_heat cX10_heat 3 (some .int) 2 80 [.ref (ad 0), .int l1] x (F_X10_heat fu l1 x) := by
  refine ct_of [some (.ref (ad 0)), some (.int l1), none] (by decide) (Nat.le_of_ble_eq_true rfl) rfl rfl ?_
  intro p e s m args below meth c A X
  have X : Cx p s m args meth c RX10 cX10_heat 3 (some .int) D cy ad shM A := X
  unfold F_X10_heat
  refine s_iload_n (pc := 0) X rfl dX10_heat_0 ?_
  refine s_iconst (pc := 1) X ic_0 dX10_heat_1 ?_
  refine s_bipush (pc := 2) X bp_40 dX10_heat_2 ?_
  refine s_callSp (pc := 4) (As := [.int l1, .int 0, .int 40]) (st := []) X lk_RX10_95 (c_X10_in l D cy ad fu _ _ _ _) rfl rfl ⟨by decide, by decide⟩ (Nat.le_of_ble_eq_true rfl) dX10_heat_4 (fun r_1 => ?_)
  refine s_if_ne (pc := 7) X 12 rfl dX10_heat_7 ?_ ?_
  · refine s_aload_n (pc := 12) X rfl dX10_heat_12 ?_
    refine s_getI (pc := 13) X shM_0 rfl fl_RX10_99 dX10_heat_13 ?_
    refine s_letv (fun l2_2 => ?_)
    refine s_istore_n (pc := 16) X [some (.ref (ad 0)), some (.int l1), some (.int l2_2)] rfl (by decide) dX10_heat_16 ?_
    refine s_aload_n (pc := 17) X rfl dX10_heat_17 ?_
    refine s_iload_n (pc := 18) X rfl dX10_heat_18 ?_
    refine s_put (pc := 19) X shM_0 rfl fp_RX10_99 dX10_heat_19 ?_
    refine s_letm (fun x_3 => ?_)
    refine s_iload_n (pc := 22) X rfl dX10_heat_22 ?_
    exact s_iret (pc := 23) X dX10_heat_23
  · refine s_iconst (pc := 10) X ic_m1 dX10_heat_10 ?_
    exact s_iret (pc := 11) X dX10_heat_11

-- X10_pull
def F_X10_pull (fu : Nat) (l1 : Int32) (l2 : Int32) (l3 : Int32) (l4 : Int32) (l5 : Int32) (x : Mem) : Res :=
  (clp (F_X10_in fu l1 0 3 x) (fun r_1 => (if r_1 = 0 then (some ((-1), x)) else (clp (F_X10_in fu l2 0 30 x) (fun r_2 => (if r_2 = 0 then (some ((-1), x)) else (clp (F_X10_in fu l3 0 4 x) (fun r_3 => (if r_3 = 0 then (some ((-1), x)) else (clp (F_X10_in fu l4 0 7 x) (fun r_4 => (if r_4 = 0 then (some ((-1), x)) else (clp (F_X10_in fu l5 1 65535 x) (fun r_5 => (if r_5 = 0 then (some ((-1), x)) else (clp (F_X10_bits fu l5 x) (fun r_6 => (if r_6 ≤ 5 then (if (x 0 4) = 12 then (some ((-3), x)) else (chk (x 0 4) 12 (letm (wr x 4 ((x 0 4) : Int32).toNatClampNeg l1) (fun x_7 => (chk (x_7 0 4) 12 (letm (wr x_7 5 ((x_7 0 4) : Int32).toNatClampNeg l2) (fun x_8 => (chk (x_8 0 4) 12 (letm (wr x_8 6 ((x_8 0 4) : Int32).toNatClampNeg l3) (fun x_9 => (chk (x_9 0 4) 12 (letm (wr x_9 7 ((x_9 0 4) : Int32).toNatClampNeg l4) (fun x_10 => (chk (x_10 0 4) 12 (letm (wr x_10 8 ((x_10 0 4) : Int32).toNatClampNeg l5) (fun x_11 => (letm (wr x_11 0 4 ((x_11 0 4) + 1)) (fun x_12 => (some (((x_12 0 4) - 1), x_12)))))))))))))))))))) else (some ((-1), x))))))))))))))))))))
set_option maxRecDepth 100000 in
set_option maxHeartbeats 4000000 in
theorem c_X10_pull (l : Launch) (D : va_G) (cy : ClassId) (ad : Nat → Nat) (fu : Nat) (l1 : Int32) (l2 : Int32) (l3 : Int32) (l4 : Int32) (l5 : Int32) (x : Mem) : Ct l D cy ad shM yX10_pull cX10_pull 6 (some .int) 2 80 [.ref (ad 0), .int l1, .int l2, .int l3, .int l4, .int l5] x (F_X10_pull fu l1 l2 l3 l4 l5 x) := by
  refine ct_of [some (.ref (ad 0)), some (.int l1), some (.int l2), some (.int l3), some (.int l4), some (.int l5)] (by decide) (Nat.le_of_ble_eq_true rfl) rfl rfl ?_
  intro p e s m args below meth c A X
  have X : Cx p s m args meth c RX10 cX10_pull 6 (some .int) D cy ad shM A := X
  unfold F_X10_pull
  refine s_iload_n (pc := 0) X rfl dX10_pull_0 ?_
  refine s_iconst (pc := 1) X ic_0 dX10_pull_1 ?_
  refine s_iconst (pc := 2) X ic_3 dX10_pull_2 ?_
  refine s_callSp (pc := 3) (As := [.int l1, .int 0, .int 3]) (st := []) X lk_RX10_95 (c_X10_in l D cy ad fu _ _ _ _) rfl rfl ⟨by decide, by decide⟩ (Nat.le_of_ble_eq_true rfl) dX10_pull_3 (fun r_1 => ?_)
  refine s_if_eq (pc := 6) X 59 rfl dX10_pull_6 ?_ ?_
  · refine s_iconst (pc := 59) X ic_m1 dX10_pull_59 ?_
    exact s_iret (pc := 60) X dX10_pull_60
  · refine s_iload_n (pc := 9) X rfl dX10_pull_9 ?_
    refine s_iconst (pc := 10) X ic_0 dX10_pull_10 ?_
    refine s_bipush (pc := 11) X bp_30 dX10_pull_11 ?_
    refine s_callSp (pc := 13) (As := [.int l2, .int 0, .int 30]) (st := []) X lk_RX10_95 (c_X10_in l D cy ad fu _ _ _ _) rfl rfl ⟨by decide, by decide⟩ (Nat.le_of_ble_eq_true rfl) dX10_pull_13 (fun r_2 => ?_)
    refine s_if_eq (pc := 16) X 59 rfl dX10_pull_16 ?_ ?_
    · refine s_iconst (pc := 59) X ic_m1 dX10_pull_59 ?_
      exact s_iret (pc := 60) X dX10_pull_60
    · refine s_iload_n (pc := 19) X rfl dX10_pull_19 ?_
      refine s_iconst (pc := 20) X ic_0 dX10_pull_20 ?_
      refine s_iconst (pc := 21) X ic_4 dX10_pull_21 ?_
      refine s_callSp (pc := 22) (As := [.int l3, .int 0, .int 4]) (st := []) X lk_RX10_95 (c_X10_in l D cy ad fu _ _ _ _) rfl rfl ⟨by decide, by decide⟩ (Nat.le_of_ble_eq_true rfl) dX10_pull_22 (fun r_3 => ?_)
      refine s_if_eq (pc := 25) X 59 rfl dX10_pull_25 ?_ ?_
      · refine s_iconst (pc := 59) X ic_m1 dX10_pull_59 ?_
        exact s_iret (pc := 60) X dX10_pull_60
      · refine s_iload (pc := 28) X rfl dX10_pull_28 ?_
        refine s_iconst (pc := 30) X ic_0 dX10_pull_30 ?_
        refine s_bipush (pc := 31) X bp_7 dX10_pull_31 ?_
        refine s_callSp (pc := 33) (As := [.int l4, .int 0, .int 7]) (st := []) X lk_RX10_95 (c_X10_in l D cy ad fu _ _ _ _) rfl rfl ⟨by decide, by decide⟩ (Nat.le_of_ble_eq_true rfl) dX10_pull_33 (fun r_4 => ?_)
        refine s_if_eq (pc := 36) X 59 rfl dX10_pull_36 ?_ ?_
        · refine s_iconst (pc := 59) X ic_m1 dX10_pull_59 ?_
          exact s_iret (pc := 60) X dX10_pull_60
        · refine s_iload (pc := 39) X rfl dX10_pull_39 ?_
          refine s_iconst (pc := 41) X ic_1 dX10_pull_41 ?_
          refine s_ldc (pc := 42) X k_RX10_102 dX10_pull_42 ?_
          refine s_callSp (pc := 44) (As := [.int l5, .int 1, .int 65535]) (st := []) X lk_RX10_95 (c_X10_in l D cy ad fu _ _ _ _) rfl rfl ⟨by decide, by decide⟩ (Nat.le_of_ble_eq_true rfl) dX10_pull_44 (fun r_5 => ?_)
          refine s_if_eq (pc := 47) X 59 rfl dX10_pull_47 ?_ ?_
          · refine s_iconst (pc := 59) X ic_m1 dX10_pull_59 ?_
            exact s_iret (pc := 60) X dX10_pull_60
          · refine s_iload (pc := 50) X rfl dX10_pull_50 ?_
            refine s_callSp (pc := 52) (As := [.int l5]) (st := []) X lk_RX10_103 (c_X10_bits l D cy ad fu _ _) rfl rfl ⟨by decide, by decide⟩ (Nat.le_of_ble_eq_true rfl) dX10_pull_52 (fun r_6 => ?_)
            refine s_iconst (pc := 55) X ic_5 dX10_pull_55 ?_
            refine s_icmp_le (pc := 56) X 61 rfl dX10_pull_56 ?_ ?_
            · refine s_aload_n (pc := 61) X rfl dX10_pull_61 ?_
              refine s_getI (pc := 62) X shM_0 rfl fl_RX10_91 dX10_pull_62 ?_
              refine s_bipush (pc := 65) X bp_12 dX10_pull_65 ?_
              refine s_icmp_ne (pc := 67) X 73 rfl dX10_pull_67 ?_ ?_
              · refine s_aload_n (pc := 73) X rfl dX10_pull_73 ?_
                refine s_getR (pc := 74) X shM_0 rfl fl_RX10_19 dX10_pull_74 ?_
                refine s_aload_n (pc := 77) X rfl dX10_pull_77 ?_
                refine s_getI (pc := 78) X shM_0 rfl fl_RX10_91 dX10_pull_78 ?_
                refine s_iload_n (pc := 81) X rfl dX10_pull_81 ?_
                refine s_iast (pc := 82) X shM_4 dX10_pull_82 ?_
                refine s_letm (fun x_7 => ?_)
                refine s_aload_n (pc := 83) X rfl dX10_pull_83 ?_
                refine s_getR (pc := 84) X shM_0 rfl fl_RX10_22 dX10_pull_84 ?_
                refine s_aload_n (pc := 87) X rfl dX10_pull_87 ?_
                refine s_getI (pc := 88) X shM_0 rfl fl_RX10_91 dX10_pull_88 ?_
                refine s_iload_n (pc := 91) X rfl dX10_pull_91 ?_
                refine s_iast (pc := 92) X shM_5 dX10_pull_92 ?_
                refine s_letm (fun x_8 => ?_)
                refine s_aload_n (pc := 93) X rfl dX10_pull_93 ?_
                refine s_getR (pc := 94) X shM_0 rfl fl_RX10_25 dX10_pull_94 ?_
                refine s_aload_n (pc := 97) X rfl dX10_pull_97 ?_
                refine s_getI (pc := 98) X shM_0 rfl fl_RX10_91 dX10_pull_98 ?_
                refine s_iload_n (pc := 101) X rfl dX10_pull_101 ?_
                refine s_iast (pc := 102) X shM_6 dX10_pull_102 ?_
                refine s_letm (fun x_9 => ?_)
                refine s_aload_n (pc := 103) X rfl dX10_pull_103 ?_
                refine s_getR (pc := 104) X shM_0 rfl fl_RX10_28 dX10_pull_104 ?_
                refine s_aload_n (pc := 107) X rfl dX10_pull_107 ?_
                refine s_getI (pc := 108) X shM_0 rfl fl_RX10_91 dX10_pull_108 ?_
                refine s_iload (pc := 111) X rfl dX10_pull_111 ?_
                refine s_iast (pc := 113) X shM_7 dX10_pull_113 ?_
                refine s_letm (fun x_10 => ?_)
                refine s_aload_n (pc := 114) X rfl dX10_pull_114 ?_
                refine s_getR (pc := 115) X shM_0 rfl fl_RX10_31 dX10_pull_115 ?_
                refine s_aload_n (pc := 118) X rfl dX10_pull_118 ?_
                refine s_getI (pc := 119) X shM_0 rfl fl_RX10_91 dX10_pull_119 ?_
                refine s_iload (pc := 122) X rfl dX10_pull_122 ?_
                refine s_iast (pc := 124) X shM_8 dX10_pull_124 ?_
                refine s_letm (fun x_11 => ?_)
                refine s_aload_n (pc := 125) X rfl dX10_pull_125 ?_
                refine s_dup (pc := 126) X rfl dX10_pull_126 ?_
                refine s_getI (pc := 127) X shM_0 rfl fl_RX10_91 dX10_pull_127 ?_
                refine s_iconst (pc := 130) X ic_1 dX10_pull_130 ?_
                refine s_iadd (pc := 131) X dX10_pull_131 ?_
                refine s_put (pc := 132) X shM_0 rfl fp_RX10_91 dX10_pull_132 ?_
                refine s_letm (fun x_12 => ?_)
                refine s_aload_n (pc := 135) X rfl dX10_pull_135 ?_
                refine s_getI (pc := 136) X shM_0 rfl fl_RX10_91 dX10_pull_136 ?_
                refine s_iconst (pc := 139) X ic_1 dX10_pull_139 ?_
                refine s_isub (pc := 140) X dX10_pull_140 ?_
                exact s_iret (pc := 141) X dX10_pull_141
              · refine s_bipush (pc := 70) X bp_m3 dX10_pull_70 ?_
                exact s_iret (pc := 72) X dX10_pull_72
            · refine s_iconst (pc := 59) X ic_m1 dX10_pull_59 ?_
              exact s_iret (pc := 60) X dX10_pull_60

-- X10_areCrossed
def L_X10_areCrossed_5 (fu : Nat) (l1 : Int32) (l2 : Int32) (x : Mem) : Nat → Int32 → Int32 → (Int32 → Option Int32) → Option Int32
  | 0, _, _, _ => none
  | n + 1, l3, l4, K => (if (x 0 10) ≤ l4 then (K l3) else (if l3 = 0 then (chk l4 4 (if (x 9 (l4 : Int32).toNatClampNeg) = l1 then (chk l4 4 (if (x 10 (l4 : Int32).toNatClampNeg) = l2 then (L_X10_areCrossed_5 fu l1 l2 x n 1 (l4 + 1) K) else (chk l4 4 (if (x 9 (l4 : Int32).toNatClampNeg) = l2 then (chk l4 4 (if (x 10 (l4 : Int32).toNatClampNeg) = l1 then (L_X10_areCrossed_5 fu l1 l2 x n 1 (l4 + 1) K) else (L_X10_areCrossed_5 fu l1 l2 x n 0 (l4 + 1) K))) else (L_X10_areCrossed_5 fu l1 l2 x n 0 (l4 + 1) K))))) else (chk l4 4 (if (x 9 (l4 : Int32).toNatClampNeg) = l2 then (chk l4 4 (if (x 10 (l4 : Int32).toNatClampNeg) = l1 then (L_X10_areCrossed_5 fu l1 l2 x n 1 (l4 + 1) K) else (L_X10_areCrossed_5 fu l1 l2 x n 0 (l4 + 1) K))) else (L_X10_areCrossed_5 fu l1 l2 x n 0 (l4 + 1) K))))) else (L_X10_areCrossed_5 fu l1 l2 x n 1 (l4 + 1) K)))
set_option maxRecDepth 100000 in
set_option maxHeartbeats 4000000 in
theorem tL_X10_areCrossed_5 {p : Program} {l : Launch} {e : Env} {s : State} {m : MethodId} {args : Array Value} {below : List Frame} {meth : Method} {c : Code} {D : va_G} {cy : ClassId} {ad : Nat → Nat} {A : Nat → Prop} {fu : Nat} (X : Cx p s m args meth c RX10 cX10_areCrossed 5 (some .boolean) D cy ad shM A) {l1 : Int32} {l2 : Int32} {x : Mem} {K : Int32 → Option Int32} (hK : ∀ (l3 : Int32), Sim p l e ({ frames := 1, cells := 0, slots := 0, locals := 40 } : Room) s m args below meth c 5 (some .boolean) D cy ad shM A 74 [none, none, none, some (.int l3), none] [] x (pr (K l3) x)) : ∀ (n : Nat) (l3 : Int32) (l4 : Int32), Sim p l e ({ frames := 1, cells := 0, slots := 0, locals := 40 } : Room) s m args below meth c 5 (some .boolean) D cy ad shM A 5 [some (.ref (ad 0)), some (.int l1), some (.int l2), some (.int l3), some (.int l4)] [] x (pr (L_X10_areCrossed_5 fu l1 l2 x n l3 l4 K) x) := by
  intro n
  induction n with
  | zero =>
    intro l3 l4
    rw [L_X10_areCrossed_5]
    exact p_none
  | succ n ih =>
    intro l3 l4
    rw [L_X10_areCrossed_5]
    refine s_iload (pc := 5) X rfl dX10_areCrossed_5 ?_
    refine s_aload_n (pc := 7) X rfl dX10_areCrossed_7 ?_
    refine s_getI (pc := 8) X shM_0 rfl fl_RX10_107 dX10_areCrossed_8 ?_
    refine p_icmp_ge (pc := 11) X 74 rfl dX10_areCrossed_11 ?_ ?_
    · refine s_mask [false, false, false, true, false] ?_
      exact hK _
    · refine s_iload_n (pc := 14) X rfl dX10_areCrossed_14 ?_
      refine p_if_ne (pc := 15) X 62 rfl dX10_areCrossed_15 ?_ ?_
      · refine s_iconst (pc := 62) X ic_1 dX10_areCrossed_62 ?_
        refine s_goto (pc := 63) X 67 rfl dX10_areCrossed_63 ?_
        refine s_istore_n (pc := 67) X [some (.ref (ad 0)), some (.int l1), some (.int l2), some (.int 1), some (.int l4)] rfl (by decide) dX10_areCrossed_67 ?_
        refine s_iinc (pc := 68) X [some (.ref (ad 0)), some (.int l1), some (.int l2), some (.int 1), some (.int (l4 + 1))] rfl (by decide) rfl ic_1 dX10_areCrossed_68 ?_
        refine s_goto (pc := 71) X 5 rfl dX10_areCrossed_71 ?_
        exact ih _ _
      · refine s_aload_n (pc := 18) X rfl dX10_areCrossed_18 ?_
        refine s_getR (pc := 19) X shM_0 rfl fl_RX10_34 dX10_areCrossed_19 ?_
        refine s_iload (pc := 22) X rfl dX10_areCrossed_22 ?_
        refine p_iald (pc := 24) X shM_9 dX10_areCrossed_24 ?_
        refine s_iload_n (pc := 25) X rfl dX10_areCrossed_25 ?_
        refine p_icmp_ne (pc := 26) X 40 rfl dX10_areCrossed_26 ?_ ?_
        · refine s_aload_n (pc := 40) X rfl dX10_areCrossed_40 ?_
          refine s_getR (pc := 41) X shM_0 rfl fl_RX10_34 dX10_areCrossed_41 ?_
          refine s_iload (pc := 44) X rfl dX10_areCrossed_44 ?_
          refine p_iald (pc := 46) X shM_9 dX10_areCrossed_46 ?_
          refine s_iload_n (pc := 47) X rfl dX10_areCrossed_47 ?_
          refine p_icmp_ne (pc := 48) X 66 rfl dX10_areCrossed_48 ?_ ?_
          · refine s_iconst (pc := 66) X ic_0 dX10_areCrossed_66 ?_
            refine s_istore_n (pc := 67) X [some (.ref (ad 0)), some (.int l1), some (.int l2), some (.int 0), some (.int l4)] rfl (by decide) dX10_areCrossed_67 ?_
            refine s_iinc (pc := 68) X [some (.ref (ad 0)), some (.int l1), some (.int l2), some (.int 0), some (.int (l4 + 1))] rfl (by decide) rfl ic_1 dX10_areCrossed_68 ?_
            refine s_goto (pc := 71) X 5 rfl dX10_areCrossed_71 ?_
            exact ih _ _
          · refine s_aload_n (pc := 51) X rfl dX10_areCrossed_51 ?_
            refine s_getR (pc := 52) X shM_0 rfl fl_RX10_37 dX10_areCrossed_52 ?_
            refine s_iload (pc := 55) X rfl dX10_areCrossed_55 ?_
            refine p_iald (pc := 57) X shM_10 dX10_areCrossed_57 ?_
            refine s_iload_n (pc := 58) X rfl dX10_areCrossed_58 ?_
            refine p_icmp_ne (pc := 59) X 66 rfl dX10_areCrossed_59 ?_ ?_
            · refine s_iconst (pc := 66) X ic_0 dX10_areCrossed_66 ?_
              refine s_istore_n (pc := 67) X [some (.ref (ad 0)), some (.int l1), some (.int l2), some (.int 0), some (.int l4)] rfl (by decide) dX10_areCrossed_67 ?_
              refine s_iinc (pc := 68) X [some (.ref (ad 0)), some (.int l1), some (.int l2), some (.int 0), some (.int (l4 + 1))] rfl (by decide) rfl ic_1 dX10_areCrossed_68 ?_
              refine s_goto (pc := 71) X 5 rfl dX10_areCrossed_71 ?_
              exact ih _ _
            · refine s_iconst (pc := 62) X ic_1 dX10_areCrossed_62 ?_
              refine s_goto (pc := 63) X 67 rfl dX10_areCrossed_63 ?_
              refine s_istore_n (pc := 67) X [some (.ref (ad 0)), some (.int l1), some (.int l2), some (.int 1), some (.int l4)] rfl (by decide) dX10_areCrossed_67 ?_
              refine s_iinc (pc := 68) X [some (.ref (ad 0)), some (.int l1), some (.int l2), some (.int 1), some (.int (l4 + 1))] rfl (by decide) rfl ic_1 dX10_areCrossed_68 ?_
              refine s_goto (pc := 71) X 5 rfl dX10_areCrossed_71 ?_
              exact ih _ _
        · refine s_aload_n (pc := 29) X rfl dX10_areCrossed_29 ?_
          refine s_getR (pc := 30) X shM_0 rfl fl_RX10_37 dX10_areCrossed_30 ?_
          refine s_iload (pc := 33) X rfl dX10_areCrossed_33 ?_
          refine p_iald (pc := 35) X shM_10 dX10_areCrossed_35 ?_
          refine s_iload_n (pc := 36) X rfl dX10_areCrossed_36 ?_
          refine p_icmp_eq (pc := 37) X 62 rfl dX10_areCrossed_37 ?_ ?_
          · refine s_iconst (pc := 62) X ic_1 dX10_areCrossed_62 ?_
            refine s_goto (pc := 63) X 67 rfl dX10_areCrossed_63 ?_
            refine s_istore_n (pc := 67) X [some (.ref (ad 0)), some (.int l1), some (.int l2), some (.int 1), some (.int l4)] rfl (by decide) dX10_areCrossed_67 ?_
            refine s_iinc (pc := 68) X [some (.ref (ad 0)), some (.int l1), some (.int l2), some (.int 1), some (.int (l4 + 1))] rfl (by decide) rfl ic_1 dX10_areCrossed_68 ?_
            refine s_goto (pc := 71) X 5 rfl dX10_areCrossed_71 ?_
            exact ih _ _
          · refine s_aload_n (pc := 40) X rfl dX10_areCrossed_40 ?_
            refine s_getR (pc := 41) X shM_0 rfl fl_RX10_34 dX10_areCrossed_41 ?_
            refine s_iload (pc := 44) X rfl dX10_areCrossed_44 ?_
            refine p_iald (pc := 46) X shM_9 dX10_areCrossed_46 ?_
            refine s_iload_n (pc := 47) X rfl dX10_areCrossed_47 ?_
            refine p_icmp_ne (pc := 48) X 66 rfl dX10_areCrossed_48 ?_ ?_
            · refine s_iconst (pc := 66) X ic_0 dX10_areCrossed_66 ?_
              refine s_istore_n (pc := 67) X [some (.ref (ad 0)), some (.int l1), some (.int l2), some (.int 0), some (.int l4)] rfl (by decide) dX10_areCrossed_67 ?_
              refine s_iinc (pc := 68) X [some (.ref (ad 0)), some (.int l1), some (.int l2), some (.int 0), some (.int (l4 + 1))] rfl (by decide) rfl ic_1 dX10_areCrossed_68 ?_
              refine s_goto (pc := 71) X 5 rfl dX10_areCrossed_71 ?_
              exact ih _ _
            · refine s_aload_n (pc := 51) X rfl dX10_areCrossed_51 ?_
              refine s_getR (pc := 52) X shM_0 rfl fl_RX10_37 dX10_areCrossed_52 ?_
              refine s_iload (pc := 55) X rfl dX10_areCrossed_55 ?_
              refine p_iald (pc := 57) X shM_10 dX10_areCrossed_57 ?_
              refine s_iload_n (pc := 58) X rfl dX10_areCrossed_58 ?_
              refine p_icmp_ne (pc := 59) X 66 rfl dX10_areCrossed_59 ?_ ?_
              · refine s_iconst (pc := 66) X ic_0 dX10_areCrossed_66 ?_
                refine s_istore_n (pc := 67) X [some (.ref (ad 0)), some (.int l1), some (.int l2), some (.int 0), some (.int l4)] rfl (by decide) dX10_areCrossed_67 ?_
                refine s_iinc (pc := 68) X [some (.ref (ad 0)), some (.int l1), some (.int l2), some (.int 0), some (.int (l4 + 1))] rfl (by decide) rfl ic_1 dX10_areCrossed_68 ?_
                refine s_goto (pc := 71) X 5 rfl dX10_areCrossed_71 ?_
                exact ih _ _
              · refine s_iconst (pc := 62) X ic_1 dX10_areCrossed_62 ?_
                refine s_goto (pc := 63) X 67 rfl dX10_areCrossed_63 ?_
                refine s_istore_n (pc := 67) X [some (.ref (ad 0)), some (.int l1), some (.int l2), some (.int 1), some (.int l4)] rfl (by decide) dX10_areCrossed_67 ?_
                refine s_iinc (pc := 68) X [some (.ref (ad 0)), some (.int l1), some (.int l2), some (.int 1), some (.int (l4 + 1))] rfl (by decide) rfl ic_1 dX10_areCrossed_68 ?_
                refine s_goto (pc := 71) X 5 rfl dX10_areCrossed_71 ?_
                exact ih _ _

def F_X10_areCrossed (fu : Nat) (l1 : Int32) (l2 : Int32) (x : Mem) : Option Int32 :=
  (L_X10_areCrossed_5 fu l1 l2 x fu 0 0 (fun l3_1 => (retzp l3_1)))
set_option maxRecDepth 100000 in
set_option maxHeartbeats 4000000 in
theorem c_X10_areCrossed (l : Launch) (D : va_G) (cy : ClassId) (ad : Nat → Nat) (fu : Nat) (l1 : Int32) (l2 : Int32) (x : Mem) : Ct l D cy ad shM yX10_areCrossed cX10_areCrossed 5 (some .boolean) 1 40 [.ref (ad 0), .int l1, .int l2] x (pr (F_X10_areCrossed fu l1 l2 x) x) := by
  refine ct_of [some (.ref (ad 0)), some (.int l1), some (.int l2), none, none] (by decide) (Nat.le_of_ble_eq_true rfl) rfl rfl ?_
  intro p e s m args below meth c A X
  have X : Cx p s m args meth c RX10 cX10_areCrossed 5 (some .boolean) D cy ad shM A := X
  unfold F_X10_areCrossed
  refine s_iconst (pc := 0) X ic_0 dX10_areCrossed_0 ?_
  refine s_istore_n (pc := 1) X [some (.ref (ad 0)), some (.int l1), some (.int l2), some (.int 0), none] rfl (by decide) dX10_areCrossed_1 ?_
  refine s_iconst (pc := 2) X ic_0 dX10_areCrossed_2 ?_
  refine s_istore (pc := 3) X [some (.ref (ad 0)), some (.int l1), some (.int l2), some (.int 0), some (.int 0)] rfl (by decide) dX10_areCrossed_3 ?_
  refine tL_X10_areCrossed_5 X (fun l3_1 => ?_) fu _ _
  refine s_iload_n (pc := 74) X rfl dX10_areCrossed_74 ?_
  exact p_zret (pc := 75) X dX10_areCrossed_75

-- X10_cross
def F_X10_cross (fu : Nat) (l1 : Int32) (l2 : Int32) (x : Mem) : Res :=
  (clp (F_X10_in fu l1 0 15 x) (fun r_1 => (if r_1 = 0 then (some ((-1), x)) else (clp (F_X10_in fu l2 0 15 x) (fun r_2 => (if r_2 = 0 then (some ((-1), x)) else (if l1 = l2 then (some ((-1), x)) else (clp (F_X10_areCrossed fu l1 l2 x) (fun r_3 => (if r_3 = 0 then (if (x 0 10) = 4 then (some ((-3), x)) else (chk (x 0 10) 4 (letm (wr x 9 ((x 0 10) : Int32).toNatClampNeg l1) (fun x_4 => (chk (x_4 0 10) 4 (letm (wr x_4 10 ((x_4 0 10) : Int32).toNatClampNeg l2) (fun x_5 => (letm (wr x_5 0 10 ((x_5 0 10) + 1)) (fun x_6 => (some ((x_6 0 10), x_6))))))))))) else (some ((-2), x))))))))))))
set_option maxRecDepth 100000 in
set_option maxHeartbeats 4000000 in
theorem c_X10_cross (l : Launch) (D : va_G) (cy : ClassId) (ad : Nat → Nat) (fu : Nat) (l1 : Int32) (l2 : Int32) (x : Mem) : Ct l D cy ad shM yX10_cross cX10_cross 3 (some .int) 2 80 [.ref (ad 0), .int l1, .int l2] x (F_X10_cross fu l1 l2 x) := by
  refine ct_of [some (.ref (ad 0)), some (.int l1), some (.int l2)] (by decide) (Nat.le_of_ble_eq_true rfl) rfl rfl ?_
  intro p e s m args below meth c A X
  have X : Cx p s m args meth c RX10 cX10_cross 3 (some .int) D cy ad shM A := X
  unfold F_X10_cross
  refine s_iload_n (pc := 0) X rfl dX10_cross_0 ?_
  refine s_iconst (pc := 1) X ic_0 dX10_cross_1 ?_
  refine s_bipush (pc := 2) X bp_15 dX10_cross_2 ?_
  refine s_callSp (pc := 4) (As := [.int l1, .int 0, .int 15]) (st := []) X lk_RX10_95 (c_X10_in l D cy ad fu _ _ _ _) rfl rfl ⟨by decide, by decide⟩ (Nat.le_of_ble_eq_true rfl) dX10_cross_4 (fun r_1 => ?_)
  refine s_if_eq (pc := 7) X 25 rfl dX10_cross_7 ?_ ?_
  · refine s_iconst (pc := 25) X ic_m1 dX10_cross_25 ?_
    exact s_iret (pc := 26) X dX10_cross_26
  · refine s_iload_n (pc := 10) X rfl dX10_cross_10 ?_
    refine s_iconst (pc := 11) X ic_0 dX10_cross_11 ?_
    refine s_bipush (pc := 12) X bp_15 dX10_cross_12 ?_
    refine s_callSp (pc := 14) (As := [.int l2, .int 0, .int 15]) (st := []) X lk_RX10_95 (c_X10_in l D cy ad fu _ _ _ _) rfl rfl ⟨by decide, by decide⟩ (Nat.le_of_ble_eq_true rfl) dX10_cross_14 (fun r_2 => ?_)
    refine s_if_eq (pc := 17) X 25 rfl dX10_cross_17 ?_ ?_
    · refine s_iconst (pc := 25) X ic_m1 dX10_cross_25 ?_
      exact s_iret (pc := 26) X dX10_cross_26
    · refine s_iload_n (pc := 20) X rfl dX10_cross_20 ?_
      refine s_iload_n (pc := 21) X rfl dX10_cross_21 ?_
      refine s_icmp_ne (pc := 22) X 27 rfl dX10_cross_22 ?_ ?_
      · refine s_aload_n (pc := 27) X rfl dX10_cross_27 ?_
        refine s_iload_n (pc := 28) X rfl dX10_cross_28 ?_
        refine s_iload_n (pc := 29) X rfl dX10_cross_29 ?_
        refine s_callVp (pc := 30) (As := [.int l1, .int l2]) (st := []) X lk_RX10_110 (c_X10_areCrossed l D cy ad fu _ _ _) shM_0 rfl rfl rfl rfl ⟨by decide, by decide⟩ (Nat.le_of_ble_eq_true rfl) dX10_cross_30 (fun r_3 => ?_)
        refine s_if_eq (pc := 33) X 39 rfl dX10_cross_33 ?_ ?_
        · refine s_aload_n (pc := 39) X rfl dX10_cross_39 ?_
          refine s_getI (pc := 40) X shM_0 rfl fl_RX10_107 dX10_cross_40 ?_
          refine s_iconst (pc := 43) X ic_4 dX10_cross_43 ?_
          refine s_icmp_ne (pc := 44) X 50 rfl dX10_cross_44 ?_ ?_
          · refine s_aload_n (pc := 50) X rfl dX10_cross_50 ?_
            refine s_getR (pc := 51) X shM_0 rfl fl_RX10_34 dX10_cross_51 ?_
            refine s_aload_n (pc := 54) X rfl dX10_cross_54 ?_
            refine s_getI (pc := 55) X shM_0 rfl fl_RX10_107 dX10_cross_55 ?_
            refine s_iload_n (pc := 58) X rfl dX10_cross_58 ?_
            refine s_iast (pc := 59) X shM_9 dX10_cross_59 ?_
            refine s_letm (fun x_4 => ?_)
            refine s_aload_n (pc := 60) X rfl dX10_cross_60 ?_
            refine s_getR (pc := 61) X shM_0 rfl fl_RX10_37 dX10_cross_61 ?_
            refine s_aload_n (pc := 64) X rfl dX10_cross_64 ?_
            refine s_getI (pc := 65) X shM_0 rfl fl_RX10_107 dX10_cross_65 ?_
            refine s_iload_n (pc := 68) X rfl dX10_cross_68 ?_
            refine s_iast (pc := 69) X shM_10 dX10_cross_69 ?_
            refine s_letm (fun x_5 => ?_)
            refine s_aload_n (pc := 70) X rfl dX10_cross_70 ?_
            refine s_dup (pc := 71) X rfl dX10_cross_71 ?_
            refine s_getI (pc := 72) X shM_0 rfl fl_RX10_107 dX10_cross_72 ?_
            refine s_iconst (pc := 75) X ic_1 dX10_cross_75 ?_
            refine s_iadd (pc := 76) X dX10_cross_76 ?_
            refine s_put (pc := 77) X shM_0 rfl fp_RX10_107 dX10_cross_77 ?_
            refine s_letm (fun x_6 => ?_)
            refine s_aload_n (pc := 80) X rfl dX10_cross_80 ?_
            refine s_getI (pc := 81) X shM_0 rfl fl_RX10_107 dX10_cross_81 ?_
            exact s_iret (pc := 84) X dX10_cross_84
          · refine s_bipush (pc := 47) X bp_m3 dX10_cross_47 ?_
            exact s_iret (pc := 49) X dX10_cross_49
        · refine s_bipush (pc := 36) X bp_m2 dX10_cross_36 ?_
          exact s_iret (pc := 38) X dX10_cross_38
      · refine s_iconst (pc := 25) X ic_m1 dX10_cross_25 ?_
        exact s_iret (pc := 26) X dX10_cross_26

-- X10_uncross
def F_X10_uncross (fu : Nat) (x : Mem) : Res :=
  (letv (x 0 10) (fun l1_1 => (letm (wr x 0 10 0) (fun x_2 => (some (l1_1, x_2))))))
set_option maxRecDepth 100000 in
set_option maxHeartbeats 4000000 in
theorem c_X10_uncross (l : Launch) (D : va_G) (cy : ClassId) (ad : Nat → Nat) (fu : Nat) (x : Mem) : Ct l D cy ad shM yX10_uncross cX10_uncross 2 (some .int) 1 40 [.ref (ad 0)] x (F_X10_uncross fu x) := by
  refine ct_of [some (.ref (ad 0)), none] (by decide) (Nat.le_of_ble_eq_true rfl) rfl rfl ?_
  intro p e s m args below meth c A X
  have X : Cx p s m args meth c RX10 cX10_uncross 2 (some .int) D cy ad shM A := X
  unfold F_X10_uncross
  refine s_aload_n (pc := 0) X rfl dX10_uncross_0 ?_
  refine s_getI (pc := 1) X shM_0 rfl fl_RX10_107 dX10_uncross_1 ?_
  refine s_letv (fun l1_1 => ?_)
  refine s_istore_n (pc := 4) X [some (.ref (ad 0)), some (.int l1_1)] rfl (by decide) dX10_uncross_4 ?_
  refine s_aload_n (pc := 5) X rfl dX10_uncross_5 ?_
  refine s_iconst (pc := 6) X ic_0 dX10_uncross_6 ?_
  refine s_put (pc := 7) X shM_0 rfl fp_RX10_107 dX10_uncross_7 ?_
  refine s_letm (fun x_2 => ?_)
  refine s_iload_n (pc := 10) X rfl dX10_uncross_10 ?_
  exact s_iret (pc := 11) X dX10_uncross_11

-- X10_crankBy
def F_X10_crankBy (fu : Nat) (l1 : Int32) (l2 : Int32) (x : Mem) : Option Int32 :=
  (if 0 ≤ (l2 : Int32) then (if (16 : Int32) ≤ l2 then (if (160 : Int32) ≤ l2 then (some 0) else (nz 9 (if ((l2 - 16) / 9) = l1 then (nz 9 (some (((l2 - 16) - (l2 - 16) / 9 * 9) + 1))) else (some 0)))) else (if l2 = l1 then (some 10) else (some 0))) else (chk l1 16 (some (x 1 (l1 : Int32).toNatClampNeg))))
set_option maxRecDepth 100000 in
set_option maxHeartbeats 4000000 in
theorem c_X10_crankBy (l : Launch) (D : va_G) (cy : ClassId) (ad : Nat → Nat) (fu : Nat) (l1 : Int32) (l2 : Int32) (x : Mem) : Ct l D cy ad shM yX10_crankBy cX10_crankBy 3 (some .int) 1 40 [.ref (ad 0), .int l1, .int l2] x (pr (F_X10_crankBy fu l1 l2 x) x) := by
  refine ct_of [some (.ref (ad 0)), some (.int l1), some (.int l2)] (by decide) (Nat.le_of_ble_eq_true rfl) rfl rfl ?_
  intro p e s m args below meth c A X
  have X : Cx p s m args meth c RX10 cX10_crankBy 3 (some .int) D cy ad shM A := X
  unfold F_X10_crankBy
  refine s_iload_n (pc := 0) X rfl dX10_crankBy_0 ?_
  refine p_if_ge (pc := 1) X 11 rfl dX10_crankBy_1 ?_ ?_
  · refine s_iload_n (pc := 11) X rfl dX10_crankBy_11 ?_
    refine s_bipush (pc := 12) X bp_16 dX10_crankBy_12 ?_
    refine p_icmp_ge (pc := 14) X 29 rfl dX10_crankBy_14 ?_ ?_
    · refine s_iload_n (pc := 29) X rfl dX10_crankBy_29 ?_
      refine s_sipush (pc := 30) X sp_160 dX10_crankBy_30 ?_
      refine p_icmp_ge (pc := 33) X 59 rfl dX10_crankBy_33 ?_ ?_
      · refine s_iconst (pc := 59) X ic_0 dX10_crankBy_59 ?_
        exact p_iret (pc := 60) X dX10_crankBy_60
      · refine s_iload_n (pc := 36) X rfl dX10_crankBy_36 ?_
        refine s_bipush (pc := 37) X bp_16 dX10_crankBy_37 ?_
        refine s_isub (pc := 39) X dX10_crankBy_39 ?_
        refine s_bipush (pc := 40) X bp_9 dX10_crankBy_40 ?_
        refine p_idiv (pc := 42) X dX10_crankBy_42 ?_
        refine s_iload_n (pc := 43) X rfl dX10_crankBy_43 ?_
        refine p_icmp_ne (pc := 44) X 59 rfl dX10_crankBy_44 ?_ ?_
        · refine s_iconst (pc := 59) X ic_0 dX10_crankBy_59 ?_
          exact p_iret (pc := 60) X dX10_crankBy_60
        · refine s_iload_n (pc := 47) X rfl dX10_crankBy_47 ?_
          refine s_bipush (pc := 48) X bp_16 dX10_crankBy_48 ?_
          refine s_isub (pc := 50) X dX10_crankBy_50 ?_
          refine s_bipush (pc := 51) X bp_9 dX10_crankBy_51 ?_
          refine p_irem (pc := 53) X dX10_crankBy_53 ?_
          refine s_iconst (pc := 54) X ic_1 dX10_crankBy_54 ?_
          refine s_iadd (pc := 55) X dX10_crankBy_55 ?_
          refine s_goto (pc := 56) X 60 rfl dX10_crankBy_56 ?_
          exact p_iret (pc := 60) X dX10_crankBy_60
    · refine s_iload_n (pc := 17) X rfl dX10_crankBy_17 ?_
      refine s_iload_n (pc := 18) X rfl dX10_crankBy_18 ?_
      refine p_icmp_ne (pc := 19) X 27 rfl dX10_crankBy_19 ?_ ?_
      · refine s_iconst (pc := 27) X ic_0 dX10_crankBy_27 ?_
        exact p_iret (pc := 28) X dX10_crankBy_28
      · refine s_bipush (pc := 22) X bp_10 dX10_crankBy_22 ?_
        refine s_goto (pc := 24) X 28 rfl dX10_crankBy_24 ?_
        exact p_iret (pc := 28) X dX10_crankBy_28
  · refine s_aload_n (pc := 4) X rfl dX10_crankBy_4 ?_
    refine s_getR (pc := 5) X shM_0 rfl fl_RX10_7 dX10_crankBy_5 ?_
    refine s_iload_n (pc := 8) X rfl dX10_crankBy_8 ?_
    refine p_iald (pc := 9) X shM_1 dX10_crankBy_9 ?_
    exact p_iret (pc := 10) X dX10_crankBy_10

-- X10_isWell
def F_X10_isWell (fu : Nat) (l1 : Int32) (l2 : Int32) (x : Mem) : Option Int32 :=
  (if 0 ≤ (l2 : Int32) then (if l2 = (160 + l1) then (retzp 0) else (retzp 1)) else (chk l1 8 (if (x 3 (l1 : Int32).toNatClampNeg) = 0 then (retzp 1) else (retzp 0))))
set_option maxRecDepth 100000 in
set_option maxHeartbeats 4000000 in
theorem c_X10_isWell (l : Launch) (D : va_G) (cy : ClassId) (ad : Nat → Nat) (fu : Nat) (l1 : Int32) (l2 : Int32) (x : Mem) : Ct l D cy ad shM yX10_isWell cX10_isWell 3 (some .boolean) 1 40 [.ref (ad 0), .int l1, .int l2] x (pr (F_X10_isWell fu l1 l2 x) x) := by
  refine ct_of [some (.ref (ad 0)), some (.int l1), some (.int l2)] (by decide) (Nat.le_of_ble_eq_true rfl) rfl rfl ?_
  intro p e s m args below meth c A X
  have X : Cx p s m args meth c RX10 cX10_isWell 3 (some .boolean) D cy ad shM A := X
  unfold F_X10_isWell
  refine s_iload_n (pc := 0) X rfl dX10_isWell_0 ?_
  refine p_if_ge (pc := 1) X 21 rfl dX10_isWell_1 ?_ ?_
  · refine s_iload_n (pc := 21) X rfl dX10_isWell_21 ?_
    refine s_sipush (pc := 22) X sp_160 dX10_isWell_22 ?_
    refine s_iload_n (pc := 25) X rfl dX10_isWell_25 ?_
    refine s_iadd (pc := 26) X dX10_isWell_26 ?_
    refine p_icmp_eq (pc := 27) X 34 rfl dX10_isWell_27 ?_ ?_
    · refine s_iconst (pc := 34) X ic_0 dX10_isWell_34 ?_
      exact p_zret (pc := 35) X dX10_isWell_35
    · refine s_iconst (pc := 30) X ic_1 dX10_isWell_30 ?_
      refine s_goto (pc := 31) X 35 rfl dX10_isWell_31 ?_
      exact p_zret (pc := 35) X dX10_isWell_35
  · refine s_aload_n (pc := 4) X rfl dX10_isWell_4 ?_
    refine s_getR (pc := 5) X shM_0 rfl fl_RX10_16 dX10_isWell_5 ?_
    refine s_iload_n (pc := 8) X rfl dX10_isWell_8 ?_
    refine p_iald (pc := 9) X shM_3 dX10_isWell_9 ?_
    refine p_if_ne (pc := 10) X 17 rfl dX10_isWell_10 ?_ ?_
    · refine s_iconst (pc := 17) X ic_0 dX10_isWell_17 ?_
      refine s_goto (pc := 18) X 35 rfl dX10_isWell_18 ?_
      exact p_zret (pc := 35) X dX10_isWell_35
    · refine s_iconst (pc := 13) X ic_1 dX10_isWell_13 ?_
      refine s_goto (pc := 14) X 35 rfl dX10_isWell_14 ?_
      exact p_zret (pc := 35) X dX10_isWell_35

-- X10_isDead
def L_X10_isDead_5 (fu : Nat) (l1 : Int32) (l2 : Int32) (x : Mem) : Nat → Int32 → Int32 → (Int32 → Option Int32) → Option Int32
  | 0, _, _, _ => none
  | n + 1, l3, l4, K => (if (16 : Int32) ≤ l4 then (K l3) else (if l3 = 0 then (chk l1 12 (if (((x 8 (l1 : Int32).toNatClampNeg) >>> (l4 &&& 31)) &&& 1) = 1 then (clp (F_X10_crankBy fu l4 l2 x) (fun r_1 => (if r_1 = 10 then (L_X10_isDead_5 fu l1 l2 x n 1 (l4 + 1) K) else (L_X10_isDead_5 fu l1 l2 x n 0 (l4 + 1) K)))) else (L_X10_isDead_5 fu l1 l2 x n 0 (l4 + 1) K))) else (L_X10_isDead_5 fu l1 l2 x n 1 (l4 + 1) K)))
set_option maxRecDepth 100000 in
set_option maxHeartbeats 4000000 in
theorem tL_X10_isDead_5 {p : Program} {l : Launch} {e : Env} {s : State} {m : MethodId} {args : Array Value} {below : List Frame} {meth : Method} {c : Code} {D : va_G} {cy : ClassId} {ad : Nat → Nat} {A : Nat → Prop} {fu : Nat} (X : Cx p s m args meth c RX10 cX10_isDead 5 (some .boolean) D cy ad shM A) {l1 : Int32} {l2 : Int32} {x : Mem} {K : Int32 → Option Int32} (hK : ∀ (l3 : Int32), Sim p l e ({ frames := 2, cells := 0, slots := 0, locals := 80 } : Room) s m args below meth c 5 (some .boolean) D cy ad shM A 55 [none, none, none, some (.int l3), none] [] x (pr (K l3) x)) : ∀ (n : Nat) (l3 : Int32) (l4 : Int32), Sim p l e ({ frames := 2, cells := 0, slots := 0, locals := 80 } : Room) s m args below meth c 5 (some .boolean) D cy ad shM A 5 [some (.ref (ad 0)), some (.int l1), some (.int l2), some (.int l3), some (.int l4)] [] x (pr (L_X10_isDead_5 fu l1 l2 x n l3 l4 K) x) := by
  intro n
  induction n with
  | zero =>
    intro l3 l4
    rw [L_X10_isDead_5]
    exact p_none
  | succ n ih =>
    intro l3 l4
    rw [L_X10_isDead_5]
    refine s_iload (pc := 5) X rfl dX10_isDead_5 ?_
    refine s_bipush (pc := 7) X bp_16 dX10_isDead_7 ?_
    refine p_icmp_ge (pc := 9) X 55 rfl dX10_isDead_9 ?_ ?_
    · refine s_mask [false, false, false, true, false] ?_
      exact hK _
    · refine s_iload_n (pc := 12) X rfl dX10_isDead_12 ?_
      refine p_if_ne (pc := 13) X 43 rfl dX10_isDead_13 ?_ ?_
      · refine s_iconst (pc := 43) X ic_1 dX10_isDead_43 ?_
        refine s_goto (pc := 44) X 48 rfl dX10_isDead_44 ?_
        refine s_istore_n (pc := 48) X [some (.ref (ad 0)), some (.int l1), some (.int l2), some (.int 1), some (.int l4)] rfl (by decide) dX10_isDead_48 ?_
        refine s_iinc (pc := 49) X [some (.ref (ad 0)), some (.int l1), some (.int l2), some (.int 1), some (.int (l4 + 1))] rfl (by decide) rfl ic_1 dX10_isDead_49 ?_
        refine s_goto (pc := 52) X 5 rfl dX10_isDead_52 ?_
        exact ih _ _
      · refine s_aload_n (pc := 16) X rfl dX10_isDead_16 ?_
        refine s_getR (pc := 17) X shM_0 rfl fl_RX10_31 dX10_isDead_17 ?_
        refine s_iload_n (pc := 20) X rfl dX10_isDead_20 ?_
        refine p_iald (pc := 21) X shM_8 dX10_isDead_21 ?_
        refine s_iload (pc := 22) X rfl dX10_isDead_22 ?_
        refine s_ishr (pc := 24) X dX10_isDead_24 ?_
        refine s_iconst (pc := 25) X ic_1 dX10_isDead_25 ?_
        refine s_iand (pc := 26) X dX10_isDead_26 ?_
        refine s_iconst (pc := 27) X ic_1 dX10_isDead_27 ?_
        refine p_icmp_ne (pc := 28) X 47 rfl dX10_isDead_28 ?_ ?_
        · refine s_iconst (pc := 47) X ic_0 dX10_isDead_47 ?_
          refine s_istore_n (pc := 48) X [some (.ref (ad 0)), some (.int l1), some (.int l2), some (.int 0), some (.int l4)] rfl (by decide) dX10_isDead_48 ?_
          refine s_iinc (pc := 49) X [some (.ref (ad 0)), some (.int l1), some (.int l2), some (.int 0), some (.int (l4 + 1))] rfl (by decide) rfl ic_1 dX10_isDead_49 ?_
          refine s_goto (pc := 52) X 5 rfl dX10_isDead_52 ?_
          exact ih _ _
        · refine s_aload_n (pc := 31) X rfl dX10_isDead_31 ?_
          refine s_iload (pc := 32) X rfl dX10_isDead_32 ?_
          refine s_iload_n (pc := 34) X rfl dX10_isDead_34 ?_
          refine p_callV (pc := 35) (As := [.int l4, .int l2]) (st := []) X lk_RX10_114 (c_X10_crankBy l D cy ad fu _ _ _) shM_0 rfl rfl rfl rfl ⟨by decide, by decide⟩ (Nat.le_of_ble_eq_true rfl) dX10_isDead_35 (fun r_1 => ?_)
          refine s_bipush (pc := 38) X bp_10 dX10_isDead_38 ?_
          refine p_icmp_ne (pc := 40) X 47 rfl dX10_isDead_40 ?_ ?_
          · refine s_iconst (pc := 47) X ic_0 dX10_isDead_47 ?_
            refine s_istore_n (pc := 48) X [some (.ref (ad 0)), some (.int l1), some (.int l2), some (.int 0), some (.int l4)] rfl (by decide) dX10_isDead_48 ?_
            refine s_iinc (pc := 49) X [some (.ref (ad 0)), some (.int l1), some (.int l2), some (.int 0), some (.int (l4 + 1))] rfl (by decide) rfl ic_1 dX10_isDead_49 ?_
            refine s_goto (pc := 52) X 5 rfl dX10_isDead_52 ?_
            exact ih _ _
          · refine s_iconst (pc := 43) X ic_1 dX10_isDead_43 ?_
            refine s_goto (pc := 44) X 48 rfl dX10_isDead_44 ?_
            refine s_istore_n (pc := 48) X [some (.ref (ad 0)), some (.int l1), some (.int l2), some (.int 1), some (.int l4)] rfl (by decide) dX10_isDead_48 ?_
            refine s_iinc (pc := 49) X [some (.ref (ad 0)), some (.int l1), some (.int l2), some (.int 1), some (.int (l4 + 1))] rfl (by decide) rfl ic_1 dX10_isDead_49 ?_
            refine s_goto (pc := 52) X 5 rfl dX10_isDead_52 ?_
            exact ih _ _

def F_X10_isDead (fu : Nat) (l1 : Int32) (l2 : Int32) (x : Mem) : Option Int32 :=
  (L_X10_isDead_5 fu l1 l2 x fu 0 0 (fun l3_2 => (retzp l3_2)))
set_option maxRecDepth 100000 in
set_option maxHeartbeats 4000000 in
theorem c_X10_isDead (l : Launch) (D : va_G) (cy : ClassId) (ad : Nat → Nat) (fu : Nat) (l1 : Int32) (l2 : Int32) (x : Mem) : Ct l D cy ad shM yX10_isDead cX10_isDead 5 (some .boolean) 2 80 [.ref (ad 0), .int l1, .int l2] x (pr (F_X10_isDead fu l1 l2 x) x) := by
  refine ct_of [some (.ref (ad 0)), some (.int l1), some (.int l2), none, none] (by decide) (Nat.le_of_ble_eq_true rfl) rfl rfl ?_
  intro p e s m args below meth c A X
  have X : Cx p s m args meth c RX10 cX10_isDead 5 (some .boolean) D cy ad shM A := X
  unfold F_X10_isDead
  refine s_iconst (pc := 0) X ic_0 dX10_isDead_0 ?_
  refine s_istore_n (pc := 1) X [some (.ref (ad 0)), some (.int l1), some (.int l2), some (.int 0), none] rfl (by decide) dX10_isDead_1 ?_
  refine s_iconst (pc := 2) X ic_0 dX10_isDead_2 ?_
  refine s_istore (pc := 3) X [some (.ref (ad 0)), some (.int l1), some (.int l2), some (.int 0), some (.int 0)] rfl (by decide) dX10_isDead_3 ?_
  refine tL_X10_isDead_5 X (fun l3_2 => ?_) fu _ _
  refine s_iload_n (pc := 55) X rfl dX10_isDead_55 ?_
  exact p_zret (pc := 56) X dX10_isDead_56

-- X10_forceBy
def L_X10_forceBy_22 (fu : Nat) (l1 : Int32) (l3 : Int32) (x : Mem) : Nat → Int32 → Int32 → (Int32 → Option Int32) → Option Int32
  | 0, _, _, _ => none
  | n + 1, l4, l5, K => (if (16 : Int32) ≤ l5 then (K l4) else (chk l1 12 (jn (fun (k_3 : Int32 → Option Int32) => (if (((x 8 (l1 : Int32).toNatClampNeg) >>> (l5 &&& 31)) &&& 1) = 1 then (clp (F_X10_crankBy fu l5 l3 x) (fun r_4 => (k_3 r_4))) else (k_3 0))) (fun v_5 => (letv (l4 - v_5) (fun l4_6 => (L_X10_forceBy_22 fu l1 l3 x n l4_6 (l5 + 1) K)))))))
set_option maxRecDepth 100000 in
set_option maxHeartbeats 4000000 in
theorem tL_X10_forceBy_22 {p : Program} {l : Launch} {e : Env} {s : State} {m : MethodId} {args : Array Value} {below : List Frame} {meth : Method} {c : Code} {D : va_G} {cy : ClassId} {ad : Nat → Nat} {A : Nat → Prop} {fu : Nat} (X : Cx p s m args meth c RX10 cX10_forceBy 6 (some .int) D cy ad shM A) {l1 : Int32} {l3 : Int32} {x : Mem} {K : Int32 → Option Int32} (hK : ∀ (l4 : Int32), Sim p l e ({ frames := 3, cells := 0, slots := 0, locals := 120 } : Room) s m args below meth c 6 (some .int) D cy ad shM A 66 [some (.ref (ad 0)), some (.int l1), none, some (.int l3), some (.int l4), none] [] x (pr (K l4) x)) : ∀ (n : Nat) (l4 : Int32) (l5 : Int32), Sim p l e ({ frames := 3, cells := 0, slots := 0, locals := 120 } : Room) s m args below meth c 6 (some .int) D cy ad shM A 22 [some (.ref (ad 0)), some (.int l1), none, some (.int l3), some (.int l4), some (.int l5)] [] x (pr (L_X10_forceBy_22 fu l1 l3 x n l4 l5 K) x) := by
  intro n
  induction n with
  | zero =>
    intro l4 l5
    rw [L_X10_forceBy_22]
    exact p_none
  | succ n ih =>
    intro l4 l5
    rw [L_X10_forceBy_22]
    refine s_iload (pc := 22) X rfl dX10_forceBy_22 ?_
    refine s_bipush (pc := 24) X bp_16 dX10_forceBy_24 ?_
    refine p_icmp_ge (pc := 26) X 66 rfl dX10_forceBy_26 ?_ ?_
    · refine s_mask [true, true, false, true, true, false] ?_
      exact hK _
    · refine s_iload (pc := 29) X rfl dX10_forceBy_29 ?_
      refine s_aload_n (pc := 31) X rfl dX10_forceBy_31 ?_
      refine s_getR (pc := 32) X shM_0 rfl fl_RX10_31 dX10_forceBy_32 ?_
      refine s_iload_n (pc := 35) X rfl dX10_forceBy_35 ?_
      refine p_iald (pc := 36) X shM_8 dX10_forceBy_36 ?_
      refine s_iload (pc := 37) X rfl dX10_forceBy_37 ?_
      refine s_ishr (pc := 39) X dX10_forceBy_39 ?_
      refine s_iconst (pc := 40) X ic_1 dX10_forceBy_40 ?_
      refine s_iand (pc := 41) X dX10_forceBy_41 ?_
      refine s_iconst (pc := 42) X ic_1 dX10_forceBy_42 ?_
      refine p_jn (fun (k_3 : Int32 → Option Int32) => ∀ (v_5 : Int32), Sim p l e ({ frames := 3, cells := 0, slots := 0, locals := 120 } : Room) s m args below meth c 6 (some .int) D cy ad shM A 57 [some (.ref (ad 0)), some (.int l1), none, some (.int l3), none, some (.int l5)] [.int v_5, .int l4] x (pr (k_3 v_5) x)) ?_ (fun k_3 hk_3 => ?_)
      · intro v_5
        refine s_isub (pc := 57) X dX10_forceBy_57 ?_
        refine p_letv (fun l4_6 => ?_)
        refine s_istore (pc := 58) X [some (.ref (ad 0)), some (.int l1), none, some (.int l3), some (.int l4_6), some (.int l5)] rfl (by decide) dX10_forceBy_58 ?_
        refine s_iinc (pc := 60) X [some (.ref (ad 0)), some (.int l1), none, some (.int l3), some (.int l4_6), some (.int (l5 + 1))] rfl (by decide) rfl ic_1 dX10_forceBy_60 ?_
        refine s_goto (pc := 63) X 22 rfl dX10_forceBy_63 ?_
        exact ih _ _
      · refine p_icmp_ne (pc := 43) X 56 rfl dX10_forceBy_43 ?_ ?_
        · refine s_iconst (pc := 56) X ic_0 dX10_forceBy_56 ?_
          refine s_mask [true, true, false, true, false, true] ?_
          exact hk_3 _
        · refine s_aload_n (pc := 46) X rfl dX10_forceBy_46 ?_
          refine s_iload (pc := 47) X rfl dX10_forceBy_47 ?_
          refine s_iload_n (pc := 49) X rfl dX10_forceBy_49 ?_
          refine p_callV (pc := 50) (As := [.int l5, .int l3]) (st := [.int l4]) X lk_RX10_114 (c_X10_crankBy l D cy ad fu _ _ _) shM_0 rfl rfl rfl rfl ⟨by decide, by decide⟩ (Nat.le_of_ble_eq_true rfl) dX10_forceBy_50 (fun r_4 => ?_)
          refine s_goto (pc := 53) X 57 rfl dX10_forceBy_53 ?_
          refine s_mask [true, true, false, true, false, true] ?_
          exact hk_3 _

def F_X10_forceBy (fu : Nat) (l1 : Int32) (l2 : Int32) (l3 : Int32) (x : Mem) : Option Int32 :=
  (chk l1 12 (clp (F_X10_bits fu (x 8 (l1 : Int32).toNatClampNeg) x) (fun r_1 => (nz 20 (letv (10 - ((l2 * r_1) / 20)) (fun l4_2 => (L_X10_forceBy_22 fu l1 l3 x fu l4_2 0 (fun l4_7 => (if l4_7 < 0 then (some 0) else (clp (F_X10_isDead fu l1 l3 x) (fun r_8 => (if r_8 = 0 then (some l4_7) else (some 0)))))))))))))
set_option maxRecDepth 100000 in
set_option maxHeartbeats 4000000 in
theorem c_X10_forceBy (l : Launch) (D : va_G) (cy : ClassId) (ad : Nat → Nat) (fu : Nat) (l1 : Int32) (l2 : Int32) (l3 : Int32) (x : Mem) : Ct l D cy ad shM yX10_forceBy cX10_forceBy 6 (some .int) 3 120 [.ref (ad 0), .int l1, .int l2, .int l3] x (pr (F_X10_forceBy fu l1 l2 l3 x) x) := by
  refine ct_of [some (.ref (ad 0)), some (.int l1), some (.int l2), some (.int l3), none, none] (by decide) (Nat.le_of_ble_eq_true rfl) rfl rfl ?_
  intro p e s m args below meth c A X
  have X : Cx p s m args meth c RX10 cX10_forceBy 6 (some .int) D cy ad shM A := X
  unfold F_X10_forceBy
  refine s_bipush (pc := 0) X bp_10 dX10_forceBy_0 ?_
  refine s_iload_n (pc := 2) X rfl dX10_forceBy_2 ?_
  refine s_aload_n (pc := 3) X rfl dX10_forceBy_3 ?_
  refine s_getR (pc := 4) X shM_0 rfl fl_RX10_31 dX10_forceBy_4 ?_
  refine s_iload_n (pc := 7) X rfl dX10_forceBy_7 ?_
  refine p_iald (pc := 8) X shM_8 dX10_forceBy_8 ?_
  refine p_callS (pc := 9) (As := [.int (x 8 (l1 : Int32).toNatClampNeg)]) (st := [.int l2, .int 10]) X lk_RX10_103 (c_X10_bits l D cy ad fu _ _) rfl rfl ⟨by decide, by decide⟩ (Nat.le_of_ble_eq_true rfl) dX10_forceBy_9 (fun r_1 => ?_)
  refine s_imul (pc := 12) X dX10_forceBy_12 ?_
  refine s_bipush (pc := 13) X bp_20 dX10_forceBy_13 ?_
  refine p_idiv (pc := 15) X dX10_forceBy_15 ?_
  refine s_isub (pc := 16) X dX10_forceBy_16 ?_
  refine p_letv (fun l4_2 => ?_)
  refine s_istore (pc := 17) X [some (.ref (ad 0)), some (.int l1), some (.int l2), some (.int l3), some (.int l4_2), none] rfl (by decide) dX10_forceBy_17 ?_
  refine s_iconst (pc := 19) X ic_0 dX10_forceBy_19 ?_
  refine s_istore (pc := 20) X [some (.ref (ad 0)), some (.int l1), some (.int l2), some (.int l3), some (.int l4_2), some (.int 0)] rfl (by decide) dX10_forceBy_20 ?_
  refine s_mask [true, true, false, true, true, true] ?_
  refine tL_X10_forceBy_22 X (fun l4_7 => ?_) fu _ _
  refine s_iload (pc := 66) X rfl dX10_forceBy_66 ?_
  refine p_if_lt (pc := 68) X 80 rfl dX10_forceBy_68 ?_ ?_
  · refine s_iconst (pc := 80) X ic_0 dX10_forceBy_80 ?_
    refine s_goto (pc := 81) X 86 rfl dX10_forceBy_81 ?_
    exact p_iret (pc := 86) X dX10_forceBy_86
  · refine s_aload_n (pc := 71) X rfl dX10_forceBy_71 ?_
    refine s_iload_n (pc := 72) X rfl dX10_forceBy_72 ?_
    refine s_iload_n (pc := 73) X rfl dX10_forceBy_73 ?_
    refine p_callV (pc := 74) (As := [.int l1, .int l3]) (st := []) X lk_RX10_118 (c_X10_isDead l D cy ad fu _ _ _) shM_0 rfl rfl rfl rfl ⟨by decide, by decide⟩ (Nat.le_of_ble_eq_true rfl) dX10_forceBy_74 (fun r_8 => ?_)
    refine p_if_eq (pc := 77) X 84 rfl dX10_forceBy_77 ?_ ?_
    · refine s_iload (pc := 84) X rfl dX10_forceBy_84 ?_
      exact p_iret (pc := 86) X dX10_forceBy_86
    · refine s_iconst (pc := 80) X ic_0 dX10_forceBy_80 ?_
      refine s_goto (pc := 81) X 86 rfl dX10_forceBy_81 ?_
      exact p_iret (pc := 86) X dX10_forceBy_86

-- X10_ownBy
def F_X10_ownBy (fu : Nat) (l1 : Int32) (l2 : Int32) (l3 : Int32) (x : Mem) : Option Int32 :=
  (clp (F_X10_forceBy fu l1 l2 l3 x) (fun r_1 => (chk l1 12 (clp (F_X10_isWell fu (x 7 (l1 : Int32).toNatClampNeg) l3 x) (fun r_2 => (if r_2 = 0 then (some 0) else (if r_1 = 0 then (some 0) else (if r_1 ≤ 5 then (some 1) else (some 2)))))))))
set_option maxRecDepth 100000 in
set_option maxHeartbeats 4000000 in
theorem c_X10_ownBy (l : Launch) (D : va_G) (cy : ClassId) (ad : Nat → Nat) (fu : Nat) (l1 : Int32) (l2 : Int32) (l3 : Int32) (x : Mem) : Ct l D cy ad shM yX10_ownBy cX10_ownBy 5 (some .int) 4 160 [.ref (ad 0), .int l1, .int l2, .int l3] x (pr (F_X10_ownBy fu l1 l2 l3 x) x) := by
  refine ct_of [some (.ref (ad 0)), some (.int l1), some (.int l2), some (.int l3), none] (by decide) (Nat.le_of_ble_eq_true rfl) rfl rfl ?_
  intro p e s m args below meth c A X
  have X : Cx p s m args meth c RX10 cX10_ownBy 5 (some .int) D cy ad shM A := X
  unfold F_X10_ownBy
  refine s_aload_n (pc := 0) X rfl dX10_ownBy_0 ?_
  refine s_iload_n (pc := 1) X rfl dX10_ownBy_1 ?_
  refine s_iload_n (pc := 2) X rfl dX10_ownBy_2 ?_
  refine s_iload_n (pc := 3) X rfl dX10_ownBy_3 ?_
  refine p_callV (pc := 4) (As := [.int l1, .int l2, .int l3]) (st := []) X lk_RX10_121 (c_X10_forceBy l D cy ad fu _ _ _ _) shM_0 rfl rfl rfl rfl ⟨by decide, by decide⟩ (Nat.le_of_ble_eq_true rfl) dX10_ownBy_4 (fun r_1 => ?_)
  refine s_istore (pc := 7) X [some (.ref (ad 0)), some (.int l1), some (.int l2), some (.int l3), some (.int r_1)] rfl (by decide) dX10_ownBy_7 ?_
  refine s_aload_n (pc := 9) X rfl dX10_ownBy_9 ?_
  refine s_aload_n (pc := 10) X rfl dX10_ownBy_10 ?_
  refine s_getR (pc := 11) X shM_0 rfl fl_RX10_28 dX10_ownBy_11 ?_
  refine s_iload_n (pc := 14) X rfl dX10_ownBy_14 ?_
  refine p_iald (pc := 15) X shM_7 dX10_ownBy_15 ?_
  refine s_iload_n (pc := 16) X rfl dX10_ownBy_16 ?_
  refine p_callV (pc := 17) (As := [.int (x 7 (l1 : Int32).toNatClampNeg), .int l3]) (st := []) X lk_RX10_125 (c_X10_isWell l D cy ad fu _ _ _) shM_0 rfl rfl rfl rfl ⟨by decide, by decide⟩ (Nat.le_of_ble_eq_true rfl) dX10_ownBy_17 (fun r_2 => ?_)
  refine p_if_eq (pc := 20) X 28 rfl dX10_ownBy_20 ?_ ?_
  · refine s_iconst (pc := 28) X ic_0 dX10_ownBy_28 ?_
    refine s_goto (pc := 29) X 43 rfl dX10_ownBy_29 ?_
    exact p_iret (pc := 43) X dX10_ownBy_43
  · refine s_iload (pc := 23) X rfl dX10_ownBy_23 ?_
    refine p_if_ne (pc := 25) X 32 rfl dX10_ownBy_25 ?_ ?_
    · refine s_iload (pc := 32) X rfl dX10_ownBy_32 ?_
      refine s_iconst (pc := 34) X ic_5 dX10_ownBy_34 ?_
      refine p_icmp_le (pc := 35) X 42 rfl dX10_ownBy_35 ?_ ?_
      · refine s_iconst (pc := 42) X ic_1 dX10_ownBy_42 ?_
        exact p_iret (pc := 43) X dX10_ownBy_43
      · refine s_iconst (pc := 38) X ic_2 dX10_ownBy_38 ?_
        refine s_goto (pc := 39) X 43 rfl dX10_ownBy_39 ?_
        exact p_iret (pc := 43) X dX10_ownBy_43
    · refine s_iconst (pc := 28) X ic_0 dX10_ownBy_28 ?_
      refine s_goto (pc := 29) X 43 rfl dX10_ownBy_29 ?_
      exact p_iret (pc := 43) X dX10_ownBy_43

-- X10_force
def F_X10_force (fu : Nat) (l1 : Int32) (x : Mem) : Option Int32 :=
  (clp (F_X10_isPull fu l1 x) (fun r_1 => (if r_1 = 0 then (some (-1)) else (clp (F_X10_forceBy fu l1 (x 0 3) (-1) x) (fun r_2 => (some r_2))))))
set_option maxRecDepth 100000 in
set_option maxHeartbeats 4000000 in
theorem c_X10_force (l : Launch) (D : va_G) (cy : ClassId) (ad : Nat → Nat) (fu : Nat) (l1 : Int32) (x : Mem) : Ct l D cy ad shM yX10_force cX10_force 2 (some .int) 4 160 [.ref (ad 0), .int l1] x (pr (F_X10_force fu l1 x) x) := by
  refine ct_of [some (.ref (ad 0)), some (.int l1)] (by decide) (Nat.le_of_ble_eq_true rfl) rfl rfl ?_
  intro p e s m args below meth c A X
  have X : Cx p s m args meth c RX10 cX10_force 2 (some .int) D cy ad shM A := X
  unfold F_X10_force
  refine s_aload_n (pc := 0) X rfl dX10_force_0 ?_
  refine s_iload_n (pc := 1) X rfl dX10_force_1 ?_
  refine p_callV (pc := 2) (As := [.int l1]) (st := []) X lk_RX10_128 (c_X10_isPull l D cy ad fu _ _) shM_0 rfl rfl rfl rfl ⟨by decide, by decide⟩ (Nat.le_of_ble_eq_true rfl) dX10_force_2 (fun r_1 => ?_)
  refine p_if_eq (pc := 5) X 21 rfl dX10_force_5 ?_ ?_
  · refine s_iconst (pc := 21) X ic_m1 dX10_force_21 ?_
    exact p_iret (pc := 22) X dX10_force_22
  · refine s_aload_n (pc := 8) X rfl dX10_force_8 ?_
    refine s_iload_n (pc := 9) X rfl dX10_force_9 ?_
    refine s_aload_n (pc := 10) X rfl dX10_force_10 ?_
    refine s_getI (pc := 11) X shM_0 rfl fl_RX10_99 dX10_force_11 ?_
    refine s_iconst (pc := 14) X ic_m1 dX10_force_14 ?_
    refine p_callV (pc := 15) (As := [.int l1, .int (x 0 3), .int (-1)]) (st := []) X lk_RX10_121 (c_X10_forceBy l D cy ad fu _ _ _ _) shM_0 rfl rfl rfl rfl ⟨by decide, by decide⟩ (Nat.le_of_ble_eq_true rfl) dX10_force_15 (fun r_2 => ?_)
    refine s_goto (pc := 18) X 22 rfl dX10_force_18 ?_
    exact p_iret (pc := 22) X dX10_force_22

-- X10_areJoined
def L_X10_areJoined_5 (fu : Nat) (l1 : Int32) (l2 : Int32) (x : Mem) : Nat → Int32 → Int32 → (Int32 → Option Int32) → Option Int32
  | 0, _, _, _ => none
  | n + 1, l3, l4, K => (if (x 0 10) ≤ l4 then (K l3) else (chk l1 12 (chk l4 4 (jn (fun (k_1 : Int32 → Option Int32) => (if (((x 8 (l1 : Int32).toNatClampNeg) >>> ((x 9 (l4 : Int32).toNatClampNeg) &&& 31)) &&& 1) = 1 then (chk l2 12 (chk l4 4 (if (((x 8 (l2 : Int32).toNatClampNeg) >>> ((x 10 (l4 : Int32).toNatClampNeg) &&& 31)) &&& 1) = 1 then (k_1 1) else (k_1 0)))) else (k_1 0))) (fun v_2 => (chk l1 12 (chk l4 4 (jn (fun (k_3 : Int32 → Option Int32) => (if (((x 8 (l1 : Int32).toNatClampNeg) >>> ((x 10 (l4 : Int32).toNatClampNeg) &&& 31)) &&& 1) = 1 then (chk l2 12 (chk l4 4 (if (((x 8 (l2 : Int32).toNatClampNeg) >>> ((x 9 (l4 : Int32).toNatClampNeg) &&& 31)) &&& 1) = 1 then (k_3 1) else (k_3 0)))) else (k_3 0))) (fun v_4 => (if l3 = 0 then (if v_2 = 0 then (if v_4 = 0 then (L_X10_areJoined_5 fu l1 l2 x n 0 (l4 + 1) K) else (L_X10_areJoined_5 fu l1 l2 x n 1 (l4 + 1) K)) else (L_X10_areJoined_5 fu l1 l2 x n 1 (l4 + 1) K)) else (L_X10_areJoined_5 fu l1 l2 x n 1 (l4 + 1) K)))))))))))
set_option maxRecDepth 100000 in
set_option maxHeartbeats 4000000 in
theorem tL_X10_areJoined_5 {p : Program} {l : Launch} {e : Env} {s : State} {m : MethodId} {args : Array Value} {below : List Frame} {meth : Method} {c : Code} {D : va_G} {cy : ClassId} {ad : Nat → Nat} {A : Nat → Prop} {fu : Nat} (X : Cx p s m args meth c RX10 cX10_areJoined 7 (some .boolean) D cy ad shM A) {l1 : Int32} {l2 : Int32} {x : Mem} {K : Int32 → Option Int32} (hK : ∀ (l3 : Int32), Sim p l e ({ frames := 1, cells := 0, slots := 0, locals := 40 } : Room) s m args below meth c 7 (some .boolean) D cy ad shM A 134 [none, none, none, some (.int l3), none, none, none] [] x (pr (K l3) x)) : ∀ (n : Nat) (l3 : Int32) (l4 : Int32), Sim p l e ({ frames := 1, cells := 0, slots := 0, locals := 40 } : Room) s m args below meth c 7 (some .boolean) D cy ad shM A 5 [some (.ref (ad 0)), some (.int l1), some (.int l2), some (.int l3), some (.int l4), none, none] [] x (pr (L_X10_areJoined_5 fu l1 l2 x n l3 l4 K) x) := by
  intro n
  induction n with
  | zero =>
    intro l3 l4
    rw [L_X10_areJoined_5]
    exact p_none
  | succ n ih =>
    intro l3 l4
    rw [L_X10_areJoined_5]
    refine s_iload (pc := 5) X rfl dX10_areJoined_5 ?_
    refine s_aload_n (pc := 7) X rfl dX10_areJoined_7 ?_
    refine s_getI (pc := 8) X shM_0 rfl fl_RX10_107 dX10_areJoined_8 ?_
    refine p_icmp_ge (pc := 11) X 134 rfl dX10_areJoined_11 ?_ ?_
    · refine s_mask [false, false, false, true, false, false, false] ?_
      exact hK _
    · refine s_aload_n (pc := 14) X rfl dX10_areJoined_14 ?_
      refine s_getR (pc := 15) X shM_0 rfl fl_RX10_31 dX10_areJoined_15 ?_
      refine s_iload_n (pc := 18) X rfl dX10_areJoined_18 ?_
      refine p_iald (pc := 19) X shM_8 dX10_areJoined_19 ?_
      refine s_aload_n (pc := 20) X rfl dX10_areJoined_20 ?_
      refine s_getR (pc := 21) X shM_0 rfl fl_RX10_34 dX10_areJoined_21 ?_
      refine s_iload (pc := 24) X rfl dX10_areJoined_24 ?_
      refine p_iald (pc := 26) X shM_9 dX10_areJoined_26 ?_
      refine s_ishr (pc := 27) X dX10_areJoined_27 ?_
      refine s_iconst (pc := 28) X ic_1 dX10_areJoined_28 ?_
      refine s_iand (pc := 29) X dX10_areJoined_29 ?_
      refine s_iconst (pc := 30) X ic_1 dX10_areJoined_30 ?_
      refine p_jn (fun (k_1 : Int32 → Option Int32) => ∀ (v_2 : Int32), Sim p l e ({ frames := 1, cells := 0, slots := 0, locals := 40 } : Room) s m args below meth c 7 (some .boolean) D cy ad shM A 59 [some (.ref (ad 0)), some (.int l1), some (.int l2), some (.int l3), some (.int l4), none, none] [.int v_2] x (pr (k_1 v_2) x)) ?_ (fun k_1 hk_1 => ?_)
      · intro v_2
        refine s_istore (pc := 59) X [some (.ref (ad 0)), some (.int l1), some (.int l2), some (.int l3), some (.int l4), some (.int v_2), none] rfl (by decide) dX10_areJoined_59 ?_
        refine s_aload_n (pc := 61) X rfl dX10_areJoined_61 ?_
        refine s_getR (pc := 62) X shM_0 rfl fl_RX10_31 dX10_areJoined_62 ?_
        refine s_iload_n (pc := 65) X rfl dX10_areJoined_65 ?_
        refine p_iald (pc := 66) X shM_8 dX10_areJoined_66 ?_
        refine s_aload_n (pc := 67) X rfl dX10_areJoined_67 ?_
        refine s_getR (pc := 68) X shM_0 rfl fl_RX10_37 dX10_areJoined_68 ?_
        refine s_iload (pc := 71) X rfl dX10_areJoined_71 ?_
        refine p_iald (pc := 73) X shM_10 dX10_areJoined_73 ?_
        refine s_ishr (pc := 74) X dX10_areJoined_74 ?_
        refine s_iconst (pc := 75) X ic_1 dX10_areJoined_75 ?_
        refine s_iand (pc := 76) X dX10_areJoined_76 ?_
        refine s_iconst (pc := 77) X ic_1 dX10_areJoined_77 ?_
        refine p_jn (fun (k_3 : Int32 → Option Int32) => ∀ (v_4 : Int32), Sim p l e ({ frames := 1, cells := 0, slots := 0, locals := 40 } : Room) s m args below meth c 7 (some .boolean) D cy ad shM A 106 [some (.ref (ad 0)), some (.int l1), some (.int l2), some (.int l3), some (.int l4), some (.int v_2), none] [.int v_4] x (pr (k_3 v_4) x)) ?_ (fun k_3 hk_3 => ?_)
        · intro v_4
          refine s_istore (pc := 106) X [some (.ref (ad 0)), some (.int l1), some (.int l2), some (.int l3), some (.int l4), some (.int v_2), some (.int v_4)] rfl (by decide) dX10_areJoined_106 ?_
          refine s_iload_n (pc := 108) X rfl dX10_areJoined_108 ?_
          refine p_if_ne (pc := 109) X 122 rfl dX10_areJoined_109 ?_ ?_
          · refine s_iconst (pc := 122) X ic_1 dX10_areJoined_122 ?_
            refine s_goto (pc := 123) X 127 rfl dX10_areJoined_123 ?_
            refine s_istore_n (pc := 127) X [some (.ref (ad 0)), some (.int l1), some (.int l2), some (.int 1), some (.int l4), some (.int v_2), some (.int v_4)] rfl (by decide) dX10_areJoined_127 ?_
            refine s_iinc (pc := 128) X [some (.ref (ad 0)), some (.int l1), some (.int l2), some (.int 1), some (.int (l4 + 1)), some (.int v_2), some (.int v_4)] rfl (by decide) rfl ic_1 dX10_areJoined_128 ?_
            refine s_goto (pc := 131) X 5 rfl dX10_areJoined_131 ?_
            refine s_mask [true, true, true, true, true, false, false] ?_
            exact ih _ _
          · refine s_iload (pc := 112) X rfl dX10_areJoined_112 ?_
            refine p_if_ne (pc := 114) X 122 rfl dX10_areJoined_114 ?_ ?_
            · refine s_iconst (pc := 122) X ic_1 dX10_areJoined_122 ?_
              refine s_goto (pc := 123) X 127 rfl dX10_areJoined_123 ?_
              refine s_istore_n (pc := 127) X [some (.ref (ad 0)), some (.int l1), some (.int l2), some (.int 1), some (.int l4), some (.int v_2), some (.int v_4)] rfl (by decide) dX10_areJoined_127 ?_
              refine s_iinc (pc := 128) X [some (.ref (ad 0)), some (.int l1), some (.int l2), some (.int 1), some (.int (l4 + 1)), some (.int v_2), some (.int v_4)] rfl (by decide) rfl ic_1 dX10_areJoined_128 ?_
              refine s_goto (pc := 131) X 5 rfl dX10_areJoined_131 ?_
              refine s_mask [true, true, true, true, true, false, false] ?_
              exact ih _ _
            · refine s_iload (pc := 117) X rfl dX10_areJoined_117 ?_
              refine p_if_eq (pc := 119) X 126 rfl dX10_areJoined_119 ?_ ?_
              · refine s_iconst (pc := 126) X ic_0 dX10_areJoined_126 ?_
                refine s_istore_n (pc := 127) X [some (.ref (ad 0)), some (.int l1), some (.int l2), some (.int 0), some (.int l4), some (.int v_2), some (.int v_4)] rfl (by decide) dX10_areJoined_127 ?_
                refine s_iinc (pc := 128) X [some (.ref (ad 0)), some (.int l1), some (.int l2), some (.int 0), some (.int (l4 + 1)), some (.int v_2), some (.int v_4)] rfl (by decide) rfl ic_1 dX10_areJoined_128 ?_
                refine s_goto (pc := 131) X 5 rfl dX10_areJoined_131 ?_
                refine s_mask [true, true, true, true, true, false, false] ?_
                exact ih _ _
              · refine s_iconst (pc := 122) X ic_1 dX10_areJoined_122 ?_
                refine s_goto (pc := 123) X 127 rfl dX10_areJoined_123 ?_
                refine s_istore_n (pc := 127) X [some (.ref (ad 0)), some (.int l1), some (.int l2), some (.int 1), some (.int l4), some (.int v_2), some (.int v_4)] rfl (by decide) dX10_areJoined_127 ?_
                refine s_iinc (pc := 128) X [some (.ref (ad 0)), some (.int l1), some (.int l2), some (.int 1), some (.int (l4 + 1)), some (.int v_2), some (.int v_4)] rfl (by decide) rfl ic_1 dX10_areJoined_128 ?_
                refine s_goto (pc := 131) X 5 rfl dX10_areJoined_131 ?_
                refine s_mask [true, true, true, true, true, false, false] ?_
                exact ih _ _
        · refine p_icmp_ne (pc := 78) X 105 rfl dX10_areJoined_78 ?_ ?_
          · refine s_iconst (pc := 105) X ic_0 dX10_areJoined_105 ?_
            exact hk_3 _
          · refine s_aload_n (pc := 81) X rfl dX10_areJoined_81 ?_
            refine s_getR (pc := 82) X shM_0 rfl fl_RX10_31 dX10_areJoined_82 ?_
            refine s_iload_n (pc := 85) X rfl dX10_areJoined_85 ?_
            refine p_iald (pc := 86) X shM_8 dX10_areJoined_86 ?_
            refine s_aload_n (pc := 87) X rfl dX10_areJoined_87 ?_
            refine s_getR (pc := 88) X shM_0 rfl fl_RX10_34 dX10_areJoined_88 ?_
            refine s_iload (pc := 91) X rfl dX10_areJoined_91 ?_
            refine p_iald (pc := 93) X shM_9 dX10_areJoined_93 ?_
            refine s_ishr (pc := 94) X dX10_areJoined_94 ?_
            refine s_iconst (pc := 95) X ic_1 dX10_areJoined_95 ?_
            refine s_iand (pc := 96) X dX10_areJoined_96 ?_
            refine s_iconst (pc := 97) X ic_1 dX10_areJoined_97 ?_
            refine p_icmp_ne (pc := 98) X 105 rfl dX10_areJoined_98 ?_ ?_
            · refine s_iconst (pc := 105) X ic_0 dX10_areJoined_105 ?_
              exact hk_3 _
            · refine s_iconst (pc := 101) X ic_1 dX10_areJoined_101 ?_
              refine s_goto (pc := 102) X 106 rfl dX10_areJoined_102 ?_
              exact hk_3 _
      · refine p_icmp_ne (pc := 31) X 58 rfl dX10_areJoined_31 ?_ ?_
        · refine s_iconst (pc := 58) X ic_0 dX10_areJoined_58 ?_
          exact hk_1 _
        · refine s_aload_n (pc := 34) X rfl dX10_areJoined_34 ?_
          refine s_getR (pc := 35) X shM_0 rfl fl_RX10_31 dX10_areJoined_35 ?_
          refine s_iload_n (pc := 38) X rfl dX10_areJoined_38 ?_
          refine p_iald (pc := 39) X shM_8 dX10_areJoined_39 ?_
          refine s_aload_n (pc := 40) X rfl dX10_areJoined_40 ?_
          refine s_getR (pc := 41) X shM_0 rfl fl_RX10_37 dX10_areJoined_41 ?_
          refine s_iload (pc := 44) X rfl dX10_areJoined_44 ?_
          refine p_iald (pc := 46) X shM_10 dX10_areJoined_46 ?_
          refine s_ishr (pc := 47) X dX10_areJoined_47 ?_
          refine s_iconst (pc := 48) X ic_1 dX10_areJoined_48 ?_
          refine s_iand (pc := 49) X dX10_areJoined_49 ?_
          refine s_iconst (pc := 50) X ic_1 dX10_areJoined_50 ?_
          refine p_icmp_ne (pc := 51) X 58 rfl dX10_areJoined_51 ?_ ?_
          · refine s_iconst (pc := 58) X ic_0 dX10_areJoined_58 ?_
            exact hk_1 _
          · refine s_iconst (pc := 54) X ic_1 dX10_areJoined_54 ?_
            refine s_goto (pc := 55) X 59 rfl dX10_areJoined_55 ?_
            exact hk_1 _

def F_X10_areJoined (fu : Nat) (l1 : Int32) (l2 : Int32) (x : Mem) : Option Int32 :=
  (L_X10_areJoined_5 fu l1 l2 x fu 0 0 (fun l3_5 => (retzp l3_5)))
set_option maxRecDepth 100000 in
set_option maxHeartbeats 4000000 in
theorem c_X10_areJoined (l : Launch) (D : va_G) (cy : ClassId) (ad : Nat → Nat) (fu : Nat) (l1 : Int32) (l2 : Int32) (x : Mem) : Ct l D cy ad shM yX10_areJoined cX10_areJoined 7 (some .boolean) 1 40 [.ref (ad 0), .int l1, .int l2] x (pr (F_X10_areJoined fu l1 l2 x) x) := by
  refine ct_of [some (.ref (ad 0)), some (.int l1), some (.int l2), none, none, none, none] (by decide) (Nat.le_of_ble_eq_true rfl) rfl rfl ?_
  intro p e s m args below meth c A X
  have X : Cx p s m args meth c RX10 cX10_areJoined 7 (some .boolean) D cy ad shM A := X
  unfold F_X10_areJoined
  refine s_iconst (pc := 0) X ic_0 dX10_areJoined_0 ?_
  refine s_istore_n (pc := 1) X [some (.ref (ad 0)), some (.int l1), some (.int l2), some (.int 0), none, none, none] rfl (by decide) dX10_areJoined_1 ?_
  refine s_iconst (pc := 2) X ic_0 dX10_areJoined_2 ?_
  refine s_istore (pc := 3) X [some (.ref (ad 0)), some (.int l1), some (.int l2), some (.int 0), some (.int 0), none, none] rfl (by decide) dX10_areJoined_3 ?_
  refine tL_X10_areJoined_5 X (fun l3_5 => ?_) fu _ _
  refine s_iload_n (pc := 134) X rfl dX10_areJoined_134 ?_
  exact p_zret (pc := 135) X dX10_areJoined_135

-- X10_rings
def L_X10_rings_50 (fu : Nat) (l1 : Int32) (l2 : Int32) (x : Mem) : Nat → Int32 → (Option Int32) → Option Int32
  | 0, _, _ => none
  | n + 1, l3, K => (if (x 0 4) ≤ l3 then K else (if l3 = l1 then (L_X10_rings_50 fu l1 l2 x n (l3 + 1) K) else (chk l3 12 (if (x 7 (l3 : Int32).toNatClampNeg) = l2 then (clp (F_X10_areJoined fu l1 l3 x) (fun r_2 => (if r_2 = 0 then (L_X10_rings_50 fu l1 l2 x n (l3 + 1) K) else (clp (F_X10_isDead fu l3 (-1) x) (fun r_3 => (if r_3 = 0 then (some 1) else (L_X10_rings_50 fu l1 l2 x n (l3 + 1) K))))))) else (L_X10_rings_50 fu l1 l2 x n (l3 + 1) K)))))
set_option maxRecDepth 100000 in
set_option maxHeartbeats 4000000 in
theorem tL_X10_rings_50 {p : Program} {l : Launch} {e : Env} {s : State} {m : MethodId} {args : Array Value} {below : List Frame} {meth : Method} {c : Code} {D : va_G} {cy : ClassId} {ad : Nat → Nat} {A : Nat → Prop} {fu : Nat} (X : Cx p s m args meth c RX10 cX10_rings 4 (some .int) D cy ad shM A) {l1 : Int32} {l2 : Int32} {x : Mem} {K : Option Int32} (hK : Sim p l e ({ frames := 5, cells := 0, slots := 0, locals := 200 } : Room) s m args below meth c 4 (some .int) D cy ad shM A 99 [none, none, none, none] [] x (pr K x)) : ∀ (n : Nat) (l3 : Int32), Sim p l e ({ frames := 5, cells := 0, slots := 0, locals := 200 } : Room) s m args below meth c 4 (some .int) D cy ad shM A 50 [some (.ref (ad 0)), some (.int l1), some (.int l2), some (.int l3)] [] x (pr (L_X10_rings_50 fu l1 l2 x n l3 K) x) := by
  intro n
  induction n with
  | zero =>
    intro l3
    rw [L_X10_rings_50]
    exact p_none
  | succ n ih =>
    intro l3
    rw [L_X10_rings_50]
    refine s_iload_n (pc := 50) X rfl dX10_rings_50 ?_
    refine s_aload_n (pc := 51) X rfl dX10_rings_51 ?_
    refine s_getI (pc := 52) X shM_0 rfl fl_RX10_91 dX10_rings_52 ?_
    refine p_icmp_ge (pc := 55) X 99 rfl dX10_rings_55 ?_ ?_
    · refine s_mask [false, false, false, false] ?_
      exact hK
    · refine s_iload_n (pc := 58) X rfl dX10_rings_58 ?_
      refine s_iload_n (pc := 59) X rfl dX10_rings_59 ?_
      refine p_icmp_eq (pc := 60) X 93 rfl dX10_rings_60 ?_ ?_
      · refine s_iinc (pc := 93) X [some (.ref (ad 0)), some (.int l1), some (.int l2), some (.int (l3 + 1))] rfl (by decide) rfl ic_1 dX10_rings_93 ?_
        refine s_goto (pc := 96) X 50 rfl dX10_rings_96 ?_
        exact ih _
      · refine s_aload_n (pc := 63) X rfl dX10_rings_63 ?_
        refine s_getR (pc := 64) X shM_0 rfl fl_RX10_28 dX10_rings_64 ?_
        refine s_iload_n (pc := 67) X rfl dX10_rings_67 ?_
        refine p_iald (pc := 68) X shM_7 dX10_rings_68 ?_
        refine s_iload_n (pc := 69) X rfl dX10_rings_69 ?_
        refine p_icmp_ne (pc := 70) X 93 rfl dX10_rings_70 ?_ ?_
        · refine s_iinc (pc := 93) X [some (.ref (ad 0)), some (.int l1), some (.int l2), some (.int (l3 + 1))] rfl (by decide) rfl ic_1 dX10_rings_93 ?_
          refine s_goto (pc := 96) X 50 rfl dX10_rings_96 ?_
          exact ih _
        · refine s_aload_n (pc := 73) X rfl dX10_rings_73 ?_
          refine s_iload_n (pc := 74) X rfl dX10_rings_74 ?_
          refine s_iload_n (pc := 75) X rfl dX10_rings_75 ?_
          refine p_callV (pc := 76) (As := [.int l1, .int l3]) (st := []) X lk_RX10_135 (c_X10_areJoined l D cy ad fu _ _ _) shM_0 rfl rfl rfl rfl ⟨by decide, by decide⟩ (Nat.le_of_ble_eq_true rfl) dX10_rings_76 (fun r_2 => ?_)
          refine p_if_eq (pc := 79) X 93 rfl dX10_rings_79 ?_ ?_
          · refine s_iinc (pc := 93) X [some (.ref (ad 0)), some (.int l1), some (.int l2), some (.int (l3 + 1))] rfl (by decide) rfl ic_1 dX10_rings_93 ?_
            refine s_goto (pc := 96) X 50 rfl dX10_rings_96 ?_
            exact ih _
          · refine s_aload_n (pc := 82) X rfl dX10_rings_82 ?_
            refine s_iload_n (pc := 83) X rfl dX10_rings_83 ?_
            refine s_iconst (pc := 84) X ic_m1 dX10_rings_84 ?_
            refine p_callV (pc := 85) (As := [.int l3, .int (-1)]) (st := []) X lk_RX10_118 (c_X10_isDead l D cy ad fu _ _ _) shM_0 rfl rfl rfl rfl ⟨by decide, by decide⟩ (Nat.le_of_ble_eq_true rfl) dX10_rings_85 (fun r_3 => ?_)
            refine p_if_ne (pc := 88) X 93 rfl dX10_rings_88 ?_ ?_
            · refine s_iinc (pc := 93) X [some (.ref (ad 0)), some (.int l1), some (.int l2), some (.int (l3 + 1))] rfl (by decide) rfl ic_1 dX10_rings_93 ?_
              refine s_goto (pc := 96) X 50 rfl dX10_rings_96 ?_
              exact ih _
            · refine s_iconst (pc := 91) X ic_1 dX10_rings_91 ?_
              exact p_iret (pc := 92) X dX10_rings_92

def F_X10_rings (fu : Nat) (l1 : Int32) (l2 : Int32) (x : Mem) : Option Int32 :=
  (chk l1 12 (if (x 7 (l1 : Int32).toNatClampNeg) = l2 then (clp (F_X10_ownBy fu l1 (x 0 3) (-1) x) (fun r_4 => (some r_4))) else (clp (F_X10_forceBy fu l1 (x 0 3) (-1) x) (fun r_1 => (if r_1 < 6 then (some 0) else (chk l2 8 (if (x 3 (l2 : Int32).toNatClampNeg) = 1 then (some 0) else (L_X10_rings_50 fu l1 l2 x fu 0 (some 0)))))))))
set_option maxRecDepth 100000 in
set_option maxHeartbeats 4000000 in
theorem c_X10_rings (l : Launch) (D : va_G) (cy : ClassId) (ad : Nat → Nat) (fu : Nat) (l1 : Int32) (l2 : Int32) (x : Mem) : Ct l D cy ad shM yX10_rings cX10_rings 4 (some .int) 5 200 [.ref (ad 0), .int l1, .int l2] x (pr (F_X10_rings fu l1 l2 x) x) := by
  refine ct_of [some (.ref (ad 0)), some (.int l1), some (.int l2), none] (by decide) (Nat.le_of_ble_eq_true rfl) rfl rfl ?_
  intro p e s m args below meth c A X
  have X : Cx p s m args meth c RX10 cX10_rings 4 (some .int) D cy ad shM A := X
  unfold F_X10_rings
  refine s_aload_n (pc := 0) X rfl dX10_rings_0 ?_
  refine s_getR (pc := 1) X shM_0 rfl fl_RX10_28 dX10_rings_1 ?_
  refine s_iload_n (pc := 4) X rfl dX10_rings_4 ?_
  refine p_iald (pc := 5) X shM_7 dX10_rings_5 ?_
  refine s_iload_n (pc := 6) X rfl dX10_rings_6 ?_
  refine p_icmp_ne (pc := 7) X 21 rfl dX10_rings_7 ?_ ?_
  · refine s_aload_n (pc := 21) X rfl dX10_rings_21 ?_
    refine s_iload_n (pc := 22) X rfl dX10_rings_22 ?_
    refine s_aload_n (pc := 23) X rfl dX10_rings_23 ?_
    refine s_getI (pc := 24) X shM_0 rfl fl_RX10_99 dX10_rings_24 ?_
    refine s_iconst (pc := 27) X ic_m1 dX10_rings_27 ?_
    refine p_callV (pc := 28) (As := [.int l1, .int (x 0 3), .int (-1)]) (st := []) X lk_RX10_121 (c_X10_forceBy l D cy ad fu _ _ _ _) shM_0 rfl rfl rfl rfl ⟨by decide, by decide⟩ (Nat.le_of_ble_eq_true rfl) dX10_rings_28 (fun r_1 => ?_)
    refine s_bipush (pc := 31) X bp_6 dX10_rings_31 ?_
    refine p_icmp_lt (pc := 33) X 46 rfl dX10_rings_33 ?_ ?_
    · refine s_iconst (pc := 46) X ic_0 dX10_rings_46 ?_
      exact p_iret (pc := 47) X dX10_rings_47
    · refine s_aload_n (pc := 36) X rfl dX10_rings_36 ?_
      refine s_getR (pc := 37) X shM_0 rfl fl_RX10_16 dX10_rings_37 ?_
      refine s_iload_n (pc := 40) X rfl dX10_rings_40 ?_
      refine p_iald (pc := 41) X shM_3 dX10_rings_41 ?_
      refine s_iconst (pc := 42) X ic_1 dX10_rings_42 ?_
      refine p_icmp_ne (pc := 43) X 48 rfl dX10_rings_43 ?_ ?_
      · refine s_iconst (pc := 48) X ic_0 dX10_rings_48 ?_
        refine s_istore_n (pc := 49) X [some (.ref (ad 0)), some (.int l1), some (.int l2), some (.int 0)] rfl (by decide) dX10_rings_49 ?_
        refine tL_X10_rings_50 X ?_ fu _
        refine s_iconst (pc := 99) X ic_0 dX10_rings_99 ?_
        exact p_iret (pc := 100) X dX10_rings_100
      · refine s_iconst (pc := 46) X ic_0 dX10_rings_46 ?_
        exact p_iret (pc := 47) X dX10_rings_47
  · refine s_aload_n (pc := 10) X rfl dX10_rings_10 ?_
    refine s_iload_n (pc := 11) X rfl dX10_rings_11 ?_
    refine s_aload_n (pc := 12) X rfl dX10_rings_12 ?_
    refine s_getI (pc := 13) X shM_0 rfl fl_RX10_99 dX10_rings_13 ?_
    refine s_iconst (pc := 16) X ic_m1 dX10_rings_16 ?_
    refine p_callV (pc := 17) (As := [.int l1, .int (x 0 3), .int (-1)]) (st := []) X lk_RX10_132 (c_X10_ownBy l D cy ad fu _ _ _ _) shM_0 rfl rfl rfl rfl ⟨by decide, by decide⟩ (Nat.le_of_ble_eq_true rfl) dX10_rings_17 (fun r_4 => ?_)
    exact p_iret (pc := 20) X dX10_rings_20

-- X10_would
def F_X10_would (fu : Nat) (l1 : Int32) (l2 : Int32) (x : Mem) : Option Int32 :=
  (clp (F_X10_isPull fu l1 x) (fun r_1 => (if r_1 = 0 then (some (-1)) else (clp (F_X10_in fu l2 0 7 x) (fun r_2 => (if r_2 = 0 then (some (-1)) else (clp (F_X10_rings fu l1 l2 x) (fun r_3 => (some r_3)))))))))
set_option maxRecDepth 100000 in
set_option maxHeartbeats 4000000 in
theorem c_X10_would (l : Launch) (D : va_G) (cy : ClassId) (ad : Nat → Nat) (fu : Nat) (l1 : Int32) (l2 : Int32) (x : Mem) : Ct l D cy ad shM yX10_would cX10_would 3 (some .int) 6 240 [.ref (ad 0), .int l1, .int l2] x (pr (F_X10_would fu l1 l2 x) x) := by
  refine ct_of [some (.ref (ad 0)), some (.int l1), some (.int l2)] (by decide) (Nat.le_of_ble_eq_true rfl) rfl rfl ?_
  intro p e s m args below meth c A X
  have X : Cx p s m args meth c RX10 cX10_would 3 (some .int) D cy ad shM A := X
  unfold F_X10_would
  refine s_aload_n (pc := 0) X rfl dX10_would_0 ?_
  refine s_iload_n (pc := 1) X rfl dX10_would_1 ?_
  refine p_callV (pc := 2) (As := [.int l1]) (st := []) X lk_RX10_128 (c_X10_isPull l D cy ad fu _ _) shM_0 rfl rfl rfl rfl ⟨by decide, by decide⟩ (Nat.le_of_ble_eq_true rfl) dX10_would_2 (fun r_1 => ?_)
  refine p_if_eq (pc := 5) X 27 rfl dX10_would_5 ?_ ?_
  · refine s_iconst (pc := 27) X ic_m1 dX10_would_27 ?_
    exact p_iret (pc := 28) X dX10_would_28
  · refine s_iload_n (pc := 8) X rfl dX10_would_8 ?_
    refine s_iconst (pc := 9) X ic_0 dX10_would_9 ?_
    refine s_bipush (pc := 10) X bp_7 dX10_would_10 ?_
    refine p_callS (pc := 12) (As := [.int l2, .int 0, .int 7]) (st := []) X lk_RX10_95 (c_X10_in l D cy ad fu _ _ _ _) rfl rfl ⟨by decide, by decide⟩ (Nat.le_of_ble_eq_true rfl) dX10_would_12 (fun r_2 => ?_)
    refine p_if_eq (pc := 15) X 27 rfl dX10_would_15 ?_ ?_
    · refine s_iconst (pc := 27) X ic_m1 dX10_would_27 ?_
      exact p_iret (pc := 28) X dX10_would_28
    · refine s_aload_n (pc := 18) X rfl dX10_would_18 ?_
      refine s_iload_n (pc := 19) X rfl dX10_would_19 ?_
      refine s_iload_n (pc := 20) X rfl dX10_would_20 ?_
      refine p_callV (pc := 21) (As := [.int l1, .int l2]) (st := []) X lk_RX10_138 (c_X10_rings l D cy ad fu _ _ _) shM_0 rfl rfl rfl rfl ⟨by decide, by decide⟩ (Nat.le_of_ble_eq_true rfl) dX10_would_21 (fun r_3 => ?_)
      refine s_goto (pc := 24) X 28 rfl dX10_would_24 ?_
      exact p_iret (pc := 28) X dX10_would_28

-- X10_means
def L_X10_means_49 (fu : Nat) (l1 : Int32) (l2 : Int32) (l3 : Int32) (l5 : Int32) (x : Mem) : Nat → Int32 → Int32 → (Int32 → Option Int32) → Option Int32
  | 0, _, _, _ => none
  | n + 1, l4, l6, K => (if (8 : Int32) ≤ l6 then (K l4) else (clp (F_X10_rings fu l5 l6 x) (fun r_4 => (jn (fun (k_5 : Int32 → Option Int32) => (if l2 = 0 then (if r_4 ≤ 0 then (k_5 0) else (k_5 1)) else (if r_4 = l2 then (k_5 1) else (k_5 0)))) (fun v_6 => (jn (fun (k_7 : Int32 → Option Int32) => (if v_6 = 0 then (k_7 0) else (if l1 < 0 then (if l3 < 0 then (k_7 1) else (if (((l3 : Int32) >>> (l6 &&& 31)) &&& 1) = 1 then (k_7 1) else (k_7 0))) else (chk l6 8 (if (x 2 (l6 : Int32).toNatClampNeg) = l1 then (if l3 < 0 then (k_7 1) else (if (((l3 : Int32) >>> (l6 &&& 31)) &&& 1) = 1 then (k_7 1) else (k_7 0))) else (k_7 0)))))) (fun v_8 => (jn (fun (k_9 : Int32 → Option Int32) => (if v_8 = 0 then (k_9 0) else (k_9 ((1 : Int32) <<< (l5 &&& 31))))) (fun v_10 => (letv (l4 ||| v_10) (fun l4_11 => (L_X10_means_49 fu l1 l2 l3 l5 x n l4_11 (l6 + 1) K))))))))))))
set_option maxRecDepth 100000 in
set_option maxHeartbeats 4000000 in
theorem tL_X10_means_49 {p : Program} {l : Launch} {e : Env} {s : State} {m : MethodId} {args : Array Value} {below : List Frame} {meth : Method} {c : Code} {D : va_G} {cy : ClassId} {ad : Nat → Nat} {A : Nat → Prop} {fu : Nat} (X : Cx p s m args meth c RX10 cX10_means 9 (some .int) D cy ad shM A) {l1 : Int32} {l2 : Int32} {l3 : Int32} {l5 : Int32} {x : Mem} {K : Int32 → Option Int32} (hK : ∀ (l4 : Int32), Sim p l e ({ frames := 6, cells := 0, slots := 0, locals := 240 } : Room) s m args below meth c 9 (some .int) D cy ad shM A 161 [some (.ref (ad 0)), some (.int l1), some (.int l2), some (.int l3), some (.int l4), some (.int l5), none, none, none] [] x (pr (K l4) x)) : ∀ (n : Nat) (l4 : Int32) (l6 : Int32), Sim p l e ({ frames := 6, cells := 0, slots := 0, locals := 240 } : Room) s m args below meth c 9 (some .int) D cy ad shM A 49 [some (.ref (ad 0)), some (.int l1), some (.int l2), some (.int l3), some (.int l4), some (.int l5), some (.int l6), none, none] [] x (pr (L_X10_means_49 fu l1 l2 l3 l5 x n l4 l6 K) x) := by
  intro n
  induction n with
  | zero =>
    intro l4 l6
    rw [L_X10_means_49]
    exact p_none
  | succ n ih =>
    intro l4 l6
    rw [L_X10_means_49]
    refine s_iload (pc := 49) X rfl dX10_means_49 ?_
    refine s_bipush (pc := 51) X bp_8 dX10_means_51 ?_
    refine p_icmp_ge (pc := 53) X 161 rfl dX10_means_53 ?_ ?_
    · refine s_mask [true, true, true, true, true, true, false, false, false] ?_
      exact hK _
    · refine s_aload_n (pc := 56) X rfl dX10_means_56 ?_
      refine s_iload (pc := 57) X rfl dX10_means_57 ?_
      refine s_iload (pc := 59) X rfl dX10_means_59 ?_
      refine p_callV (pc := 61) (As := [.int l5, .int l6]) (st := []) X lk_RX10_138 (c_X10_rings l D cy ad fu _ _ _) shM_0 rfl rfl rfl rfl ⟨by decide, by decide⟩ (Nat.le_of_ble_eq_true rfl) dX10_means_61 (fun r_4 => ?_)
      refine s_istore (pc := 64) X [some (.ref (ad 0)), some (.int l1), some (.int l2), some (.int l3), some (.int l4), some (.int l5), some (.int l6), some (.int r_4), none] rfl (by decide) dX10_means_64 ?_
      refine s_iload_n (pc := 66) X rfl dX10_means_66 ?_
      refine p_jn (fun (k_5 : Int32 → Option Int32) => ∀ (v_6 : Int32), Sim p l e ({ frames := 6, cells := 0, slots := 0, locals := 240 } : Room) s m args below meth c 9 (some .int) D cy ad shM A 94 [some (.ref (ad 0)), some (.int l1), some (.int l2), some (.int l3), some (.int l4), some (.int l5), some (.int l6), none, none] [.int v_6] x (pr (k_5 v_6) x)) ?_ (fun k_5 hk_5 => ?_)
      · intro v_6
        refine s_istore (pc := 94) X [some (.ref (ad 0)), some (.int l1), some (.int l2), some (.int l3), some (.int l4), some (.int l5), some (.int l6), none, some (.int v_6)] rfl (by decide) dX10_means_94 ?_
        refine s_iload (pc := 96) X rfl dX10_means_96 ?_
        refine p_jn (fun (k_7 : Int32 → Option Int32) => ∀ (v_8 : Int32), Sim p l e ({ frames := 6, cells := 0, slots := 0, locals := 240 } : Room) s m args below meth c 9 (some .int) D cy ad shM A 135 [some (.ref (ad 0)), some (.int l1), some (.int l2), some (.int l3), some (.int l4), some (.int l5), some (.int l6), none, none] [.int v_8] x (pr (k_7 v_8) x)) ?_ (fun k_7 hk_7 => ?_)
        · intro v_8
          refine s_istore (pc := 135) X [some (.ref (ad 0)), some (.int l1), some (.int l2), some (.int l3), some (.int l4), some (.int l5), some (.int l6), none, some (.int v_8)] rfl (by decide) dX10_means_135 ?_
          refine s_iload (pc := 137) X rfl dX10_means_137 ?_
          refine s_iload (pc := 139) X rfl dX10_means_139 ?_
          refine p_jn (fun (k_9 : Int32 → Option Int32) => ∀ (v_10 : Int32), Sim p l e ({ frames := 6, cells := 0, slots := 0, locals := 240 } : Room) s m args below meth c 9 (some .int) D cy ad shM A 152 [some (.ref (ad 0)), some (.int l1), some (.int l2), some (.int l3), none, some (.int l5), some (.int l6), none, none] [.int v_10, .int l4] x (pr (k_9 v_10) x)) ?_ (fun k_9 hk_9 => ?_)
          · intro v_10
            refine s_ior (pc := 152) X dX10_means_152 ?_
            refine p_letv (fun l4_11 => ?_)
            refine s_istore (pc := 153) X [some (.ref (ad 0)), some (.int l1), some (.int l2), some (.int l3), some (.int l4_11), some (.int l5), some (.int l6), none, none] rfl (by decide) dX10_means_153 ?_
            refine s_iinc (pc := 155) X [some (.ref (ad 0)), some (.int l1), some (.int l2), some (.int l3), some (.int l4_11), some (.int l5), some (.int (l6 + 1)), none, none] rfl (by decide) rfl ic_1 dX10_means_155 ?_
            refine s_goto (pc := 158) X 49 rfl dX10_means_158 ?_
            exact ih _ _
          · refine p_if_eq (pc := 141) X 151 rfl dX10_means_141 ?_ ?_
            · refine s_iconst (pc := 151) X ic_0 dX10_means_151 ?_
              refine s_mask [true, true, true, true, false, true, true, false, false] ?_
              exact hk_9 _
            · refine s_iconst (pc := 144) X ic_1 dX10_means_144 ?_
              refine s_iload (pc := 145) X rfl dX10_means_145 ?_
              refine s_ishl (pc := 147) X dX10_means_147 ?_
              refine s_goto (pc := 148) X 152 rfl dX10_means_148 ?_
              refine s_mask [true, true, true, true, false, true, true, false, false] ?_
              exact hk_9 _
        · refine p_if_eq (pc := 98) X 134 rfl dX10_means_98 ?_ ?_
          · refine s_iconst (pc := 134) X ic_0 dX10_means_134 ?_
            refine s_mask [true, true, true, true, true, true, true, false, false] ?_
            exact hk_7 _
          · refine s_iload_n (pc := 101) X rfl dX10_means_101 ?_
            refine p_if_lt (pc := 102) X 116 rfl dX10_means_102 ?_ ?_
            · refine s_iload_n (pc := 116) X rfl dX10_means_116 ?_
              refine p_if_lt (pc := 117) X 130 rfl dX10_means_117 ?_ ?_
              · refine s_iconst (pc := 130) X ic_1 dX10_means_130 ?_
                refine s_goto (pc := 131) X 135 rfl dX10_means_131 ?_
                refine s_mask [true, true, true, true, true, true, true, false, false] ?_
                exact hk_7 _
              · refine s_iload_n (pc := 120) X rfl dX10_means_120 ?_
                refine s_iload (pc := 121) X rfl dX10_means_121 ?_
                refine s_ishr (pc := 123) X dX10_means_123 ?_
                refine s_iconst (pc := 124) X ic_1 dX10_means_124 ?_
                refine s_iand (pc := 125) X dX10_means_125 ?_
                refine s_iconst (pc := 126) X ic_1 dX10_means_126 ?_
                refine p_icmp_ne (pc := 127) X 134 rfl dX10_means_127 ?_ ?_
                · refine s_iconst (pc := 134) X ic_0 dX10_means_134 ?_
                  refine s_mask [true, true, true, true, true, true, true, false, false] ?_
                  exact hk_7 _
                · refine s_iconst (pc := 130) X ic_1 dX10_means_130 ?_
                  refine s_goto (pc := 131) X 135 rfl dX10_means_131 ?_
                  refine s_mask [true, true, true, true, true, true, true, false, false] ?_
                  exact hk_7 _
            · refine s_aload_n (pc := 105) X rfl dX10_means_105 ?_
              refine s_getR (pc := 106) X shM_0 rfl fl_RX10_13 dX10_means_106 ?_
              refine s_iload (pc := 109) X rfl dX10_means_109 ?_
              refine p_iald (pc := 111) X shM_2 dX10_means_111 ?_
              refine s_iload_n (pc := 112) X rfl dX10_means_112 ?_
              refine p_icmp_ne (pc := 113) X 134 rfl dX10_means_113 ?_ ?_
              · refine s_iconst (pc := 134) X ic_0 dX10_means_134 ?_
                refine s_mask [true, true, true, true, true, true, true, false, false] ?_
                exact hk_7 _
              · refine s_iload_n (pc := 116) X rfl dX10_means_116 ?_
                refine p_if_lt (pc := 117) X 130 rfl dX10_means_117 ?_ ?_
                · refine s_iconst (pc := 130) X ic_1 dX10_means_130 ?_
                  refine s_goto (pc := 131) X 135 rfl dX10_means_131 ?_
                  refine s_mask [true, true, true, true, true, true, true, false, false] ?_
                  exact hk_7 _
                · refine s_iload_n (pc := 120) X rfl dX10_means_120 ?_
                  refine s_iload (pc := 121) X rfl dX10_means_121 ?_
                  refine s_ishr (pc := 123) X dX10_means_123 ?_
                  refine s_iconst (pc := 124) X ic_1 dX10_means_124 ?_
                  refine s_iand (pc := 125) X dX10_means_125 ?_
                  refine s_iconst (pc := 126) X ic_1 dX10_means_126 ?_
                  refine p_icmp_ne (pc := 127) X 134 rfl dX10_means_127 ?_ ?_
                  · refine s_iconst (pc := 134) X ic_0 dX10_means_134 ?_
                    refine s_mask [true, true, true, true, true, true, true, false, false] ?_
                    exact hk_7 _
                  · refine s_iconst (pc := 130) X ic_1 dX10_means_130 ?_
                    refine s_goto (pc := 131) X 135 rfl dX10_means_131 ?_
                    refine s_mask [true, true, true, true, true, true, true, false, false] ?_
                    exact hk_7 _
      · refine p_if_ne (pc := 67) X 83 rfl dX10_means_67 ?_ ?_
        · refine s_iload (pc := 83) X rfl dX10_means_83 ?_
          refine s_iload_n (pc := 85) X rfl dX10_means_85 ?_
          refine p_icmp_ne (pc := 86) X 93 rfl dX10_means_86 ?_ ?_
          · refine s_iconst (pc := 93) X ic_0 dX10_means_93 ?_
            refine s_mask [true, true, true, true, true, true, true, false, false] ?_
            exact hk_5 _
          · refine s_iconst (pc := 89) X ic_1 dX10_means_89 ?_
            refine s_goto (pc := 90) X 94 rfl dX10_means_90 ?_
            refine s_mask [true, true, true, true, true, true, true, false, false] ?_
            exact hk_5 _
        · refine s_iload (pc := 70) X rfl dX10_means_70 ?_
          refine p_if_le (pc := 72) X 79 rfl dX10_means_72 ?_ ?_
          · refine s_iconst (pc := 79) X ic_0 dX10_means_79 ?_
            refine s_goto (pc := 80) X 94 rfl dX10_means_80 ?_
            refine s_mask [true, true, true, true, true, true, true, false, false] ?_
            exact hk_5 _
          · refine s_iconst (pc := 75) X ic_1 dX10_means_75 ?_
            refine s_goto (pc := 76) X 94 rfl dX10_means_76 ?_
            refine s_mask [true, true, true, true, true, true, true, false, false] ?_
            exact hk_5 _

def L_X10_means_37 (fu : Nat) (l1 : Int32) (l2 : Int32) (l3 : Int32) (x : Mem) : Nat → Int32 → Int32 → (Int32 → Option Int32) → Option Int32
  | 0, _, _, _ => none
  | n + 1, l4, l5, K => (if (x 0 4) ≤ l5 then (K l4) else (L_X10_means_49 fu l1 l2 l3 l5 x fu l4 0 (fun l4_12 => (L_X10_means_37 fu l1 l2 l3 x n l4_12 (l5 + 1) K))))
set_option maxRecDepth 100000 in
set_option maxHeartbeats 4000000 in
theorem tL_X10_means_37 {p : Program} {l : Launch} {e : Env} {s : State} {m : MethodId} {args : Array Value} {below : List Frame} {meth : Method} {c : Code} {D : va_G} {cy : ClassId} {ad : Nat → Nat} {A : Nat → Prop} {fu : Nat} (X : Cx p s m args meth c RX10 cX10_means 9 (some .int) D cy ad shM A) {l1 : Int32} {l2 : Int32} {l3 : Int32} {x : Mem} {K : Int32 → Option Int32} (hK : ∀ (l4 : Int32), Sim p l e ({ frames := 6, cells := 0, slots := 0, locals := 240 } : Room) s m args below meth c 9 (some .int) D cy ad shM A 167 [none, none, none, none, some (.int l4), none, none, none, none] [] x (pr (K l4) x)) : ∀ (n : Nat) (l4 : Int32) (l5 : Int32), Sim p l e ({ frames := 6, cells := 0, slots := 0, locals := 240 } : Room) s m args below meth c 9 (some .int) D cy ad shM A 37 [some (.ref (ad 0)), some (.int l1), some (.int l2), some (.int l3), some (.int l4), some (.int l5), none, none, none] [] x (pr (L_X10_means_37 fu l1 l2 l3 x n l4 l5 K) x) := by
  intro n
  induction n with
  | zero =>
    intro l4 l5
    rw [L_X10_means_37]
    exact p_none
  | succ n ih =>
    intro l4 l5
    rw [L_X10_means_37]
    refine s_iload (pc := 37) X rfl dX10_means_37 ?_
    refine s_aload_n (pc := 39) X rfl dX10_means_39 ?_
    refine s_getI (pc := 40) X shM_0 rfl fl_RX10_91 dX10_means_40 ?_
    refine p_icmp_ge (pc := 43) X 167 rfl dX10_means_43 ?_ ?_
    · refine s_mask [false, false, false, false, true, false, false, false, false] ?_
      exact hK _
    · refine s_iconst (pc := 46) X ic_0 dX10_means_46 ?_
      refine s_istore (pc := 47) X [some (.ref (ad 0)), some (.int l1), some (.int l2), some (.int l3), some (.int l4), some (.int l5), some (.int 0), none, none] rfl (by decide) dX10_means_47 ?_
      refine tL_X10_means_49 X (fun l4_12 => ?_) fu _ _
      refine s_iinc (pc := 161) X [some (.ref (ad 0)), some (.int l1), some (.int l2), some (.int l3), some (.int l4_12), some (.int (l5 + 1)), none, none, none] rfl (by decide) rfl ic_1 dX10_means_161 ?_
      refine s_goto (pc := 164) X 37 rfl dX10_means_164 ?_
      exact ih _ _

def F_X10_means (fu : Nat) (l1 : Int32) (l2 : Int32) (l3 : Int32) (x : Mem) : Option Int32 :=
  (clp (F_X10_in fu l1 (-1) 5 x) (fun r_1 => (if r_1 = 0 then (some (-1)) else (clp (F_X10_in fu l2 0 2 x) (fun r_2 => (if r_2 = 0 then (some (-1)) else (clp (F_X10_in fu l3 (-1) 255 x) (fun r_3 => (if r_3 = 0 then (some (-1)) else (L_X10_means_37 fu l1 l2 l3 x fu 0 0 (fun l4_13 => (some l4_13))))))))))))
set_option maxRecDepth 100000 in
set_option maxHeartbeats 4000000 in
theorem c_X10_means (l : Launch) (D : va_G) (cy : ClassId) (ad : Nat → Nat) (fu : Nat) (l1 : Int32) (l2 : Int32) (l3 : Int32) (x : Mem) : Ct l D cy ad shM yX10_means cX10_means 9 (some .int) 6 240 [.ref (ad 0), .int l1, .int l2, .int l3] x (pr (F_X10_means fu l1 l2 l3 x) x) := by
  refine ct_of [some (.ref (ad 0)), some (.int l1), some (.int l2), some (.int l3), none, none, none, none, none] (by decide) (Nat.le_of_ble_eq_true rfl) rfl rfl ?_
  intro p e s m args below meth c A X
  have X : Cx p s m args meth c RX10 cX10_means 9 (some .int) D cy ad shM A := X
  unfold F_X10_means
  refine s_iload_n (pc := 0) X rfl dX10_means_0 ?_
  refine s_iconst (pc := 1) X ic_m1 dX10_means_1 ?_
  refine s_iconst (pc := 2) X ic_5 dX10_means_2 ?_
  refine p_callS (pc := 3) (As := [.int l1, .int (-1), .int 5]) (st := []) X lk_RX10_95 (c_X10_in l D cy ad fu _ _ _ _) rfl rfl ⟨by decide, by decide⟩ (Nat.le_of_ble_eq_true rfl) dX10_means_3 (fun r_1 => ?_)
  refine p_if_eq (pc := 6) X 29 rfl dX10_means_6 ?_ ?_
  · refine s_iconst (pc := 29) X ic_m1 dX10_means_29 ?_
    exact p_iret (pc := 30) X dX10_means_30
  · refine s_iload_n (pc := 9) X rfl dX10_means_9 ?_
    refine s_iconst (pc := 10) X ic_0 dX10_means_10 ?_
    refine s_iconst (pc := 11) X ic_2 dX10_means_11 ?_
    refine p_callS (pc := 12) (As := [.int l2, .int 0, .int 2]) (st := []) X lk_RX10_95 (c_X10_in l D cy ad fu _ _ _ _) rfl rfl ⟨by decide, by decide⟩ (Nat.le_of_ble_eq_true rfl) dX10_means_12 (fun r_2 => ?_)
    refine p_if_eq (pc := 15) X 29 rfl dX10_means_15 ?_ ?_
    · refine s_iconst (pc := 29) X ic_m1 dX10_means_29 ?_
      exact p_iret (pc := 30) X dX10_means_30
    · refine s_iload_n (pc := 18) X rfl dX10_means_18 ?_
      refine s_iconst (pc := 19) X ic_m1 dX10_means_19 ?_
      refine s_sipush (pc := 20) X sp_255 dX10_means_20 ?_
      refine p_callS (pc := 23) (As := [.int l3, .int (-1), .int 255]) (st := []) X lk_RX10_95 (c_X10_in l D cy ad fu _ _ _ _) rfl rfl ⟨by decide, by decide⟩ (Nat.le_of_ble_eq_true rfl) dX10_means_23 (fun r_3 => ?_)
      refine p_if_ne (pc := 26) X 31 rfl dX10_means_26 ?_ ?_
      · refine s_iconst (pc := 31) X ic_0 dX10_means_31 ?_
        refine s_istore (pc := 32) X [some (.ref (ad 0)), some (.int l1), some (.int l2), some (.int l3), some (.int 0), none, none, none, none] rfl (by decide) dX10_means_32 ?_
        refine s_iconst (pc := 34) X ic_0 dX10_means_34 ?_
        refine s_istore (pc := 35) X [some (.ref (ad 0)), some (.int l1), some (.int l2), some (.int l3), some (.int 0), some (.int 0), none, none, none] rfl (by decide) dX10_means_35 ?_
        refine tL_X10_means_37 X (fun l4_13 => ?_) fu _ _
        refine s_iload (pc := 167) X rfl dX10_means_167 ?_
        exact p_iret (pc := 169) X dX10_means_169
      · refine s_iconst (pc := 29) X ic_m1 dX10_means_29 ?_
        exact p_iret (pc := 30) X dX10_means_30

-- X10_servant
def F_X10_servant (fu : Nat) (l1 : Int32) (l2 : Int32) (l3 : Int32) (x : Mem) : Res :=
  (clp (F_X10_in fu l1 0 3 x) (fun r_1 => (if r_1 = 0 then (some ((-1), x)) else (clp (F_X10_in fu l2 0 30 x) (fun r_2 => (if r_2 = 0 then (some ((-1), x)) else (clp (F_X10_in fu l3 0 31 x) (fun r_3 => (if r_3 = 0 then (some ((-1), x)) else (if (x 0 19) = 5 then (some ((-3), x)) else (chk (x 0 19) 5 (letm (wr x 15 ((x 0 19) : Int32).toNatClampNeg l1) (fun x_4 => (chk (x_4 0 19) 5 (letm (wr x_4 16 ((x_4 0 19) : Int32).toNatClampNeg l2) (fun x_5 => (chk (x_5 0 19) 5 (letm (wr x_5 17 ((x_5 0 19) : Int32).toNatClampNeg l3) (fun x_6 => (letm (wr x_6 0 19 ((x_6 0 19) + 1)) (fun x_7 => (some (((x_7 0 19) - 1), x_7)))))))))))))))))))))))
set_option maxRecDepth 100000 in
set_option maxHeartbeats 4000000 in
theorem c_X10_servant (l : Launch) (D : va_G) (cy : ClassId) (ad : Nat → Nat) (fu : Nat) (l1 : Int32) (l2 : Int32) (l3 : Int32) (x : Mem) : Ct l D cy ad shM yX10_servant cX10_servant 4 (some .int) 2 80 [.ref (ad 0), .int l1, .int l2, .int l3] x (F_X10_servant fu l1 l2 l3 x) := by
  refine ct_of [some (.ref (ad 0)), some (.int l1), some (.int l2), some (.int l3)] (by decide) (Nat.le_of_ble_eq_true rfl) rfl rfl ?_
  intro p e s m args below meth c A X
  have X : Cx p s m args meth c RX10 cX10_servant 4 (some .int) D cy ad shM A := X
  unfold F_X10_servant
  refine s_iload_n (pc := 0) X rfl dX10_servant_0 ?_
  refine s_iconst (pc := 1) X ic_0 dX10_servant_1 ?_
  refine s_iconst (pc := 2) X ic_3 dX10_servant_2 ?_
  refine s_callSp (pc := 3) (As := [.int l1, .int 0, .int 3]) (st := []) X lk_RX10_95 (c_X10_in l D cy ad fu _ _ _ _) rfl rfl ⟨by decide, by decide⟩ (Nat.le_of_ble_eq_true rfl) dX10_servant_3 (fun r_1 => ?_)
  refine s_if_eq (pc := 6) X 29 rfl dX10_servant_6 ?_ ?_
  · refine s_iconst (pc := 29) X ic_m1 dX10_servant_29 ?_
    exact s_iret (pc := 30) X dX10_servant_30
  · refine s_iload_n (pc := 9) X rfl dX10_servant_9 ?_
    refine s_iconst (pc := 10) X ic_0 dX10_servant_10 ?_
    refine s_bipush (pc := 11) X bp_30 dX10_servant_11 ?_
    refine s_callSp (pc := 13) (As := [.int l2, .int 0, .int 30]) (st := []) X lk_RX10_95 (c_X10_in l D cy ad fu _ _ _ _) rfl rfl ⟨by decide, by decide⟩ (Nat.le_of_ble_eq_true rfl) dX10_servant_13 (fun r_2 => ?_)
    refine s_if_eq (pc := 16) X 29 rfl dX10_servant_16 ?_ ?_
    · refine s_iconst (pc := 29) X ic_m1 dX10_servant_29 ?_
      exact s_iret (pc := 30) X dX10_servant_30
    · refine s_iload_n (pc := 19) X rfl dX10_servant_19 ?_
      refine s_iconst (pc := 20) X ic_0 dX10_servant_20 ?_
      refine s_bipush (pc := 21) X bp_31 dX10_servant_21 ?_
      refine s_callSp (pc := 23) (As := [.int l3, .int 0, .int 31]) (st := []) X lk_RX10_95 (c_X10_in l D cy ad fu _ _ _ _) rfl rfl ⟨by decide, by decide⟩ (Nat.le_of_ble_eq_true rfl) dX10_servant_23 (fun r_3 => ?_)
      refine s_if_ne (pc := 26) X 31 rfl dX10_servant_26 ?_ ?_
      · refine s_aload_n (pc := 31) X rfl dX10_servant_31 ?_
        refine s_getI (pc := 32) X shM_0 rfl fl_RX10_141 dX10_servant_32 ?_
        refine s_iconst (pc := 35) X ic_5 dX10_servant_35 ?_
        refine s_icmp_ne (pc := 36) X 42 rfl dX10_servant_36 ?_ ?_
        · refine s_aload_n (pc := 42) X rfl dX10_servant_42 ?_
          refine s_getR (pc := 43) X shM_0 rfl fl_RX10_52 dX10_servant_43 ?_
          refine s_aload_n (pc := 46) X rfl dX10_servant_46 ?_
          refine s_getI (pc := 47) X shM_0 rfl fl_RX10_141 dX10_servant_47 ?_
          refine s_iload_n (pc := 50) X rfl dX10_servant_50 ?_
          refine s_iast (pc := 51) X shM_15 dX10_servant_51 ?_
          refine s_letm (fun x_4 => ?_)
          refine s_aload_n (pc := 52) X rfl dX10_servant_52 ?_
          refine s_getR (pc := 53) X shM_0 rfl fl_RX10_55 dX10_servant_53 ?_
          refine s_aload_n (pc := 56) X rfl dX10_servant_56 ?_
          refine s_getI (pc := 57) X shM_0 rfl fl_RX10_141 dX10_servant_57 ?_
          refine s_iload_n (pc := 60) X rfl dX10_servant_60 ?_
          refine s_iast (pc := 61) X shM_16 dX10_servant_61 ?_
          refine s_letm (fun x_5 => ?_)
          refine s_aload_n (pc := 62) X rfl dX10_servant_62 ?_
          refine s_getR (pc := 63) X shM_0 rfl fl_RX10_58 dX10_servant_63 ?_
          refine s_aload_n (pc := 66) X rfl dX10_servant_66 ?_
          refine s_getI (pc := 67) X shM_0 rfl fl_RX10_141 dX10_servant_67 ?_
          refine s_iload_n (pc := 70) X rfl dX10_servant_70 ?_
          refine s_iast (pc := 71) X shM_17 dX10_servant_71 ?_
          refine s_letm (fun x_6 => ?_)
          refine s_aload_n (pc := 72) X rfl dX10_servant_72 ?_
          refine s_dup (pc := 73) X rfl dX10_servant_73 ?_
          refine s_getI (pc := 74) X shM_0 rfl fl_RX10_141 dX10_servant_74 ?_
          refine s_iconst (pc := 77) X ic_1 dX10_servant_77 ?_
          refine s_iadd (pc := 78) X dX10_servant_78 ?_
          refine s_put (pc := 79) X shM_0 rfl fp_RX10_141 dX10_servant_79 ?_
          refine s_letm (fun x_7 => ?_)
          refine s_aload_n (pc := 82) X rfl dX10_servant_82 ?_
          refine s_getI (pc := 83) X shM_0 rfl fl_RX10_141 dX10_servant_83 ?_
          refine s_iconst (pc := 86) X ic_1 dX10_servant_86 ?_
          refine s_isub (pc := 87) X dX10_servant_87 ?_
          exact s_iret (pc := 88) X dX10_servant_88
        · refine s_bipush (pc := 39) X bp_m3 dX10_servant_39 ?_
          exact s_iret (pc := 41) X dX10_servant_41
      · refine s_iconst (pc := 29) X ic_m1 dX10_servant_29 ?_
        exact s_iret (pc := 30) X dX10_servant_30
