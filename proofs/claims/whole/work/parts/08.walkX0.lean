-- X0_setTone
def F_X0_setTone (fu : Nat) (l1 : Int32) (l2 : Int32) (x : Mem) : Res :=
  (chk l1 8 (letv (x 15 (l1 : Int32).toNatClampNeg) (fun l3_1 => (chk l1 8 (letm (wr x 15 (l1 : Int32).toNatClampNeg l2) (fun x_2 => (some (l3_1, x_2))))))))
set_option maxRecDepth 100000 in
set_option maxHeartbeats 4000000 in
theorem c_X0_setTone (l : Launch) (D : va_G) (cy : ClassId) (ad : Nat → Nat) (fu : Nat) (l1 : Int32) (l2 : Int32) (x : Mem) : Ct l D cy ad shX yX0_setTone cX0_setTone 4 (some .int) 1 40 [.ref (ad 2), .int l1, .int l2] x (F_X0_setTone fu l1 l2 x) := by
  refine ct_of [some (.ref (ad 2)), some (.int l1), some (.int l2), none] (by decide) (Nat.le_of_ble_eq_true rfl) rfl rfl ?_
  intro p e s m args below meth c A X
  have X : Cx p s m args meth c RX0 cX0_setTone 4 (some .int) D cy ad shX A := X
  unfold F_X0_setTone
  refine s_aload_n (pc := 0) X rfl dX0_setTone_0 ?_
  refine s_getR (pc := 1) X shX_2 rfl fl_RX0_9 dX0_setTone_1 ?_
  refine s_iload_n (pc := 4) X rfl dX0_setTone_4 ?_
  refine s_iald (pc := 5) X shX_15 dX0_setTone_5 ?_
  refine s_letv (fun l3_1 => ?_)
  refine s_istore_n (pc := 6) X [some (.ref (ad 2)), some (.int l1), some (.int l2), some (.int l3_1)] rfl (by decide) dX0_setTone_6 ?_
  refine s_aload_n (pc := 7) X rfl dX0_setTone_7 ?_
  refine s_getR (pc := 8) X shX_2 rfl fl_RX0_9 dX0_setTone_8 ?_
  refine s_iload_n (pc := 11) X rfl dX0_setTone_11 ?_
  refine s_iload_n (pc := 12) X rfl dX0_setTone_12 ?_
  refine s_iast (pc := 13) X shX_15 dX0_setTone_13 ?_
  refine s_letm (fun x_2 => ?_)
  refine s_iload_n (pc := 14) X rfl dX0_setTone_14 ?_
  exact s_iret (pc := 15) X dX0_setTone_15

-- X0_setMute
def F_X0_setMute (fu : Nat) (l1 : Int32) (l2 : Int32) (x : Mem) : Res :=
  (letv (((x 2 2) >>> (l1 &&& 31)) &&& 1) (fun l3_1 => (letm (wr x 2 2 (((x 2 2) &&& (((1 : Int32) <<< (l1 &&& 31)) ^^^ (-1))) ||| ((l2 : Int32) <<< (l1 &&& 31)))) (fun x_2 => (some (l3_1, x_2))))))
set_option maxRecDepth 100000 in
set_option maxHeartbeats 4000000 in
theorem c_X0_setMute (l : Launch) (D : va_G) (cy : ClassId) (ad : Nat → Nat) (fu : Nat) (l1 : Int32) (l2 : Int32) (x : Mem) : Ct l D cy ad shX yX0_setMute cX0_setMute 4 (some .int) 1 40 [.ref (ad 2), .int l1, .int l2] x (F_X0_setMute fu l1 l2 x) := by
  refine ct_of [some (.ref (ad 2)), some (.int l1), some (.int l2), none] (by decide) (Nat.le_of_ble_eq_true rfl) rfl rfl ?_
  intro p e s m args below meth c A X
  have X : Cx p s m args meth c RX0 cX0_setMute 4 (some .int) D cy ad shX A := X
  unfold F_X0_setMute
  refine s_aload_n (pc := 0) X rfl dX0_setMute_0 ?_
  refine s_getI (pc := 1) X shX_2 rfl fl_RX0_18 dX0_setMute_1 ?_
  refine s_iload_n (pc := 4) X rfl dX0_setMute_4 ?_
  refine s_ishr (pc := 5) X dX0_setMute_5 ?_
  refine s_iconst (pc := 6) X ic_1 dX0_setMute_6 ?_
  refine s_iand (pc := 7) X dX0_setMute_7 ?_
  refine s_letv (fun l3_1 => ?_)
  refine s_istore_n (pc := 8) X [some (.ref (ad 2)), some (.int l1), some (.int l2), some (.int l3_1)] rfl (by decide) dX0_setMute_8 ?_
  refine s_aload_n (pc := 9) X rfl dX0_setMute_9 ?_
  refine s_aload_n (pc := 10) X rfl dX0_setMute_10 ?_
  refine s_getI (pc := 11) X shX_2 rfl fl_RX0_18 dX0_setMute_11 ?_
  refine s_iconst (pc := 14) X ic_1 dX0_setMute_14 ?_
  refine s_iload_n (pc := 15) X rfl dX0_setMute_15 ?_
  refine s_ishl (pc := 16) X dX0_setMute_16 ?_
  refine s_iconst (pc := 17) X ic_m1 dX0_setMute_17 ?_
  refine s_ixor (pc := 18) X dX0_setMute_18 ?_
  refine s_iand (pc := 19) X dX0_setMute_19 ?_
  refine s_iload_n (pc := 20) X rfl dX0_setMute_20 ?_
  refine s_iload_n (pc := 21) X rfl dX0_setMute_21 ?_
  refine s_ishl (pc := 22) X dX0_setMute_22 ?_
  refine s_ior (pc := 23) X dX0_setMute_23 ?_
  refine s_put (pc := 24) X shX_2 rfl fp_RX0_18 dX0_setMute_24 ?_
  refine s_letm (fun x_2 => ?_)
  refine s_iload_n (pc := 27) X rfl dX0_setMute_27 ?_
  exact s_iret (pc := 28) X dX0_setMute_28

-- X0_ofTone
def L_X0_ofTone_13 (fu : Nat) (l1 : Int32) (x : Mem) : Nat → Int32 → Int32 → (Int32 → Option Int32) → Option Int32
  | 0, _, _, _ => none
  | n + 1, l2, l3, K => (if (8 : Int32) ≤ l3 then (K l2) else (chk l3 8 (if (x 15 (l3 : Int32).toNatClampNeg) = l1 then (letv (l2 ||| ((1 : Int32) <<< (l3 &&& 31))) (fun l2_1 => (L_X0_ofTone_13 fu l1 x n l2_1 (l3 + 1) K))) else (L_X0_ofTone_13 fu l1 x n l2 (l3 + 1) K))))
set_option maxRecDepth 100000 in
set_option maxHeartbeats 4000000 in
theorem tL_X0_ofTone_13 {p : Program} {l : Launch} {e : Env} {s : State} {m : MethodId} {args : Array Value} {below : List Frame} {meth : Method} {c : Code} {D : va_G} {cy : ClassId} {ad : Nat → Nat} {A : Nat → Prop} {fu : Nat} (X : Cx p s m args meth c RX0 cX0_ofTone 4 (some .int) D cy ad shX A) {l1 : Int32} {x : Mem} {K : Int32 → Option Int32} (hK : ∀ (l2 : Int32), Sim p l e ({ frames := 1, cells := 0, slots := 0, locals := 40 } : Room) s m args below meth c 4 (some .int) D cy ad shX A 41 [none, none, some (.int l2), none] [] x (pr (K l2) x)) : ∀ (n : Nat) (l2 : Int32) (l3 : Int32), Sim p l e ({ frames := 1, cells := 0, slots := 0, locals := 40 } : Room) s m args below meth c 4 (some .int) D cy ad shX A 13 [some (.ref (ad 2)), some (.int l1), some (.int l2), some (.int l3)] [] x (pr (L_X0_ofTone_13 fu l1 x n l2 l3 K) x) := by
  intro n
  induction n with
  | zero =>
    intro l2 l3
    rw [L_X0_ofTone_13]
    exact p_none
  | succ n ih =>
    intro l2 l3
    rw [L_X0_ofTone_13]
    refine s_iload_n (pc := 13) X rfl dX0_ofTone_13 ?_
    refine s_bipush (pc := 14) X bp_8 dX0_ofTone_14 ?_
    refine p_icmp_ge (pc := 16) X 41 rfl dX0_ofTone_16 ?_ ?_
    · refine s_mask [false, false, true, false] ?_
      exact hK _
    · refine s_aload_n (pc := 19) X rfl dX0_ofTone_19 ?_
      refine s_getR (pc := 20) X shX_2 rfl fl_RX0_9 dX0_ofTone_20 ?_
      refine s_iload_n (pc := 23) X rfl dX0_ofTone_23 ?_
      refine p_iald (pc := 24) X shX_15 dX0_ofTone_24 ?_
      refine s_iload_n (pc := 25) X rfl dX0_ofTone_25 ?_
      refine p_icmp_ne (pc := 26) X 35 rfl dX0_ofTone_26 ?_ ?_
      · refine s_iinc (pc := 35) X [some (.ref (ad 2)), some (.int l1), some (.int l2), some (.int (l3 + 1))] rfl (by decide) rfl ic_1 dX0_ofTone_35 ?_
        refine s_goto (pc := 38) X 13 rfl dX0_ofTone_38 ?_
        exact ih _ _
      · refine s_iload_n (pc := 29) X rfl dX0_ofTone_29 ?_
        refine s_iconst (pc := 30) X ic_1 dX0_ofTone_30 ?_
        refine s_iload_n (pc := 31) X rfl dX0_ofTone_31 ?_
        refine s_ishl (pc := 32) X dX0_ofTone_32 ?_
        refine s_ior (pc := 33) X dX0_ofTone_33 ?_
        refine p_letv (fun l2_1 => ?_)
        refine s_istore_n (pc := 34) X [some (.ref (ad 2)), some (.int l1), some (.int l2_1), some (.int l3)] rfl (by decide) dX0_ofTone_34 ?_
        refine s_iinc (pc := 35) X [some (.ref (ad 2)), some (.int l1), some (.int l2_1), some (.int (l3 + 1))] rfl (by decide) rfl ic_1 dX0_ofTone_35 ?_
        refine s_goto (pc := 38) X 13 rfl dX0_ofTone_38 ?_
        exact ih _ _

def F_X0_ofTone (fu : Nat) (l1 : Int32) (x : Mem) : Option Int32 :=
  (if l1 = (-1) then (some 255) else (L_X0_ofTone_13 fu l1 x fu 0 0 (fun l2_2 => (some l2_2))))
set_option maxRecDepth 100000 in
set_option maxHeartbeats 4000000 in
theorem c_X0_ofTone (l : Launch) (D : va_G) (cy : ClassId) (ad : Nat → Nat) (fu : Nat) (l1 : Int32) (x : Mem) : Ct l D cy ad shX yX0_ofTone cX0_ofTone 4 (some .int) 1 40 [.ref (ad 2), .int l1] x (pr (F_X0_ofTone fu l1 x) x) := by
  refine ct_of [some (.ref (ad 2)), some (.int l1), none, none] (by decide) (Nat.le_of_ble_eq_true rfl) rfl rfl ?_
  intro p e s m args below meth c A X
  have X : Cx p s m args meth c RX0 cX0_ofTone 4 (some .int) D cy ad shX A := X
  unfold F_X0_ofTone
  refine s_iload_n (pc := 0) X rfl dX0_ofTone_0 ?_
  refine s_iconst (pc := 1) X ic_m1 dX0_ofTone_1 ?_
  refine p_icmp_ne (pc := 2) X 9 rfl dX0_ofTone_2 ?_ ?_
  · refine s_iconst (pc := 9) X ic_0 dX0_ofTone_9 ?_
    refine s_istore_n (pc := 10) X [some (.ref (ad 2)), some (.int l1), some (.int 0), none] rfl (by decide) dX0_ofTone_10 ?_
    refine s_iconst (pc := 11) X ic_0 dX0_ofTone_11 ?_
    refine s_istore_n (pc := 12) X [some (.ref (ad 2)), some (.int l1), some (.int 0), some (.int 0)] rfl (by decide) dX0_ofTone_12 ?_
    refine tL_X0_ofTone_13 X (fun l2_2 => ?_) fu _ _
    refine s_iload_n (pc := 41) X rfl dX0_ofTone_41 ?_
    exact p_iret (pc := 42) X dX0_ofTone_42
  · refine s_sipush (pc := 5) X sp_255 dX0_ofTone_5 ?_
    exact p_iret (pc := 8) X dX0_ofTone_8

-- X0_startSwinging
def L_X0_startSwinging_2 (fu : Nat) (l1 : Int32) (l2 : Int32) : Nat → Int32 → Mem → (Mem → Res) → Res
  | 0, _, _, _ => none
  | n + 1, l3, x, K => (if (8 : Int32) ≤ l3 then (K x) else (if (((l1 : Int32) >>> (l3 &&& 31)) &&& 1) = 0 then (if (((l2 : Int32) >>> (l3 &&& 31)) &&& 1) = 0 then (L_X0_startSwinging_2 fu l1 l2 n (l3 + 1) x K) else (chk l3 8 (chk l3 8 (letm (wr x 16 (l3 : Int32).toNatClampNeg (imax (x 16 (l3 : Int32).toNatClampNeg) 4)) (fun x_1 => (L_X0_startSwinging_2 fu l1 l2 n (l3 + 1) x_1 K)))))) else (chk l3 8 (letm (wr x 16 (l3 : Int32).toNatClampNeg 8) (fun x_2 => (L_X0_startSwinging_2 fu l1 l2 n (l3 + 1) x_2 K))))))
set_option maxRecDepth 100000 in
set_option maxHeartbeats 4000000 in
theorem tL_X0_startSwinging_2 {p : Program} {l : Launch} {e : Env} {s : State} {m : MethodId} {args : Array Value} {below : List Frame} {meth : Method} {c : Code} {D : va_G} {cy : ClassId} {ad : Nat → Nat} {A : Nat → Prop} {fu : Nat} (X : Cx p s m args meth c RX0 cX0_startSwinging 4 none D cy ad shX A) {l1 : Int32} {l2 : Int32} {K : Mem → Res} (hK : ∀ (x : Mem), Sim p l e ({ frames := 1, cells := 0, slots := 0, locals := 40 } : Room) s m args below meth c 4 none D cy ad shX A 57 [none, none, none, none] [] x (K x)) : ∀ (n : Nat) (l3 : Int32) (x : Mem), Sim p l e ({ frames := 1, cells := 0, slots := 0, locals := 40 } : Room) s m args below meth c 4 none D cy ad shX A 2 [some (.ref (ad 2)), some (.int l1), some (.int l2), some (.int l3)] [] x (L_X0_startSwinging_2 fu l1 l2 n l3 x K) := by
  intro n
  induction n with
  | zero =>
    intro l3 x
    rw [L_X0_startSwinging_2]
    exact s_none
  | succ n ih =>
    intro l3 x
    rw [L_X0_startSwinging_2]
    refine s_iload_n (pc := 2) X rfl dX0_startSwinging_2 ?_
    refine s_bipush (pc := 3) X bp_8 dX0_startSwinging_3 ?_
    refine s_icmp_ge (pc := 5) X 57 rfl dX0_startSwinging_5 ?_ ?_
    · refine s_mask [false, false, false, false] ?_
      exact hK _
    · refine s_iload_n (pc := 8) X rfl dX0_startSwinging_8 ?_
      refine s_iload_n (pc := 9) X rfl dX0_startSwinging_9 ?_
      refine s_ishr (pc := 10) X dX0_startSwinging_10 ?_
      refine s_iconst (pc := 11) X ic_1 dX0_startSwinging_11 ?_
      refine s_iand (pc := 12) X dX0_startSwinging_12 ?_
      refine s_if_eq (pc := 13) X 27 rfl dX0_startSwinging_13 ?_ ?_
      · refine s_iload_n (pc := 27) X rfl dX0_startSwinging_27 ?_
        refine s_iload_n (pc := 28) X rfl dX0_startSwinging_28 ?_
        refine s_ishr (pc := 29) X dX0_startSwinging_29 ?_
        refine s_iconst (pc := 30) X ic_1 dX0_startSwinging_30 ?_
        refine s_iand (pc := 31) X dX0_startSwinging_31 ?_
        refine s_if_eq (pc := 32) X 51 rfl dX0_startSwinging_32 ?_ ?_
        · refine s_iinc (pc := 51) X [some (.ref (ad 2)), some (.int l1), some (.int l2), some (.int (l3 + 1))] rfl (by decide) rfl ic_1 dX0_startSwinging_51 ?_
          refine s_goto (pc := 54) X 2 rfl dX0_startSwinging_54 ?_
          exact ih _ _
        · refine s_aload_n (pc := 35) X rfl dX0_startSwinging_35 ?_
          refine s_getR (pc := 36) X shX_2 rfl fl_RX0_15 dX0_startSwinging_36 ?_
          refine s_iload_n (pc := 39) X rfl dX0_startSwinging_39 ?_
          refine s_aload_n (pc := 40) X rfl dX0_startSwinging_40 ?_
          refine s_getR (pc := 41) X shX_2 rfl fl_RX0_15 dX0_startSwinging_41 ?_
          refine s_iload_n (pc := 44) X rfl dX0_startSwinging_44 ?_
          refine s_iald (pc := 45) X shX_16 dX0_startSwinging_45 ?_
          refine s_iconst (pc := 46) X ic_4 dX0_startSwinging_46 ?_
          refine s_mmax (pc := 47) X ml_RX0_22 mm_max_s mm_ini mm_max_c (by decide) (Nat.le_of_ble_eq_true rfl) dX0_startSwinging_47 ?_
          refine s_iast (pc := 50) X shX_16 dX0_startSwinging_50 ?_
          refine s_letm (fun x_1 => ?_)
          refine s_iinc (pc := 51) X [some (.ref (ad 2)), some (.int l1), some (.int l2), some (.int (l3 + 1))] rfl (by decide) rfl ic_1 dX0_startSwinging_51 ?_
          refine s_goto (pc := 54) X 2 rfl dX0_startSwinging_54 ?_
          exact ih _ _
      · refine s_aload_n (pc := 16) X rfl dX0_startSwinging_16 ?_
        refine s_getR (pc := 17) X shX_2 rfl fl_RX0_15 dX0_startSwinging_17 ?_
        refine s_iload_n (pc := 20) X rfl dX0_startSwinging_20 ?_
        refine s_bipush (pc := 21) X bp_8 dX0_startSwinging_21 ?_
        refine s_iast (pc := 23) X shX_16 dX0_startSwinging_23 ?_
        refine s_letm (fun x_2 => ?_)
        refine s_goto (pc := 24) X 51 rfl dX0_startSwinging_24 ?_
        refine s_iinc (pc := 51) X [some (.ref (ad 2)), some (.int l1), some (.int l2), some (.int (l3 + 1))] rfl (by decide) rfl ic_1 dX0_startSwinging_51 ?_
        refine s_goto (pc := 54) X 2 rfl dX0_startSwinging_54 ?_
        exact ih _ _

def F_X0_startSwinging (fu : Nat) (l1 : Int32) (l2 : Int32) (x : Mem) : Res :=
  (L_X0_startSwinging_2 fu l1 l2 fu 0 x (fun x_3 => (some (0, x_3))))
set_option maxRecDepth 100000 in
set_option maxHeartbeats 4000000 in
theorem c_X0_startSwinging (l : Launch) (D : va_G) (cy : ClassId) (ad : Nat → Nat) (fu : Nat) (l1 : Int32) (l2 : Int32) (x : Mem) : Ct l D cy ad shX yX0_startSwinging cX0_startSwinging 4 none 1 40 [.ref (ad 2), .int l1, .int l2] x (F_X0_startSwinging fu l1 l2 x) := by
  refine ct_of [some (.ref (ad 2)), some (.int l1), some (.int l2), none] (by decide) (Nat.le_of_ble_eq_true rfl) rfl rfl ?_
  intro p e s m args below meth c A X
  have X : Cx p s m args meth c RX0 cX0_startSwinging 4 none D cy ad shX A := X
  unfold F_X0_startSwinging
  refine s_iconst (pc := 0) X ic_0 dX0_startSwinging_0 ?_
  refine s_istore_n (pc := 1) X [some (.ref (ad 2)), some (.int l1), some (.int l2), some (.int 0)] rfl (by decide) dX0_startSwinging_1 ?_
  refine tL_X0_startSwinging_2 X (fun x_3 => ?_) fu _ _
  exact s_vret (pc := 57) X dX0_startSwinging_57

-- X0_swingLess
def L_X0_swingLess_2 (fu : Nat) : Nat → Int32 → Mem → (Mem → Res) → Res
  | 0, _, _, _ => none
  | n + 1, l1, x, K => (if (8 : Int32) ≤ l1 then (K x) else (chk l1 8 (if (x 16 (l1 : Int32).toNatClampNeg) ≤ 0 then (L_X0_swingLess_2 fu n (l1 + 1) x K) else (chk l1 8 (chk l1 8 (letm (wr x 16 (l1 : Int32).toNatClampNeg ((x 16 (l1 : Int32).toNatClampNeg) - 1)) (fun x_1 => (L_X0_swingLess_2 fu n (l1 + 1) x_1 K))))))))
set_option maxRecDepth 100000 in
set_option maxHeartbeats 4000000 in
theorem tL_X0_swingLess_2 {p : Program} {l : Launch} {e : Env} {s : State} {m : MethodId} {args : Array Value} {below : List Frame} {meth : Method} {c : Code} {D : va_G} {cy : ClassId} {ad : Nat → Nat} {A : Nat → Prop} {fu : Nat} (X : Cx p s m args meth c RX0 cX0_swingLess 2 none D cy ad shX A) {K : Mem → Res} (hK : ∀ (x : Mem), Sim p l e ({ frames := 1, cells := 0, slots := 0, locals := 40 } : Room) s m args below meth c 2 none D cy ad shX A 33 [none, none] [] x (K x)) : ∀ (n : Nat) (l1 : Int32) (x : Mem), Sim p l e ({ frames := 1, cells := 0, slots := 0, locals := 40 } : Room) s m args below meth c 2 none D cy ad shX A 2 [some (.ref (ad 2)), some (.int l1)] [] x (L_X0_swingLess_2 fu n l1 x K) := by
  intro n
  induction n with
  | zero =>
    intro l1 x
    rw [L_X0_swingLess_2]
    exact s_none
  | succ n ih =>
    intro l1 x
    rw [L_X0_swingLess_2]
    refine s_iload_n (pc := 2) X rfl dX0_swingLess_2 ?_
    refine s_bipush (pc := 3) X bp_8 dX0_swingLess_3 ?_
    refine s_icmp_ge (pc := 5) X 33 rfl dX0_swingLess_5 ?_ ?_
    · refine s_mask [false, false] ?_
      exact hK _
    · refine s_aload_n (pc := 8) X rfl dX0_swingLess_8 ?_
      refine s_getR (pc := 9) X shX_2 rfl fl_RX0_15 dX0_swingLess_9 ?_
      refine s_iload_n (pc := 12) X rfl dX0_swingLess_12 ?_
      refine s_iald (pc := 13) X shX_16 dX0_swingLess_13 ?_
      refine s_if_le (pc := 14) X 27 rfl dX0_swingLess_14 ?_ ?_
      · refine s_iinc (pc := 27) X [some (.ref (ad 2)), some (.int (l1 + 1))] rfl (by decide) rfl ic_1 dX0_swingLess_27 ?_
        refine s_goto (pc := 30) X 2 rfl dX0_swingLess_30 ?_
        exact ih _ _
      · refine s_aload_n (pc := 17) X rfl dX0_swingLess_17 ?_
        refine s_getR (pc := 18) X shX_2 rfl fl_RX0_15 dX0_swingLess_18 ?_
        refine s_iload_n (pc := 21) X rfl dX0_swingLess_21 ?_
        refine s_dup2 (pc := 22) X rfl rfl dX0_swingLess_22 ?_
        refine s_iald (pc := 23) X shX_16 dX0_swingLess_23 ?_
        refine s_iconst (pc := 24) X ic_1 dX0_swingLess_24 ?_
        refine s_isub (pc := 25) X dX0_swingLess_25 ?_
        refine s_iast (pc := 26) X shX_16 dX0_swingLess_26 ?_
        refine s_letm (fun x_1 => ?_)
        refine s_iinc (pc := 27) X [some (.ref (ad 2)), some (.int (l1 + 1))] rfl (by decide) rfl ic_1 dX0_swingLess_27 ?_
        refine s_goto (pc := 30) X 2 rfl dX0_swingLess_30 ?_
        exact ih _ _

def F_X0_swingLess (fu : Nat) (x : Mem) : Res :=
  (L_X0_swingLess_2 fu fu 0 x (fun x_2 => (some (0, x_2))))
set_option maxRecDepth 100000 in
set_option maxHeartbeats 4000000 in
theorem c_X0_swingLess (l : Launch) (D : va_G) (cy : ClassId) (ad : Nat → Nat) (fu : Nat) (x : Mem) : Ct l D cy ad shX yX0_swingLess cX0_swingLess 2 none 1 40 [.ref (ad 2)] x (F_X0_swingLess fu x) := by
  refine ct_of [some (.ref (ad 2)), none] (by decide) (Nat.le_of_ble_eq_true rfl) rfl rfl ?_
  intro p e s m args below meth c A X
  have X : Cx p s m args meth c RX0 cX0_swingLess 2 none D cy ad shX A := X
  unfold F_X0_swingLess
  refine s_iconst (pc := 0) X ic_0 dX0_swingLess_0 ?_
  refine s_istore_n (pc := 1) X [some (.ref (ad 2)), some (.int 0)] rfl (by decide) dX0_swingLess_1 ?_
  refine tL_X0_swingLess_2 X (fun x_2 => ?_) fu _ _
  exact s_vret (pc := 33) X dX0_swingLess_33

-- X0_swinging
def L_X0_swinging_4 (fu : Nat) (x : Mem) : Nat → Int32 → Int32 → (Int32 → Option Int32) → Option Int32
  | 0, _, _, _ => none
  | n + 1, l1, l2, K => (if (8 : Int32) ≤ l2 then (K l1) else (chk l2 8 (if (x 16 (l2 : Int32).toNatClampNeg) ≤ 0 then (L_X0_swinging_4 fu x n l1 (l2 + 1) K) else (letv (l1 ||| ((1 : Int32) <<< (l2 &&& 31))) (fun l1_1 => (L_X0_swinging_4 fu x n l1_1 (l2 + 1) K))))))
set_option maxRecDepth 100000 in
set_option maxHeartbeats 4000000 in
theorem tL_X0_swinging_4 {p : Program} {l : Launch} {e : Env} {s : State} {m : MethodId} {args : Array Value} {below : List Frame} {meth : Method} {c : Code} {D : va_G} {cy : ClassId} {ad : Nat → Nat} {A : Nat → Prop} {fu : Nat} (X : Cx p s m args meth c RX0 cX0_swinging 3 (some .int) D cy ad shX A) {x : Mem} {K : Int32 → Option Int32} (hK : ∀ (l1 : Int32), Sim p l e ({ frames := 1, cells := 0, slots := 0, locals := 40 } : Room) s m args below meth c 3 (some .int) D cy ad shX A 31 [none, some (.int l1), none] [] x (pr (K l1) x)) : ∀ (n : Nat) (l1 : Int32) (l2 : Int32), Sim p l e ({ frames := 1, cells := 0, slots := 0, locals := 40 } : Room) s m args below meth c 3 (some .int) D cy ad shX A 4 [some (.ref (ad 2)), some (.int l1), some (.int l2)] [] x (pr (L_X0_swinging_4 fu x n l1 l2 K) x) := by
  intro n
  induction n with
  | zero =>
    intro l1 l2
    rw [L_X0_swinging_4]
    exact p_none
  | succ n ih =>
    intro l1 l2
    rw [L_X0_swinging_4]
    refine s_iload_n (pc := 4) X rfl dX0_swinging_4 ?_
    refine s_bipush (pc := 5) X bp_8 dX0_swinging_5 ?_
    refine p_icmp_ge (pc := 7) X 31 rfl dX0_swinging_7 ?_ ?_
    · refine s_mask [false, true, false] ?_
      exact hK _
    · refine s_aload_n (pc := 10) X rfl dX0_swinging_10 ?_
      refine s_getR (pc := 11) X shX_2 rfl fl_RX0_15 dX0_swinging_11 ?_
      refine s_iload_n (pc := 14) X rfl dX0_swinging_14 ?_
      refine p_iald (pc := 15) X shX_16 dX0_swinging_15 ?_
      refine p_if_le (pc := 16) X 25 rfl dX0_swinging_16 ?_ ?_
      · refine s_iinc (pc := 25) X [some (.ref (ad 2)), some (.int l1), some (.int (l2 + 1))] rfl (by decide) rfl ic_1 dX0_swinging_25 ?_
        refine s_goto (pc := 28) X 4 rfl dX0_swinging_28 ?_
        exact ih _ _
      · refine s_iload_n (pc := 19) X rfl dX0_swinging_19 ?_
        refine s_iconst (pc := 20) X ic_1 dX0_swinging_20 ?_
        refine s_iload_n (pc := 21) X rfl dX0_swinging_21 ?_
        refine s_ishl (pc := 22) X dX0_swinging_22 ?_
        refine s_ior (pc := 23) X dX0_swinging_23 ?_
        refine p_letv (fun l1_1 => ?_)
        refine s_istore_n (pc := 24) X [some (.ref (ad 2)), some (.int l1_1), some (.int l2)] rfl (by decide) dX0_swinging_24 ?_
        refine s_iinc (pc := 25) X [some (.ref (ad 2)), some (.int l1_1), some (.int (l2 + 1))] rfl (by decide) rfl ic_1 dX0_swinging_25 ?_
        refine s_goto (pc := 28) X 4 rfl dX0_swinging_28 ?_
        exact ih _ _

def F_X0_swinging (fu : Nat) (x : Mem) : Option Int32 :=
  (L_X0_swinging_4 fu x fu 0 0 (fun l1_2 => (some l1_2)))
set_option maxRecDepth 100000 in
set_option maxHeartbeats 4000000 in
theorem c_X0_swinging (l : Launch) (D : va_G) (cy : ClassId) (ad : Nat → Nat) (fu : Nat) (x : Mem) : Ct l D cy ad shX yX0_swinging cX0_swinging 3 (some .int) 1 40 [.ref (ad 2)] x (pr (F_X0_swinging fu x) x) := by
  refine ct_of [some (.ref (ad 2)), none, none] (by decide) (Nat.le_of_ble_eq_true rfl) rfl rfl ?_
  intro p e s m args below meth c A X
  have X : Cx p s m args meth c RX0 cX0_swinging 3 (some .int) D cy ad shX A := X
  unfold F_X0_swinging
  refine s_iconst (pc := 0) X ic_0 dX0_swinging_0 ?_
  refine s_istore_n (pc := 1) X [some (.ref (ad 2)), some (.int 0), none] rfl (by decide) dX0_swinging_1 ?_
  refine s_iconst (pc := 2) X ic_0 dX0_swinging_2 ?_
  refine s_istore_n (pc := 3) X [some (.ref (ad 2)), some (.int 0), some (.int 0)] rfl (by decide) dX0_swinging_3 ?_
  refine tL_X0_swinging_4 X (fun l1_2 => ?_) fu _ _
  refine s_iload_n (pc := 31) X rfl dX0_swinging_31 ?_
  exact p_iret (pc := 32) X dX0_swinging_32

-- X1_isWaiting
def F_X1_isWaiting (fu : Nat) (l1 : Int32) (x : Mem) : Option Int32 :=
  (chk l1 12 (if (x 25 (l1 : Int32).toNatClampNeg) = 1 then (retzp 1) else (retzp 0)))
set_option maxRecDepth 100000 in
set_option maxHeartbeats 4000000 in
theorem c_X1_isWaiting (l : Launch) (D : va_G) (cy : ClassId) (ad : Nat → Nat) (fu : Nat) (l1 : Int32) (x : Mem) : Ct l D cy ad shX yX1_isWaiting cX1_isWaiting 2 (some .boolean) 1 40 [.ref (ad 5), .int l1] x (pr (F_X1_isWaiting fu l1 x) x) := by
  refine ct_of [some (.ref (ad 5)), some (.int l1)] (by decide) (Nat.le_of_ble_eq_true rfl) rfl rfl ?_
  intro p e s m args below meth c A X
  have X : Cx p s m args meth c RX1 cX1_isWaiting 2 (some .boolean) D cy ad shX A := X
  unfold F_X1_isWaiting
  refine s_aload_n (pc := 0) X rfl dX1_isWaiting_0 ?_
  refine s_getR (pc := 1) X shX_5 rfl fl_RX1_9 dX1_isWaiting_1 ?_
  refine s_iload_n (pc := 4) X rfl dX1_isWaiting_4 ?_
  refine p_iald (pc := 5) X shX_25 dX1_isWaiting_5 ?_
  refine s_iconst (pc := 6) X ic_1 dX1_isWaiting_6 ?_
  refine p_icmp_ne (pc := 7) X 14 rfl dX1_isWaiting_7 ?_ ?_
  · refine s_iconst (pc := 14) X ic_0 dX1_isWaiting_14 ?_
    exact p_zret (pc := 15) X dX1_isWaiting_15
  · refine s_iconst (pc := 10) X ic_1 dX1_isWaiting_10 ?_
    refine s_goto (pc := 11) X 15 rfl dX1_isWaiting_11 ?_
    exact p_zret (pc := 15) X dX1_isWaiting_15

-- X1_countIn
def L_X1_countIn_4 (fu : Nat) (l1 : Int32) (x : Mem) : Nat → Int32 → Int32 → (Int32 → Option Int32) → Option Int32
  | 0, _, _, _ => none
  | n + 1, l2, l3, K => (if (12 : Int32) ≤ l3 then (K l2) else (chk l3 12 (if (x 25 (l3 : Int32).toNatClampNeg) = l1 then (L_X1_countIn_4 fu l1 x n (l2 + 1) (l3 + 1) K) else (L_X1_countIn_4 fu l1 x n l2 (l3 + 1) K))))
set_option maxRecDepth 100000 in
set_option maxHeartbeats 4000000 in
theorem tL_X1_countIn_4 {p : Program} {l : Launch} {e : Env} {s : State} {m : MethodId} {args : Array Value} {below : List Frame} {meth : Method} {c : Code} {D : va_G} {cy : ClassId} {ad : Nat → Nat} {A : Nat → Prop} {fu : Nat} (X : Cx p s m args meth c RX1 cX1_countIn 4 (some .int) D cy ad shX A) {l1 : Int32} {x : Mem} {K : Int32 → Option Int32} (hK : ∀ (l2 : Int32), Sim p l e ({ frames := 1, cells := 0, slots := 0, locals := 40 } : Room) s m args below meth c 4 (some .int) D cy ad shX A 29 [none, none, some (.int l2), none] [] x (pr (K l2) x)) : ∀ (n : Nat) (l2 : Int32) (l3 : Int32), Sim p l e ({ frames := 1, cells := 0, slots := 0, locals := 40 } : Room) s m args below meth c 4 (some .int) D cy ad shX A 4 [some (.ref (ad 5)), some (.int l1), some (.int l2), some (.int l3)] [] x (pr (L_X1_countIn_4 fu l1 x n l2 l3 K) x) := by
  intro n
  induction n with
  | zero =>
    intro l2 l3
    rw [L_X1_countIn_4]
    exact p_none
  | succ n ih =>
    intro l2 l3
    rw [L_X1_countIn_4]
    refine s_iload_n (pc := 4) X rfl dX1_countIn_4 ?_
    refine s_bipush (pc := 5) X bp_12 dX1_countIn_5 ?_
    refine p_icmp_ge (pc := 7) X 29 rfl dX1_countIn_7 ?_ ?_
    · refine s_mask [false, false, true, false] ?_
      exact hK _
    · refine s_aload_n (pc := 10) X rfl dX1_countIn_10 ?_
      refine s_getR (pc := 11) X shX_5 rfl fl_RX1_9 dX1_countIn_11 ?_
      refine s_iload_n (pc := 14) X rfl dX1_countIn_14 ?_
      refine p_iald (pc := 15) X shX_25 dX1_countIn_15 ?_
      refine s_iload_n (pc := 16) X rfl dX1_countIn_16 ?_
      refine p_icmp_ne (pc := 17) X 23 rfl dX1_countIn_17 ?_ ?_
      · refine s_iinc (pc := 23) X [some (.ref (ad 5)), some (.int l1), some (.int l2), some (.int (l3 + 1))] rfl (by decide) rfl ic_1 dX1_countIn_23 ?_
        refine s_goto (pc := 26) X 4 rfl dX1_countIn_26 ?_
        exact ih _ _
      · refine s_iinc (pc := 20) X [some (.ref (ad 5)), some (.int l1), some (.int (l2 + 1)), some (.int l3)] rfl (by decide) rfl ic_1 dX1_countIn_20 ?_
        refine s_iinc (pc := 23) X [some (.ref (ad 5)), some (.int l1), some (.int (l2 + 1)), some (.int (l3 + 1))] rfl (by decide) rfl ic_1 dX1_countIn_23 ?_
        refine s_goto (pc := 26) X 4 rfl dX1_countIn_26 ?_
        exact ih _ _

def F_X1_countIn (fu : Nat) (l1 : Int32) (x : Mem) : Option Int32 :=
  (L_X1_countIn_4 fu l1 x fu 0 0 (fun l2_1 => (some l2_1)))
set_option maxRecDepth 100000 in
set_option maxHeartbeats 4000000 in
theorem c_X1_countIn (l : Launch) (D : va_G) (cy : ClassId) (ad : Nat → Nat) (fu : Nat) (l1 : Int32) (x : Mem) : Ct l D cy ad shX yX1_countIn cX1_countIn 4 (some .int) 1 40 [.ref (ad 5), .int l1] x (pr (F_X1_countIn fu l1 x) x) := by
  refine ct_of [some (.ref (ad 5)), some (.int l1), none, none] (by decide) (Nat.le_of_ble_eq_true rfl) rfl rfl ?_
  intro p e s m args below meth c A X
  have X : Cx p s m args meth c RX1 cX1_countIn 4 (some .int) D cy ad shX A := X
  unfold F_X1_countIn
  refine s_iconst (pc := 0) X ic_0 dX1_countIn_0 ?_
  refine s_istore_n (pc := 1) X [some (.ref (ad 5)), some (.int l1), some (.int 0), none] rfl (by decide) dX1_countIn_1 ?_
  refine s_iconst (pc := 2) X ic_0 dX1_countIn_2 ?_
  refine s_istore_n (pc := 3) X [some (.ref (ad 5)), some (.int l1), some (.int 0), some (.int 0)] rfl (by decide) dX1_countIn_3 ?_
  refine tL_X1_countIn_4 X (fun l2_1 => ?_) fu _ _
  refine s_iload_n (pc := 29) X rfl dX1_countIn_29 ?_
  exact p_iret (pc := 30) X dX1_countIn_30

-- X1_make
def F_X1_make (fu : Nat) (l1 : Int32) (l2 : Int32) (x : Mem) : Res :=
  (letm (wr x 5 5 ((x 5 5) ||| ((1 : Int32) <<< (l1 &&& 31)))) (fun x_1 => (chk l1 12 (if (x_1 25 (l1 : Int32).toNatClampNeg) = 0 then (chk l1 12 (letm (wr x_1 25 (l1 : Int32).toNatClampNeg 1) (fun x_2 => (chk l1 12 (letm (wr x_2 26 (l1 : Int32).toNatClampNeg l2) (fun x_3 => (some (0, x_3)))))))) else (some (0, x_1))))))
set_option maxRecDepth 100000 in
set_option maxHeartbeats 4000000 in
theorem c_X1_make (l : Launch) (D : va_G) (cy : ClassId) (ad : Nat → Nat) (fu : Nat) (l1 : Int32) (l2 : Int32) (x : Mem) : Ct l D cy ad shX yX1_make cX1_make 3 none 1 40 [.ref (ad 5), .int l1, .int l2] x (F_X1_make fu l1 l2 x) := by
  refine ct_of [some (.ref (ad 5)), some (.int l1), some (.int l2)] (by decide) (Nat.le_of_ble_eq_true rfl) rfl rfl ?_
  intro p e s m args below meth c A X
  have X : Cx p s m args meth c RX1 cX1_make 3 none D cy ad shX A := X
  unfold F_X1_make
  refine s_aload_n (pc := 0) X rfl dX1_make_0 ?_
  refine s_dup (pc := 1) X rfl dX1_make_1 ?_
  refine s_getI (pc := 2) X shX_5 rfl fl_RX1_27 dX1_make_2 ?_
  refine s_iconst (pc := 5) X ic_1 dX1_make_5 ?_
  refine s_iload_n (pc := 6) X rfl dX1_make_6 ?_
  refine s_ishl (pc := 7) X dX1_make_7 ?_
  refine s_ior (pc := 8) X dX1_make_8 ?_
  refine s_put (pc := 9) X shX_5 rfl fp_RX1_27 dX1_make_9 ?_
  refine s_letm (fun x_1 => ?_)
  refine s_aload_n (pc := 12) X rfl dX1_make_12 ?_
  refine s_getR (pc := 13) X shX_5 rfl fl_RX1_9 dX1_make_13 ?_
  refine s_iload_n (pc := 16) X rfl dX1_make_16 ?_
  refine s_iald (pc := 17) X shX_25 dX1_make_17 ?_
  refine s_if_ne (pc := 18) X 35 rfl dX1_make_18 ?_ ?_
  · exact s_vret (pc := 35) X dX1_make_35
  · refine s_aload_n (pc := 21) X rfl dX1_make_21 ?_
    refine s_getR (pc := 22) X shX_5 rfl fl_RX1_9 dX1_make_22 ?_
    refine s_iload_n (pc := 25) X rfl dX1_make_25 ?_
    refine s_iconst (pc := 26) X ic_1 dX1_make_26 ?_
    refine s_iast (pc := 27) X shX_25 dX1_make_27 ?_
    refine s_letm (fun x_2 => ?_)
    refine s_aload_n (pc := 28) X rfl dX1_make_28 ?_
    refine s_getR (pc := 29) X shX_5 rfl fl_RX1_15 dX1_make_29 ?_
    refine s_iload_n (pc := 32) X rfl dX1_make_32 ?_
    refine s_iload_n (pc := 33) X rfl dX1_make_33 ?_
    refine s_iast (pc := 34) X shX_26 dX1_make_34 ?_
    refine s_letm (fun x_3 => ?_)
    exact s_vret (pc := 35) X dX1_make_35

-- X1_drop
def F_X1_drop (fu : Nat) (l1 : Int32) (x : Mem) : Res :=
  (chk l1 12 (letm (wr x 25 (l1 : Int32).toNatClampNeg 0) (fun x_1 => (letm (wr x_1 5 6 ((x_1 5 6) + 1)) (fun x_2 => (some (0, x_2)))))))
set_option maxRecDepth 100000 in
set_option maxHeartbeats 4000000 in
theorem c_X1_drop (l : Launch) (D : va_G) (cy : ClassId) (ad : Nat → Nat) (fu : Nat) (l1 : Int32) (x : Mem) : Ct l D cy ad shX yX1_drop cX1_drop 2 none 1 40 [.ref (ad 5), .int l1] x (F_X1_drop fu l1 x) := by
  refine ct_of [some (.ref (ad 5)), some (.int l1)] (by decide) (Nat.le_of_ble_eq_true rfl) rfl rfl ?_
  intro p e s m args below meth c A X
  have X : Cx p s m args meth c RX1 cX1_drop 2 none D cy ad shX A := X
  unfold F_X1_drop
  refine s_aload_n (pc := 0) X rfl dX1_drop_0 ?_
  refine s_getR (pc := 1) X shX_5 rfl fl_RX1_9 dX1_drop_1 ?_
  refine s_iload_n (pc := 4) X rfl dX1_drop_4 ?_
  refine s_iconst (pc := 5) X ic_0 dX1_drop_5 ?_
  refine s_iast (pc := 6) X shX_25 dX1_drop_6 ?_
  refine s_letm (fun x_1 => ?_)
  refine s_aload_n (pc := 7) X rfl dX1_drop_7 ?_
  refine s_dup (pc := 8) X rfl dX1_drop_8 ?_
  refine s_getI (pc := 9) X shX_5 rfl fl_RX1_31 dX1_drop_9 ?_
  refine s_iconst (pc := 12) X ic_1 dX1_drop_12 ?_
  refine s_iadd (pc := 13) X dX1_drop_13 ?_
  refine s_put (pc := 14) X shX_5 rfl fp_RX1_31 dX1_drop_14 ?_
  refine s_letm (fun x_2 => ?_)
  exact s_vret (pc := 17) X dX1_drop_17

-- X1_startErrand
def F_X1_startErrand (fu : Nat) (l1 : Int32) (l2 : Int32) (x : Mem) : Res :=
  (chk l1 12 (letm (wr x 25 (l1 : Int32).toNatClampNeg 2) (fun x_1 => (chk l1 12 (chk l1 12 (letm (wr x_1 27 (l1 : Int32).toNatClampNeg ((x_1 27 (l1 : Int32).toNatClampNeg) + 1)) (fun x_2 => (chk l1 12 (chk l1 12 (letm (wr x_2 28 (l1 : Int32).toNatClampNeg ((x_2 28 (l1 : Int32).toNatClampNeg) + l2)) (fun x_3 => (chk l1 12 (chk l1 12 (letm (wr x_3 29 (l1 : Int32).toNatClampNeg (imax (x_3 29 (l1 : Int32).toNatClampNeg) l2)) (fun x_4 => (some (0, x_4)))))))))))))))))
set_option maxRecDepth 100000 in
set_option maxHeartbeats 4000000 in
theorem c_X1_startErrand (l : Launch) (D : va_G) (cy : ClassId) (ad : Nat → Nat) (fu : Nat) (l1 : Int32) (l2 : Int32) (x : Mem) : Ct l D cy ad shX yX1_startErrand cX1_startErrand 3 none 1 40 [.ref (ad 5), .int l1, .int l2] x (F_X1_startErrand fu l1 l2 x) := by
  refine ct_of [some (.ref (ad 5)), some (.int l1), some (.int l2)] (by decide) (Nat.le_of_ble_eq_true rfl) rfl rfl ?_
  intro p e s m args below meth c A X
  have X : Cx p s m args meth c RX1 cX1_startErrand 3 none D cy ad shX A := X
  unfold F_X1_startErrand
  refine s_aload_n (pc := 0) X rfl dX1_startErrand_0 ?_
  refine s_getR (pc := 1) X shX_5 rfl fl_RX1_9 dX1_startErrand_1 ?_
  refine s_iload_n (pc := 4) X rfl dX1_startErrand_4 ?_
  refine s_iconst (pc := 5) X ic_2 dX1_startErrand_5 ?_
  refine s_iast (pc := 6) X shX_25 dX1_startErrand_6 ?_
  refine s_letm (fun x_1 => ?_)
  refine s_aload_n (pc := 7) X rfl dX1_startErrand_7 ?_
  refine s_getR (pc := 8) X shX_5 rfl fl_RX1_18 dX1_startErrand_8 ?_
  refine s_iload_n (pc := 11) X rfl dX1_startErrand_11 ?_
  refine s_dup2 (pc := 12) X rfl rfl dX1_startErrand_12 ?_
  refine s_iald (pc := 13) X shX_27 dX1_startErrand_13 ?_
  refine s_iconst (pc := 14) X ic_1 dX1_startErrand_14 ?_
  refine s_iadd (pc := 15) X dX1_startErrand_15 ?_
  refine s_iast (pc := 16) X shX_27 dX1_startErrand_16 ?_
  refine s_letm (fun x_2 => ?_)
  refine s_aload_n (pc := 17) X rfl dX1_startErrand_17 ?_
  refine s_getR (pc := 18) X shX_5 rfl fl_RX1_21 dX1_startErrand_18 ?_
  refine s_iload_n (pc := 21) X rfl dX1_startErrand_21 ?_
  refine s_dup2 (pc := 22) X rfl rfl dX1_startErrand_22 ?_
  refine s_iald (pc := 23) X shX_28 dX1_startErrand_23 ?_
  refine s_iload_n (pc := 24) X rfl dX1_startErrand_24 ?_
  refine s_iadd (pc := 25) X dX1_startErrand_25 ?_
  refine s_iast (pc := 26) X shX_28 dX1_startErrand_26 ?_
  refine s_letm (fun x_3 => ?_)
  refine s_aload_n (pc := 27) X rfl dX1_startErrand_27 ?_
  refine s_getR (pc := 28) X shX_5 rfl fl_RX1_24 dX1_startErrand_28 ?_
  refine s_iload_n (pc := 31) X rfl dX1_startErrand_31 ?_
  refine s_aload_n (pc := 32) X rfl dX1_startErrand_32 ?_
  refine s_getR (pc := 33) X shX_5 rfl fl_RX1_24 dX1_startErrand_33 ?_
  refine s_iload_n (pc := 36) X rfl dX1_startErrand_36 ?_
  refine s_iald (pc := 37) X shX_29 dX1_startErrand_37 ?_
  refine s_iload_n (pc := 38) X rfl dX1_startErrand_38 ?_
  refine s_mmax (pc := 39) X ml_RX1_34 mm_max_s mm_ini mm_max_c (by decide) (Nat.le_of_ble_eq_true rfl) dX1_startErrand_39 ?_
  refine s_iast (pc := 42) X shX_29 dX1_startErrand_42 ?_
  refine s_letm (fun x_4 => ?_)
  exact s_vret (pc := 43) X dX1_startErrand_43

-- X1_endErrand
def F_X1_endErrand (fu : Nat) (l1 : Int32) (x : Mem) : Res :=
  (chk l1 12 (letm (wr x 25 (l1 : Int32).toNatClampNeg 0) (fun x_1 => (some (0, x_1)))))
set_option maxRecDepth 100000 in
set_option maxHeartbeats 4000000 in
theorem c_X1_endErrand (l : Launch) (D : va_G) (cy : ClassId) (ad : Nat → Nat) (fu : Nat) (l1 : Int32) (x : Mem) : Ct l D cy ad shX yX1_endErrand cX1_endErrand 2 none 1 40 [.ref (ad 5), .int l1] x (F_X1_endErrand fu l1 x) := by
  refine ct_of [some (.ref (ad 5)), some (.int l1)] (by decide) (Nat.le_of_ble_eq_true rfl) rfl rfl ?_
  intro p e s m args below meth c A X
  have X : Cx p s m args meth c RX1 cX1_endErrand 2 none D cy ad shX A := X
  unfold F_X1_endErrand
  refine s_aload_n (pc := 0) X rfl dX1_endErrand_0 ?_
  refine s_getR (pc := 1) X shX_5 rfl fl_RX1_9 dX1_endErrand_1 ?_
  refine s_iload_n (pc := 4) X rfl dX1_endErrand_4 ?_
  refine s_iconst (pc := 5) X ic_0 dX1_endErrand_5 ?_
  refine s_iast (pc := 6) X shX_25 dX1_endErrand_6 ?_
  refine s_letm (fun x_1 => ?_)
  exact s_vret (pc := 7) X dX1_endErrand_7

-- J6_bitCount_0f7a4
def F_J6_bitCount_0f7a4 (fu : Nat) (l0 : Int32) (x : Mem) : Option Int32 :=
  (letv (l0 - ((((l0 : Int32).toUInt32 >>> ((1 : Int32).toUInt32 &&& Int32.toUInt32 31)).toInt32) &&& 1431655765)) (fun l0_1 => (letv ((l0_1 &&& 858993459) + ((((l0_1 : Int32).toUInt32 >>> ((2 : Int32).toUInt32 &&& Int32.toUInt32 31)).toInt32) &&& 858993459)) (fun l0_2 => (letv ((l0_2 + (((l0_2 : Int32).toUInt32 >>> ((4 : Int32).toUInt32 &&& Int32.toUInt32 31)).toInt32)) &&& 252645135) (fun l0_3 => (letv (l0_3 + (((l0_3 : Int32).toUInt32 >>> ((8 : Int32).toUInt32 &&& Int32.toUInt32 31)).toInt32)) (fun l0_4 => (letv (l0_4 + (((l0_4 : Int32).toUInt32 >>> ((16 : Int32).toUInt32 &&& Int32.toUInt32 31)).toInt32)) (fun l0_5 => (some (l0_5 &&& 63))))))))))))
set_option maxRecDepth 100000 in
set_option maxHeartbeats 4000000 in
theorem c_J6_bitCount_0f7a4 (l : Launch) (D : va_G) (cy : ClassId) (ad : Nat → Nat) (fu : Nat) (l0 : Int32) (x : Mem) : Ct l D cy ad shX yJ6_bitCount_0f7a4 cJ6_bitCount_0f7a4 1 (some .int) 1 40 [.int l0] x (pr (F_J6_bitCount_0f7a4 fu l0 x) x) := by
  refine ct_of [some (.int l0)] (by decide) (Nat.le_of_ble_eq_true rfl) rfl rfl ?_
  intro p e s m args below meth c A X
  have X : Cx p s m args meth c RJ6 cJ6_bitCount_0f7a4 1 (some .int) D cy ad shX A := X
  unfold F_J6_bitCount_0f7a4
  refine s_iload_n (pc := 0) X rfl dJ6_bitCount_0f7a4_0 ?_
  refine s_iload_n (pc := 1) X rfl dJ6_bitCount_0f7a4_1 ?_
  refine s_iconst (pc := 2) X ic_1 dJ6_bitCount_0f7a4_2 ?_
  refine s_iushr (pc := 3) X dJ6_bitCount_0f7a4_3 ?_
  refine s_ldcw (pc := 4) X k_RJ6_265 dJ6_bitCount_0f7a4_4 ?_
  refine s_iand (pc := 7) X dJ6_bitCount_0f7a4_7 ?_
  refine s_isub (pc := 8) X dJ6_bitCount_0f7a4_8 ?_
  refine p_letv (fun l0_1 => ?_)
  refine s_istore_n (pc := 9) X [some (.int l0_1)] rfl (by decide) dJ6_bitCount_0f7a4_9 ?_
  refine s_iload_n (pc := 10) X rfl dJ6_bitCount_0f7a4_10 ?_
  refine s_ldcw (pc := 11) X k_RJ6_266 dJ6_bitCount_0f7a4_11 ?_
  refine s_iand (pc := 14) X dJ6_bitCount_0f7a4_14 ?_
  refine s_iload_n (pc := 15) X rfl dJ6_bitCount_0f7a4_15 ?_
  refine s_iconst (pc := 16) X ic_2 dJ6_bitCount_0f7a4_16 ?_
  refine s_iushr (pc := 17) X dJ6_bitCount_0f7a4_17 ?_
  refine s_ldcw (pc := 18) X k_RJ6_266 dJ6_bitCount_0f7a4_18 ?_
  refine s_iand (pc := 21) X dJ6_bitCount_0f7a4_21 ?_
  refine s_iadd (pc := 22) X dJ6_bitCount_0f7a4_22 ?_
  refine p_letv (fun l0_2 => ?_)
  refine s_istore_n (pc := 23) X [some (.int l0_2)] rfl (by decide) dJ6_bitCount_0f7a4_23 ?_
  refine s_iload_n (pc := 24) X rfl dJ6_bitCount_0f7a4_24 ?_
  refine s_iload_n (pc := 25) X rfl dJ6_bitCount_0f7a4_25 ?_
  refine s_iconst (pc := 26) X ic_4 dJ6_bitCount_0f7a4_26 ?_
  refine s_iushr (pc := 27) X dJ6_bitCount_0f7a4_27 ?_
  refine s_iadd (pc := 28) X dJ6_bitCount_0f7a4_28 ?_
  refine s_ldcw (pc := 29) X k_RJ6_267 dJ6_bitCount_0f7a4_29 ?_
  refine s_iand (pc := 32) X dJ6_bitCount_0f7a4_32 ?_
  refine p_letv (fun l0_3 => ?_)
  refine s_istore_n (pc := 33) X [some (.int l0_3)] rfl (by decide) dJ6_bitCount_0f7a4_33 ?_
  refine s_iload_n (pc := 34) X rfl dJ6_bitCount_0f7a4_34 ?_
  refine s_iload_n (pc := 35) X rfl dJ6_bitCount_0f7a4_35 ?_
  refine s_bipush (pc := 36) X bp_8 dJ6_bitCount_0f7a4_36 ?_
  refine s_iushr (pc := 38) X dJ6_bitCount_0f7a4_38 ?_
  refine s_iadd (pc := 39) X dJ6_bitCount_0f7a4_39 ?_
  refine p_letv (fun l0_4 => ?_)
  refine s_istore_n (pc := 40) X [some (.int l0_4)] rfl (by decide) dJ6_bitCount_0f7a4_40 ?_
  refine s_iload_n (pc := 41) X rfl dJ6_bitCount_0f7a4_41 ?_
  refine s_iload_n (pc := 42) X rfl dJ6_bitCount_0f7a4_42 ?_
  refine s_bipush (pc := 43) X bp_16 dJ6_bitCount_0f7a4_43 ?_
  refine s_iushr (pc := 45) X dJ6_bitCount_0f7a4_45 ?_
  refine s_iadd (pc := 46) X dJ6_bitCount_0f7a4_46 ?_
  refine p_letv (fun l0_5 => ?_)
  refine s_istore_n (pc := 47) X [some (.int l0_5)] rfl (by decide) dJ6_bitCount_0f7a4_47 ?_
  refine s_iload_n (pc := 48) X rfl dJ6_bitCount_0f7a4_48 ?_
  refine s_bipush (pc := 49) X bp_63 dJ6_bitCount_0f7a4_49 ?_
  refine s_iand (pc := 51) X dJ6_bitCount_0f7a4_51 ?_
  exact p_iret (pc := 52) X dJ6_bitCount_0f7a4_52

-- X4_forceInHeat
def F_X4_forceInHeat (fu : Nat) (l1 : Int32) (l2 : Int32) (x : Mem) : Option Int32 :=
  (chk l1 12 (clp (F_J6_bitCount_0f7a4 fu (x 14 (l1 : Int32).toNatClampNeg) x) (fun r_1 => (nz 20 (some (10 - ((l2 * r_1) / 20)))))))
set_option maxRecDepth 100000 in
set_option maxHeartbeats 4000000 in
theorem c_X4_forceInHeat (l : Launch) (D : va_G) (cy : ClassId) (ad : Nat → Nat) (fu : Nat) (l1 : Int32) (l2 : Int32) (x : Mem) : Ct l D cy ad shX yX4_forceInHeat cX4_forceInHeat 3 (some .int) 2 80 [.ref (ad 1), .int l1, .int l2] x (pr (F_X4_forceInHeat fu l1 l2 x) x) := by
  refine ct_of [some (.ref (ad 1)), some (.int l1), some (.int l2)] (by decide) (Nat.le_of_ble_eq_true rfl) rfl rfl ?_
  intro p e s m args below meth c A X
  have X : Cx p s m args meth c RX4 cX4_forceInHeat 3 (some .int) D cy ad shX A := X
  unfold F_X4_forceInHeat
  refine s_bipush (pc := 0) X bp_10 dX4_forceInHeat_0 ?_
  refine s_iload_n (pc := 2) X rfl dX4_forceInHeat_2 ?_
  refine s_aload_n (pc := 3) X rfl dX4_forceInHeat_3 ?_
  refine s_getR (pc := 4) X shX_1 rfl fl_RX4_24 dX4_forceInHeat_4 ?_
  refine s_iload_n (pc := 7) X rfl dX4_forceInHeat_7 ?_
  refine p_iald (pc := 8) X shX_14 dX4_forceInHeat_8 ?_
  refine p_callS (pc := 9) (As := [.int (x 14 (l1 : Int32).toNatClampNeg)]) (st := [.int l2, .int 10]) X lk_RX4_35 (c_J6_bitCount_0f7a4 l D cy ad fu _ _) rfl rfl ⟨by decide, by decide⟩ (Nat.le_of_ble_eq_true rfl) dX4_forceInHeat_9 (fun r_1 => ?_)
  refine s_imul (pc := 12) X dX4_forceInHeat_12 ?_
  refine s_bipush (pc := 13) X bp_20 dX4_forceInHeat_13 ?_
  refine p_idiv (pc := 15) X dX4_forceInHeat_15 ?_
  refine s_isub (pc := 16) X dX4_forceInHeat_16 ?_
  exact p_iret (pc := 17) X dX4_forceInHeat_17

-- X2_outcomeWith
def F_X2_outcomeWith (fu : Nat) (l1 : Int32) (l2 : Int32) (l3 : Int32) (x : Mem) : Option Int32 :=
  (clp (F_X4_forceInHeat fu l2 l3 x) (fun r_1 => (chk l2 12 (letv (x 14 (l2 : Int32).toNatClampNeg) (fun l5_2 => (if (16 : Int32) ≤ l1 then (if (160 : Int32) ≤ l1 then (chk l2 12 (if (x 13 (l2 : Int32).toNatClampNeg) = (l1 - 160) then (some 0) else (if r_1 < 6 then (if r_1 ≤ 0 then (some 0) else (some 1)) else (some 2)))) else (nz 9 (letv ((l1 - 16) / 9) (fun l6_3 => (nz 9 (letv (((l1 - 16) - (l1 - 16) / 9 * 9) + 1) (fun l7_4 => (jn (fun (k_5 : Int32 → Option Int32) => (if (((l5_2 : Int32) >>> (l6_3 &&& 31)) &&& 1) = 0 then (k_5 r_1) else (k_5 (r_1 - l7_4)))) (fun v_6 => (if v_6 < 6 then (if v_6 ≤ 0 then (some 0) else (some 1)) else (some 2))))))))))) else (jn (fun (k_7 : Int32 → Option Int32) => (if (((l5_2 : Int32) >>> (l1 &&& 31)) &&& 1) = 0 then (k_7 r_1) else (k_7 0))) (fun v_8 => (if v_8 < 6 then (if v_8 ≤ 0 then (some 0) else (some 1)) else (some 2))))))))))
set_option maxRecDepth 100000 in
set_option maxHeartbeats 4000000 in
theorem c_X2_outcomeWith (l : Launch) (D : va_G) (cy : ClassId) (ad : Nat → Nat) (fu : Nat) (l1 : Int32) (l2 : Int32) (l3 : Int32) (x : Mem) : Ct l D cy ad shX yX2_outcomeWith cX2_outcomeWith 8 (some .int) 3 120 [.ref (ad 8), .int l1, .int l2, .int l3] x (pr (F_X2_outcomeWith fu l1 l2 l3 x) x) := by
  refine ct_of [some (.ref (ad 8)), some (.int l1), some (.int l2), some (.int l3), none, none, none, none] (by decide) (Nat.le_of_ble_eq_true rfl) rfl rfl ?_
  intro p e s m args below meth c A X
  have X : Cx p s m args meth c RX2 cX2_outcomeWith 8 (some .int) D cy ad shX A := X
  unfold F_X2_outcomeWith
  refine s_aload_n (pc := 0) X rfl dX2_outcomeWith_0 ?_
  refine s_getR (pc := 1) X shX_8 rfl fl_RX2_18 dX2_outcomeWith_1 ?_
  refine s_iload_n (pc := 4) X rfl dX2_outcomeWith_4 ?_
  refine s_iload_n (pc := 5) X rfl dX2_outcomeWith_5 ?_
  refine p_callV (pc := 6) (As := [.int l2, .int l3]) (st := []) X lk_RX2_52 (c_X4_forceInHeat l D cy ad fu _ _ _) shX_1 rfl rfl rfl rfl ⟨by decide, by decide⟩ (Nat.le_of_ble_eq_true rfl) dX2_outcomeWith_6 (fun r_1 => ?_)
  refine s_istore (pc := 9) X [some (.ref (ad 8)), some (.int l1), some (.int l2), some (.int l3), some (.int r_1), none, none, none] rfl (by decide) dX2_outcomeWith_9 ?_
  refine s_aload_n (pc := 11) X rfl dX2_outcomeWith_11 ?_
  refine s_getR (pc := 12) X shX_8 rfl fl_RX2_18 dX2_outcomeWith_12 ?_
  refine s_getR (pc := 15) X shX_1 rfl fl_RX2_55 dX2_outcomeWith_15 ?_
  refine s_iload_n (pc := 18) X rfl dX2_outcomeWith_18 ?_
  refine p_iald (pc := 19) X shX_14 dX2_outcomeWith_19 ?_
  refine p_letv (fun l5_2 => ?_)
  refine s_istore (pc := 20) X [some (.ref (ad 8)), some (.int l1), some (.int l2), some (.int l3), some (.int r_1), some (.int l5_2), none, none] rfl (by decide) dX2_outcomeWith_20 ?_
  refine s_iload_n (pc := 22) X rfl dX2_outcomeWith_22 ?_
  refine s_bipush (pc := 23) X bp_16 dX2_outcomeWith_23 ?_
  refine p_icmp_ge (pc := 25) X 48 rfl dX2_outcomeWith_25 ?_ ?_
  · refine s_iload_n (pc := 48) X rfl dX2_outcomeWith_48 ?_
    refine s_sipush (pc := 49) X sp_160 dX2_outcomeWith_49 ?_
    refine p_icmp_ge (pc := 52) X 100 rfl dX2_outcomeWith_52 ?_ ?_
    · refine s_aload_n (pc := 100) X rfl dX2_outcomeWith_100 ?_
      refine s_getR (pc := 101) X shX_8 rfl fl_RX2_18 dX2_outcomeWith_101 ?_
      refine s_getR (pc := 104) X shX_1 rfl fl_RX2_58 dX2_outcomeWith_104 ?_
      refine s_iload_n (pc := 107) X rfl dX2_outcomeWith_107 ?_
      refine p_iald (pc := 108) X shX_13 dX2_outcomeWith_108 ?_
      refine s_iload_n (pc := 109) X rfl dX2_outcomeWith_109 ?_
      refine s_sipush (pc := 110) X sp_160 dX2_outcomeWith_110 ?_
      refine s_isub (pc := 113) X dX2_outcomeWith_113 ?_
      refine p_icmp_ne (pc := 114) X 119 rfl dX2_outcomeWith_114 ?_ ?_
      · refine s_iload (pc := 119) X rfl dX2_outcomeWith_119 ?_
        refine s_bipush (pc := 121) X bp_6 dX2_outcomeWith_121 ?_
        refine p_icmp_lt (pc := 123) X 128 rfl dX2_outcomeWith_123 ?_ ?_
        · refine s_iload (pc := 128) X rfl dX2_outcomeWith_128 ?_
          refine p_if_le (pc := 130) X 137 rfl dX2_outcomeWith_130 ?_ ?_
          · refine s_iconst (pc := 137) X ic_0 dX2_outcomeWith_137 ?_
            exact p_iret (pc := 138) X dX2_outcomeWith_138
          · refine s_iconst (pc := 133) X ic_1 dX2_outcomeWith_133 ?_
            refine s_goto (pc := 134) X 138 rfl dX2_outcomeWith_134 ?_
            exact p_iret (pc := 138) X dX2_outcomeWith_138
        · refine s_iconst (pc := 126) X ic_2 dX2_outcomeWith_126 ?_
          exact p_iret (pc := 127) X dX2_outcomeWith_127
      · refine s_iconst (pc := 117) X ic_0 dX2_outcomeWith_117 ?_
        exact p_iret (pc := 118) X dX2_outcomeWith_118
    · refine s_iload_n (pc := 55) X rfl dX2_outcomeWith_55 ?_
      refine s_bipush (pc := 56) X bp_16 dX2_outcomeWith_56 ?_
      refine s_isub (pc := 58) X dX2_outcomeWith_58 ?_
      refine s_bipush (pc := 59) X bp_9 dX2_outcomeWith_59 ?_
      refine p_idiv (pc := 61) X dX2_outcomeWith_61 ?_
      refine p_letv (fun l6_3 => ?_)
      refine s_istore (pc := 62) X [some (.ref (ad 8)), some (.int l1), some (.int l2), some (.int l3), some (.int r_1), some (.int l5_2), some (.int l6_3), none] rfl (by decide) dX2_outcomeWith_62 ?_
      refine s_iload_n (pc := 64) X rfl dX2_outcomeWith_64 ?_
      refine s_bipush (pc := 65) X bp_16 dX2_outcomeWith_65 ?_
      refine s_isub (pc := 67) X dX2_outcomeWith_67 ?_
      refine s_bipush (pc := 68) X bp_9 dX2_outcomeWith_68 ?_
      refine p_irem (pc := 70) X dX2_outcomeWith_70 ?_
      refine s_iconst (pc := 71) X ic_1 dX2_outcomeWith_71 ?_
      refine s_iadd (pc := 72) X dX2_outcomeWith_72 ?_
      refine p_letv (fun l7_4 => ?_)
      refine s_istore (pc := 73) X [some (.ref (ad 8)), some (.int l1), some (.int l2), some (.int l3), some (.int r_1), some (.int l5_2), some (.int l6_3), some (.int l7_4)] rfl (by decide) dX2_outcomeWith_73 ?_
      refine s_iload (pc := 75) X rfl dX2_outcomeWith_75 ?_
      refine s_iload (pc := 77) X rfl dX2_outcomeWith_77 ?_
      refine s_ishr (pc := 79) X dX2_outcomeWith_79 ?_
      refine s_iconst (pc := 80) X ic_1 dX2_outcomeWith_80 ?_
      refine s_iand (pc := 81) X dX2_outcomeWith_81 ?_
      refine p_jn (fun (k_5 : Int32 → Option Int32) => ∀ (v_6 : Int32), Sim p l e ({ frames := 3, cells := 0, slots := 0, locals := 120 } : Room) s m args below meth c 8 (some .int) D cy ad shX A 95 [none, none, none, none, none, none, none, none] [.int v_6] x (pr (k_5 v_6) x)) ?_ (fun k_5 hk_5 => ?_)
      · intro v_6
        refine s_istore (pc := 95) X [none, none, none, none, some (.int v_6), none, none, none] rfl (by decide) dX2_outcomeWith_95 ?_
        refine s_goto (pc := 97) X 119 rfl dX2_outcomeWith_97 ?_
        refine s_iload (pc := 119) X rfl dX2_outcomeWith_119 ?_
        refine s_bipush (pc := 121) X bp_6 dX2_outcomeWith_121 ?_
        refine p_icmp_lt (pc := 123) X 128 rfl dX2_outcomeWith_123 ?_ ?_
        · refine s_iload (pc := 128) X rfl dX2_outcomeWith_128 ?_
          refine p_if_le (pc := 130) X 137 rfl dX2_outcomeWith_130 ?_ ?_
          · refine s_iconst (pc := 137) X ic_0 dX2_outcomeWith_137 ?_
            exact p_iret (pc := 138) X dX2_outcomeWith_138
          · refine s_iconst (pc := 133) X ic_1 dX2_outcomeWith_133 ?_
            refine s_goto (pc := 134) X 138 rfl dX2_outcomeWith_134 ?_
            exact p_iret (pc := 138) X dX2_outcomeWith_138
        · refine s_iconst (pc := 126) X ic_2 dX2_outcomeWith_126 ?_
          exact p_iret (pc := 127) X dX2_outcomeWith_127
      · refine p_if_eq (pc := 82) X 93 rfl dX2_outcomeWith_82 ?_ ?_
        · refine s_iload (pc := 93) X rfl dX2_outcomeWith_93 ?_
          refine s_mask [false, false, false, false, false, false, false, false] ?_
          exact hk_5 _
        · refine s_iload (pc := 85) X rfl dX2_outcomeWith_85 ?_
          refine s_iload (pc := 87) X rfl dX2_outcomeWith_87 ?_
          refine s_isub (pc := 89) X dX2_outcomeWith_89 ?_
          refine s_goto (pc := 90) X 95 rfl dX2_outcomeWith_90 ?_
          refine s_mask [false, false, false, false, false, false, false, false] ?_
          exact hk_5 _
  · refine s_iload (pc := 28) X rfl dX2_outcomeWith_28 ?_
    refine s_iload_n (pc := 30) X rfl dX2_outcomeWith_30 ?_
    refine s_ishr (pc := 31) X dX2_outcomeWith_31 ?_
    refine s_iconst (pc := 32) X ic_1 dX2_outcomeWith_32 ?_
    refine s_iand (pc := 33) X dX2_outcomeWith_33 ?_
    refine p_jn (fun (k_7 : Int32 → Option Int32) => ∀ (v_8 : Int32), Sim p l e ({ frames := 3, cells := 0, slots := 0, locals := 120 } : Room) s m args below meth c 8 (some .int) D cy ad shX A 43 [none, none, none, none, none, none, none, none] [.int v_8] x (pr (k_7 v_8) x)) ?_ (fun k_7 hk_7 => ?_)
    · intro v_8
      refine s_istore (pc := 43) X [none, none, none, none, some (.int v_8), none, none, none] rfl (by decide) dX2_outcomeWith_43 ?_
      refine s_goto (pc := 45) X 119 rfl dX2_outcomeWith_45 ?_
      refine s_iload (pc := 119) X rfl dX2_outcomeWith_119 ?_
      refine s_bipush (pc := 121) X bp_6 dX2_outcomeWith_121 ?_
      refine p_icmp_lt (pc := 123) X 128 rfl dX2_outcomeWith_123 ?_ ?_
      · refine s_iload (pc := 128) X rfl dX2_outcomeWith_128 ?_
        refine p_if_le (pc := 130) X 137 rfl dX2_outcomeWith_130 ?_ ?_
        · refine s_iconst (pc := 137) X ic_0 dX2_outcomeWith_137 ?_
          exact p_iret (pc := 138) X dX2_outcomeWith_138
        · refine s_iconst (pc := 133) X ic_1 dX2_outcomeWith_133 ?_
          refine s_goto (pc := 134) X 138 rfl dX2_outcomeWith_134 ?_
          exact p_iret (pc := 138) X dX2_outcomeWith_138
      · refine s_iconst (pc := 126) X ic_2 dX2_outcomeWith_126 ?_
        exact p_iret (pc := 127) X dX2_outcomeWith_127
    · refine p_if_eq (pc := 34) X 41 rfl dX2_outcomeWith_34 ?_ ?_
      · refine s_iload (pc := 41) X rfl dX2_outcomeWith_41 ?_
        refine s_mask [false, false, false, false, false, false, false, false] ?_
        exact hk_7 _
      · refine s_iconst (pc := 37) X ic_0 dX2_outcomeWith_37 ?_
        refine s_goto (pc := 38) X 43 rfl dX2_outcomeWith_38 ?_
        refine s_mask [false, false, false, false, false, false, false, false] ?_
        exact hk_7 _

-- X2_keepThoseThatCome
def L_X2_keepThoseThatCome_6 (fu : Nat) (l1 : Int32) (l2 : Int32) (l3 : Int32) : Nat → Int32 → Int32 → Mem → (Int32 → Mem → Res) → Res
  | 0, _, _, _, _ => none
  | n + 1, l4, l5, x, K => (if (x 8 3) ≤ l5 then (K l4 x) else (chk l5 168 (clp (F_X2_outcomeWith fu (x 33 (l5 : Int32).toNatClampNeg) l1 l2 x) (fun r_1 => (if r_1 = l3 then (chk l5 168 (chk l4 168 (letm (wr x 33 (l4 : Int32).toNatClampNeg (x 33 (l5 : Int32).toNatClampNeg)) (fun x_2 => (L_X2_keepThoseThatCome_6 fu l1 l2 l3 n (l4 + 1) (l5 + 1) x_2 K))))) else (L_X2_keepThoseThatCome_6 fu l1 l2 l3 n l4 (l5 + 1) x K))))))
set_option maxRecDepth 100000 in
set_option maxHeartbeats 4000000 in
theorem tL_X2_keepThoseThatCome_6 {p : Program} {l : Launch} {e : Env} {s : State} {m : MethodId} {args : Array Value} {below : List Frame} {meth : Method} {c : Code} {D : va_G} {cy : ClassId} {ad : Nat → Nat} {A : Nat → Prop} {fu : Nat} (X : Cx p s m args meth c RX2 cX2_keepThoseThatCome 6 none D cy ad shX A) {l1 : Int32} {l2 : Int32} {l3 : Int32} {K : Int32 → Mem → Res} (hK : ∀ (l4 : Int32) (x : Mem), Sim p l e ({ frames := 4, cells := 0, slots := 0, locals := 160 } : Room) s m args below meth c 6 none D cy ad shX A 55 [some (.ref (ad 8)), none, none, none, some (.int l4), none] [] x (K l4 x)) : ∀ (n : Nat) (l4 : Int32) (l5 : Int32) (x : Mem), Sim p l e ({ frames := 4, cells := 0, slots := 0, locals := 160 } : Room) s m args below meth c 6 none D cy ad shX A 6 [some (.ref (ad 8)), some (.int l1), some (.int l2), some (.int l3), some (.int l4), some (.int l5)] [] x (L_X2_keepThoseThatCome_6 fu l1 l2 l3 n l4 l5 x K) := by
  intro n
  induction n with
  | zero =>
    intro l4 l5 x
    rw [L_X2_keepThoseThatCome_6]
    exact s_none
  | succ n ih =>
    intro l4 l5 x
    rw [L_X2_keepThoseThatCome_6]
    refine s_iload (pc := 6) X rfl dX2_keepThoseThatCome_6 ?_
    refine s_aload_n (pc := 8) X rfl dX2_keepThoseThatCome_8 ?_
    refine s_getI (pc := 9) X shX_8 rfl fl_RX2_33 dX2_keepThoseThatCome_9 ?_
    refine s_icmp_ge (pc := 12) X 55 rfl dX2_keepThoseThatCome_12 ?_ ?_
    · refine s_mask [true, false, false, false, true, false] ?_
      exact hK _ _
    · refine s_aload_n (pc := 15) X rfl dX2_keepThoseThatCome_15 ?_
      refine s_aload_n (pc := 16) X rfl dX2_keepThoseThatCome_16 ?_
      refine s_getR (pc := 17) X shX_8 rfl fl_RX2_11 dX2_keepThoseThatCome_17 ?_
      refine s_iload (pc := 20) X rfl dX2_keepThoseThatCome_20 ?_
      refine s_iald (pc := 22) X shX_33 dX2_keepThoseThatCome_22 ?_
      refine s_iload_n (pc := 23) X rfl dX2_keepThoseThatCome_23 ?_
      refine s_iload_n (pc := 24) X rfl dX2_keepThoseThatCome_24 ?_
      refine s_callVp (pc := 25) (As := [.int (x 33 (l5 : Int32).toNatClampNeg), .int l1, .int l2]) (st := []) X lk_RX2_43 (c_X2_outcomeWith l D cy ad fu _ _ _ _) shX_8 rfl rfl rfl rfl ⟨by decide, by decide⟩ (Nat.le_of_ble_eq_true rfl) dX2_keepThoseThatCome_25 (fun r_1 => ?_)
      refine s_iload_n (pc := 28) X rfl dX2_keepThoseThatCome_28 ?_
      refine s_icmp_ne (pc := 29) X 49 rfl dX2_keepThoseThatCome_29 ?_ ?_
      · refine s_iinc (pc := 49) X [some (.ref (ad 8)), some (.int l1), some (.int l2), some (.int l3), some (.int l4), some (.int (l5 + 1))] rfl (by decide) rfl ic_1 dX2_keepThoseThatCome_49 ?_
        refine s_goto (pc := 52) X 6 rfl dX2_keepThoseThatCome_52 ?_
        exact ih _ _ _
      · refine s_aload_n (pc := 32) X rfl dX2_keepThoseThatCome_32 ?_
        refine s_getR (pc := 33) X shX_8 rfl fl_RX2_11 dX2_keepThoseThatCome_33 ?_
        refine s_iload (pc := 36) X rfl dX2_keepThoseThatCome_36 ?_
        refine s_aload_n (pc := 38) X rfl dX2_keepThoseThatCome_38 ?_
        refine s_getR (pc := 39) X shX_8 rfl fl_RX2_11 dX2_keepThoseThatCome_39 ?_
        refine s_iload (pc := 42) X rfl dX2_keepThoseThatCome_42 ?_
        refine s_iald (pc := 44) X shX_33 dX2_keepThoseThatCome_44 ?_
        refine s_iast (pc := 45) X shX_33 dX2_keepThoseThatCome_45 ?_
        refine s_letm (fun x_2 => ?_)
        refine s_iinc (pc := 46) X [some (.ref (ad 8)), some (.int l1), some (.int l2), some (.int l3), some (.int (l4 + 1)), some (.int l5)] rfl (by decide) rfl ic_1 dX2_keepThoseThatCome_46 ?_
        refine s_iinc (pc := 49) X [some (.ref (ad 8)), some (.int l1), some (.int l2), some (.int l3), some (.int (l4 + 1)), some (.int (l5 + 1))] rfl (by decide) rfl ic_1 dX2_keepThoseThatCome_49 ?_
        refine s_goto (pc := 52) X 6 rfl dX2_keepThoseThatCome_52 ?_
        exact ih _ _ _

def F_X2_keepThoseThatCome (fu : Nat) (l1 : Int32) (l2 : Int32) (l3 : Int32) (x : Mem) : Res :=
  (L_X2_keepThoseThatCome_6 fu l1 l2 l3 fu 0 0 x (fun l4_3 x_4 => (letm (wr x_4 8 3 l4_3) (fun x_5 => (some (0, x_5))))))
set_option maxRecDepth 100000 in
set_option maxHeartbeats 4000000 in
theorem c_X2_keepThoseThatCome (l : Launch) (D : va_G) (cy : ClassId) (ad : Nat → Nat) (fu : Nat) (l1 : Int32) (l2 : Int32) (l3 : Int32) (x : Mem) : Ct l D cy ad shX yX2_keepThoseThatCome cX2_keepThoseThatCome 6 none 4 160 [.ref (ad 8), .int l1, .int l2, .int l3] x (F_X2_keepThoseThatCome fu l1 l2 l3 x) := by
  refine ct_of [some (.ref (ad 8)), some (.int l1), some (.int l2), some (.int l3), none, none] (by decide) (Nat.le_of_ble_eq_true rfl) rfl rfl ?_
  intro p e s m args below meth c A X
  have X : Cx p s m args meth c RX2 cX2_keepThoseThatCome 6 none D cy ad shX A := X
  unfold F_X2_keepThoseThatCome
  refine s_iconst (pc := 0) X ic_0 dX2_keepThoseThatCome_0 ?_
  refine s_istore (pc := 1) X [some (.ref (ad 8)), some (.int l1), some (.int l2), some (.int l3), some (.int 0), none] rfl (by decide) dX2_keepThoseThatCome_1 ?_
  refine s_iconst (pc := 3) X ic_0 dX2_keepThoseThatCome_3 ?_
  refine s_istore (pc := 4) X [some (.ref (ad 8)), some (.int l1), some (.int l2), some (.int l3), some (.int 0), some (.int 0)] rfl (by decide) dX2_keepThoseThatCome_4 ?_
  refine tL_X2_keepThoseThatCome_6 X (fun l4_3 x_4 => ?_) fu _ _ _
  refine s_aload_n (pc := 55) X rfl dX2_keepThoseThatCome_55 ?_
  refine s_iload (pc := 56) X rfl dX2_keepThoseThatCome_56 ?_
  refine s_put (pc := 58) X shX_8 rfl fp_RX2_33 dX2_keepThoseThatCome_58 ?_
  refine s_letm (fun x_5 => ?_)
  exact s_vret (pc := 61) X dX2_keepThoseThatCome_61

-- X2_addTest
def F_X2_addTest (fu : Nat) (l1 : Int32) (l2 : Int32) (l3 : Int32) (x : Mem) : Res :=
  (letm (wr x 8 4 ((x 8 4) + 1)) (fun x_1 => (if l3 = (-1) then (some ((x_1 8 4), x_1)) else (cl (F_X2_keepThoseThatCome fu l1 l2 l3 x_1) (fun _ x_2 => (some ((x_2 8 4), x_2)))))))
set_option maxRecDepth 100000 in
set_option maxHeartbeats 4000000 in
theorem c_X2_addTest (l : Launch) (D : va_G) (cy : ClassId) (ad : Nat → Nat) (fu : Nat) (l1 : Int32) (l2 : Int32) (l3 : Int32) (x : Mem) : Ct l D cy ad shX yX2_addTest cX2_addTest 4 (some .int) 5 200 [.ref (ad 8), .int l1, .int l2, .int l3] x (F_X2_addTest fu l1 l2 l3 x) := by
  refine ct_of [some (.ref (ad 8)), some (.int l1), some (.int l2), some (.int l3)] (by decide) (Nat.le_of_ble_eq_true rfl) rfl rfl ?_
  intro p e s m args below meth c A X
  have X : Cx p s m args meth c RX2 cX2_addTest 4 (some .int) D cy ad shX A := X
  unfold F_X2_addTest
  refine s_aload_n (pc := 0) X rfl dX2_addTest_0 ?_
  refine s_dup (pc := 1) X rfl dX2_addTest_1 ?_
  refine s_getI (pc := 2) X shX_8 rfl fl_RX2_25 dX2_addTest_2 ?_
  refine s_iconst (pc := 5) X ic_1 dX2_addTest_5 ?_
  refine s_iadd (pc := 6) X dX2_addTest_6 ?_
  refine s_put (pc := 7) X shX_8 rfl fp_RX2_25 dX2_addTest_7 ?_
  refine s_letm (fun x_1 => ?_)
  refine s_iload_n (pc := 10) X rfl dX2_addTest_10 ?_
  refine s_iconst (pc := 11) X ic_m1 dX2_addTest_11 ?_
  refine s_icmp_eq (pc := 12) X 22 rfl dX2_addTest_12 ?_ ?_
  · refine s_aload_n (pc := 22) X rfl dX2_addTest_22 ?_
    refine s_getI (pc := 23) X shX_8 rfl fl_RX2_25 dX2_addTest_23 ?_
    exact s_iret (pc := 26) X dX2_addTest_26
  · refine s_aload_n (pc := 15) X rfl dX2_addTest_15 ?_
    refine s_iload_n (pc := 16) X rfl dX2_addTest_16 ?_
    refine s_iload_n (pc := 17) X rfl dX2_addTest_17 ?_
    refine s_iload_n (pc := 18) X rfl dX2_addTest_18 ?_
    refine s_callV0 (pc := 19) (As := [.int l1, .int l2, .int l3]) (st := []) X lk_RX2_29 (c_X2_keepThoseThatCome l D cy ad fu _ _ _ _) shX_8 rfl rfl rfl rfl ⟨by decide, by decide⟩ (Nat.le_of_ble_eq_true rfl) dX2_addTest_19 (fun _ x_2 => ?_)
    refine s_aload_n (pc := 22) X rfl dX2_addTest_22 ?_
    refine s_getI (pc := 23) X shX_8 rfl fl_RX2_25 dX2_addTest_23 ?_
    exact s_iret (pc := 26) X dX2_addTest_26

-- X2_takeAll
def L_X2_takeAll_2 (fu : Nat) : Nat → Int32 → Mem → (Mem → Res) → Res
  | 0, _, _, _ => none
  | n + 1, l1, x, K => (if (168 : Int32) ≤ l1 then (K x) else (chk l1 168 (letm (wr x 33 (l1 : Int32).toNatClampNeg l1) (fun x_1 => (L_X2_takeAll_2 fu n (l1 + 1) x_1 K)))))
set_option maxRecDepth 100000 in
set_option maxHeartbeats 4000000 in
theorem tL_X2_takeAll_2 {p : Program} {l : Launch} {e : Env} {s : State} {m : MethodId} {args : Array Value} {below : List Frame} {meth : Method} {c : Code} {D : va_G} {cy : ClassId} {ad : Nat → Nat} {A : Nat → Prop} {fu : Nat} (X : Cx p s m args meth c RX2 cX2_takeAll 2 none D cy ad shX A) {K : Mem → Res} (hK : ∀ (x : Mem), Sim p l e ({ frames := 1, cells := 0, slots := 0, locals := 40 } : Room) s m args below meth c 2 none D cy ad shX A 22 [some (.ref (ad 8)), none] [] x (K x)) : ∀ (n : Nat) (l1 : Int32) (x : Mem), Sim p l e ({ frames := 1, cells := 0, slots := 0, locals := 40 } : Room) s m args below meth c 2 none D cy ad shX A 2 [some (.ref (ad 8)), some (.int l1)] [] x (L_X2_takeAll_2 fu n l1 x K) := by
  intro n
  induction n with
  | zero =>
    intro l1 x
    rw [L_X2_takeAll_2]
    exact s_none
  | succ n ih =>
    intro l1 x
    rw [L_X2_takeAll_2]
    refine s_iload_n (pc := 2) X rfl dX2_takeAll_2 ?_
    refine s_sipush (pc := 3) X sp_168 dX2_takeAll_3 ?_
    refine s_icmp_ge (pc := 6) X 22 rfl dX2_takeAll_6 ?_ ?_
    · refine s_mask [true, false] ?_
      exact hK _
    · refine s_aload_n (pc := 9) X rfl dX2_takeAll_9 ?_
      refine s_getR (pc := 10) X shX_8 rfl fl_RX2_11 dX2_takeAll_10 ?_
      refine s_iload_n (pc := 13) X rfl dX2_takeAll_13 ?_
      refine s_iload_n (pc := 14) X rfl dX2_takeAll_14 ?_
      refine s_iast (pc := 15) X shX_33 dX2_takeAll_15 ?_
      refine s_letm (fun x_1 => ?_)
      refine s_iinc (pc := 16) X [some (.ref (ad 8)), some (.int (l1 + 1))] rfl (by decide) rfl ic_1 dX2_takeAll_16 ?_
      refine s_goto (pc := 19) X 2 rfl dX2_takeAll_19 ?_
      exact ih _ _

def F_X2_takeAll (fu : Nat) (x : Mem) : Res :=
  (L_X2_takeAll_2 fu fu 0 x (fun x_2 => (letm (wr x_2 8 3 168) (fun x_3 => (some (0, x_3))))))
set_option maxRecDepth 100000 in
set_option maxHeartbeats 4000000 in
theorem c_X2_takeAll (l : Launch) (D : va_G) (cy : ClassId) (ad : Nat → Nat) (fu : Nat) (x : Mem) : Ct l D cy ad shX yX2_takeAll cX2_takeAll 2 none 1 40 [.ref (ad 8)] x (F_X2_takeAll fu x) := by
  refine ct_of [some (.ref (ad 8)), none] (by decide) (Nat.le_of_ble_eq_true rfl) rfl rfl ?_
  intro p e s m args below meth c A X
  have X : Cx p s m args meth c RX2 cX2_takeAll 2 none D cy ad shX A := X
  unfold F_X2_takeAll
  refine s_iconst (pc := 0) X ic_0 dX2_takeAll_0 ?_
  refine s_istore_n (pc := 1) X [some (.ref (ad 8)), some (.int 0)] rfl (by decide) dX2_takeAll_1 ?_
  refine tL_X2_takeAll_2 X (fun x_2 => ?_) fu _ _
  refine s_aload_n (pc := 22) X rfl dX2_takeAll_22 ?_
  refine s_sipush (pc := 23) X sp_168 dX2_takeAll_23 ?_
  refine s_put (pc := 26) X shX_8 rfl fp_RX2_33 dX2_takeAll_26 ?_
  refine s_letm (fun x_3 => ?_)
  exact s_vret (pc := 29) X dX2_takeAll_29

-- X2_dropTests
def F_X2_dropTests (fu : Nat) (x : Mem) : Res :=
  (letv (x 8 4) (fun l1_1 => (letm (wr x 8 4 0) (fun x_2 => (cl (F_X2_takeAll fu x_2) (fun _ x_3 => (some (l1_1, x_3))))))))
set_option maxRecDepth 100000 in
set_option maxHeartbeats 4000000 in
theorem c_X2_dropTests (l : Launch) (D : va_G) (cy : ClassId) (ad : Nat → Nat) (fu : Nat) (x : Mem) : Ct l D cy ad shX yX2_dropTests cX2_dropTests 2 (some .int) 2 80 [.ref (ad 8)] x (F_X2_dropTests fu x) := by
  refine ct_of [some (.ref (ad 8)), none] (by decide) (Nat.le_of_ble_eq_true rfl) rfl rfl ?_
  intro p e s m args below meth c A X
  have X : Cx p s m args meth c RX2 cX2_dropTests 2 (some .int) D cy ad shX A := X
  unfold F_X2_dropTests
  refine s_aload_n (pc := 0) X rfl dX2_dropTests_0 ?_
  refine s_getI (pc := 1) X shX_8 rfl fl_RX2_25 dX2_dropTests_1 ?_
  refine s_letv (fun l1_1 => ?_)
  refine s_istore_n (pc := 4) X [some (.ref (ad 8)), some (.int l1_1)] rfl (by decide) dX2_dropTests_4 ?_
  refine s_aload_n (pc := 5) X rfl dX2_dropTests_5 ?_
  refine s_iconst (pc := 6) X ic_0 dX2_dropTests_6 ?_
  refine s_put (pc := 7) X shX_8 rfl fp_RX2_25 dX2_dropTests_7 ?_
  refine s_letm (fun x_2 => ?_)
  refine s_aload_n (pc := 10) X rfl dX2_dropTests_10 ?_
  refine s_callV0 (pc := 11) (As := []) (st := []) X lk_RX2_22 (c_X2_takeAll l D cy ad fu _) shX_8 rfl rfl rfl rfl ⟨by decide, by decide⟩ (Nat.le_of_ble_eq_true rfl) dX2_dropTests_11 (fun _ x_3 => ?_)
  refine s_iload_n (pc := 14) X rfl dX2_dropTests_14 ?_
  exact s_iret (pc := 15) X dX2_dropTests_15

-- X2_mostAlike
def L_X2_mostAlike_23 (fu : Nat) (l1 : Int32) (l2 : Int32) : Nat → Int32 → Mem → (Mem → Res) → Res
  | 0, _, _, _ => none
  | n + 1, l3, x, K => (if (x 8 3) ≤ l3 then (K x) else (chk l3 168 (clp (F_X2_outcomeWith fu (x 33 (l3 : Int32).toNatClampNeg) l1 l2 x) (fun r_4 => (chk r_4 3 (chk r_4 3 (letm (wr x 34 (r_4 : Int32).toNatClampNeg ((x 34 (r_4 : Int32).toNatClampNeg) + 1)) (fun x_5 => (L_X2_mostAlike_23 fu l1 l2 n (l3 + 1) x_5 K)))))))))
set_option maxRecDepth 100000 in
set_option maxHeartbeats 4000000 in
theorem tL_X2_mostAlike_23 {p : Program} {l : Launch} {e : Env} {s : State} {m : MethodId} {args : Array Value} {below : List Frame} {meth : Method} {c : Code} {D : va_G} {cy : ClassId} {ad : Nat → Nat} {A : Nat → Prop} {fu : Nat} (X : Cx p s m args meth c RX2 cX2_mostAlike 4 (some .int) D cy ad shX A) {l1 : Int32} {l2 : Int32} {K : Mem → Res} (hK : ∀ (x : Mem), Sim p l e ({ frames := 4, cells := 0, slots := 0, locals := 160 } : Room) s m args below meth c 4 (some .int) D cy ad shX A 58 [some (.ref (ad 8)), none, none, none] [] x (K x)) : ∀ (n : Nat) (l3 : Int32) (x : Mem), Sim p l e ({ frames := 4, cells := 0, slots := 0, locals := 160 } : Room) s m args below meth c 4 (some .int) D cy ad shX A 23 [some (.ref (ad 8)), some (.int l1), some (.int l2), some (.int l3)] [] x (L_X2_mostAlike_23 fu l1 l2 n l3 x K) := by
  intro n
  induction n with
  | zero =>
    intro l3 x
    rw [L_X2_mostAlike_23]
    exact s_none
  | succ n ih =>
    intro l3 x
    rw [L_X2_mostAlike_23]
    refine s_iload_n (pc := 23) X rfl dX2_mostAlike_23 ?_
    refine s_aload_n (pc := 24) X rfl dX2_mostAlike_24 ?_
    refine s_getI (pc := 25) X shX_8 rfl fl_RX2_33 dX2_mostAlike_25 ?_
    refine s_icmp_ge (pc := 28) X 58 rfl dX2_mostAlike_28 ?_ ?_
    · refine s_mask [true, false, false, false] ?_
      exact hK _
    · refine s_aload_n (pc := 31) X rfl dX2_mostAlike_31 ?_
      refine s_getR (pc := 32) X shX_8 rfl fl_RX2_15 dX2_mostAlike_32 ?_
      refine s_aload_n (pc := 35) X rfl dX2_mostAlike_35 ?_
      refine s_aload_n (pc := 36) X rfl dX2_mostAlike_36 ?_
      refine s_getR (pc := 37) X shX_8 rfl fl_RX2_11 dX2_mostAlike_37 ?_
      refine s_iload_n (pc := 40) X rfl dX2_mostAlike_40 ?_
      refine s_iald (pc := 41) X shX_33 dX2_mostAlike_41 ?_
      refine s_iload_n (pc := 42) X rfl dX2_mostAlike_42 ?_
      refine s_iload_n (pc := 43) X rfl dX2_mostAlike_43 ?_
      refine s_callVp (pc := 44) (As := [.int (x 33 (l3 : Int32).toNatClampNeg), .int l1, .int l2]) (st := [.ref (ad 34)]) X lk_RX2_43 (c_X2_outcomeWith l D cy ad fu _ _ _ _) shX_8 rfl rfl rfl rfl ⟨by decide, by decide⟩ (Nat.le_of_ble_eq_true rfl) dX2_mostAlike_44 (fun r_4 => ?_)
      refine s_dup2 (pc := 47) X rfl rfl dX2_mostAlike_47 ?_
      refine s_iald (pc := 48) X shX_34 dX2_mostAlike_48 ?_
      refine s_iconst (pc := 49) X ic_1 dX2_mostAlike_49 ?_
      refine s_iadd (pc := 50) X dX2_mostAlike_50 ?_
      refine s_iast (pc := 51) X shX_34 dX2_mostAlike_51 ?_
      refine s_letm (fun x_5 => ?_)
      refine s_iinc (pc := 52) X [some (.ref (ad 8)), some (.int l1), some (.int l2), some (.int (l3 + 1))] rfl (by decide) rfl ic_1 dX2_mostAlike_52 ?_
      refine s_goto (pc := 55) X 23 rfl dX2_mostAlike_55 ?_
      exact ih _ _

def F_X2_mostAlike (fu : Nat) (l1 : Int32) (l2 : Int32) (x : Mem) : Res :=
  (chk 0 3 (letm (wr x 34 (0 : Int32).toNatClampNeg 0) (fun x_1 => (chk 1 3 (letm (wr x_1 34 (1 : Int32).toNatClampNeg 0) (fun x_2 => (chk 2 3 (letm (wr x_2 34 (2 : Int32).toNatClampNeg 0) (fun x_3 => (L_X2_mostAlike_23 fu l1 l2 fu 0 x_3 (fun x_6 => (chk 0 3 (chk 1 3 (chk 2 3 (some ((imax (x_6 34 (0 : Int32).toNatClampNeg) (imax (x_6 34 (1 : Int32).toNatClampNeg) (x_6 34 (2 : Int32).toNatClampNeg))), x_6))))))))))))))))
set_option maxRecDepth 100000 in
set_option maxHeartbeats 4000000 in
theorem c_X2_mostAlike (l : Launch) (D : va_G) (cy : ClassId) (ad : Nat → Nat) (fu : Nat) (l1 : Int32) (l2 : Int32) (x : Mem) : Ct l D cy ad shX yX2_mostAlike cX2_mostAlike 4 (some .int) 4 160 [.ref (ad 8), .int l1, .int l2] x (F_X2_mostAlike fu l1 l2 x) := by
  refine ct_of [some (.ref (ad 8)), some (.int l1), some (.int l2), none] (by decide) (Nat.le_of_ble_eq_true rfl) rfl rfl ?_
  intro p e s m args below meth c A X
  have X : Cx p s m args meth c RX2 cX2_mostAlike 4 (some .int) D cy ad shX A := X
  unfold F_X2_mostAlike
  refine s_aload_n (pc := 0) X rfl dX2_mostAlike_0 ?_
  refine s_getR (pc := 1) X shX_8 rfl fl_RX2_15 dX2_mostAlike_1 ?_
  refine s_iconst (pc := 4) X ic_0 dX2_mostAlike_4 ?_
  refine s_iconst (pc := 5) X ic_0 dX2_mostAlike_5 ?_
  refine s_iast (pc := 6) X shX_34 dX2_mostAlike_6 ?_
  refine s_letm (fun x_1 => ?_)
  refine s_aload_n (pc := 7) X rfl dX2_mostAlike_7 ?_
  refine s_getR (pc := 8) X shX_8 rfl fl_RX2_15 dX2_mostAlike_8 ?_
  refine s_iconst (pc := 11) X ic_1 dX2_mostAlike_11 ?_
  refine s_iconst (pc := 12) X ic_0 dX2_mostAlike_12 ?_
  refine s_iast (pc := 13) X shX_34 dX2_mostAlike_13 ?_
  refine s_letm (fun x_2 => ?_)
  refine s_aload_n (pc := 14) X rfl dX2_mostAlike_14 ?_
  refine s_getR (pc := 15) X shX_8 rfl fl_RX2_15 dX2_mostAlike_15 ?_
  refine s_iconst (pc := 18) X ic_2 dX2_mostAlike_18 ?_
  refine s_iconst (pc := 19) X ic_0 dX2_mostAlike_19 ?_
  refine s_iast (pc := 20) X shX_34 dX2_mostAlike_20 ?_
  refine s_letm (fun x_3 => ?_)
  refine s_iconst (pc := 21) X ic_0 dX2_mostAlike_21 ?_
  refine s_istore_n (pc := 22) X [some (.ref (ad 8)), some (.int l1), some (.int l2), some (.int 0)] rfl (by decide) dX2_mostAlike_22 ?_
  refine tL_X2_mostAlike_23 X (fun x_6 => ?_) fu _ _
  refine s_aload_n (pc := 58) X rfl dX2_mostAlike_58 ?_
  refine s_getR (pc := 59) X shX_8 rfl fl_RX2_15 dX2_mostAlike_59 ?_
  refine s_iconst (pc := 62) X ic_0 dX2_mostAlike_62 ?_
  refine s_iald (pc := 63) X shX_34 dX2_mostAlike_63 ?_
  refine s_aload_n (pc := 64) X rfl dX2_mostAlike_64 ?_
  refine s_getR (pc := 65) X shX_8 rfl fl_RX2_15 dX2_mostAlike_65 ?_
  refine s_iconst (pc := 68) X ic_1 dX2_mostAlike_68 ?_
  refine s_iald (pc := 69) X shX_34 dX2_mostAlike_69 ?_
  refine s_aload_n (pc := 70) X rfl dX2_mostAlike_70 ?_
  refine s_getR (pc := 71) X shX_8 rfl fl_RX2_15 dX2_mostAlike_71 ?_
  refine s_iconst (pc := 74) X ic_2 dX2_mostAlike_74 ?_
  refine s_iald (pc := 75) X shX_34 dX2_mostAlike_75 ?_
  refine s_mmax (pc := 76) X ml_RX2_47 mm_max_s mm_ini mm_max_c (by decide) (Nat.le_of_ble_eq_true rfl) dX2_mostAlike_76 ?_
  refine s_mmax (pc := 79) X ml_RX2_47 mm_max_s mm_ini mm_max_c (by decide) (Nat.le_of_ble_eq_true rfl) dX2_mostAlike_79 ?_
  exact s_iret (pc := 82) X dX2_mostAlike_82

-- X2_testThatPartsMost
def L_X2_testThatPartsMost_19 (fu : Nat) (l1 : Int32) : Nat → Int32 → Int32 → Int32 → Mem → (Int32 → Mem → Res) → Res
  | 0, _, _, _, _, _ => none
  | n + 1, l2, l3, l4, x, K => (if (x 1 0) ≤ l4 then (K l2 x) else (cl (F_X2_mostAlike fu l4 l1 x) (fun r_1 x_2 => (if l2 = (-4) then (L_X2_testThatPartsMost_19 fu l1 n l4 r_1 (l4 + 1) x_2 K) else (if l3 ≤ r_1 then (L_X2_testThatPartsMost_19 fu l1 n l2 l3 (l4 + 1) x_2 K) else (L_X2_testThatPartsMost_19 fu l1 n l4 r_1 (l4 + 1) x_2 K))))))
set_option maxRecDepth 100000 in
set_option maxHeartbeats 4000000 in
theorem tL_X2_testThatPartsMost_19 {p : Program} {l : Launch} {e : Env} {s : State} {m : MethodId} {args : Array Value} {below : List Frame} {meth : Method} {c : Code} {D : va_G} {cy : ClassId} {ad : Nat → Nat} {A : Nat → Prop} {fu : Nat} (X : Cx p s m args meth c RX2 cX2_testThatPartsMost 6 (some .int) D cy ad shX A) {l1 : Int32} {K : Int32 → Mem → Res} (hK : ∀ (l2 : Int32) (x : Mem), Sim p l e ({ frames := 5, cells := 0, slots := 0, locals := 200 } : Room) s m args below meth c 6 (some .int) D cy ad shX A 64 [none, none, some (.int l2), none, none, none] [] x (K l2 x)) : ∀ (n : Nat) (l2 : Int32) (l3 : Int32) (l4 : Int32) (x : Mem), Sim p l e ({ frames := 5, cells := 0, slots := 0, locals := 200 } : Room) s m args below meth c 6 (some .int) D cy ad shX A 19 [some (.ref (ad 8)), some (.int l1), some (.int l2), some (.int l3), some (.int l4), none] [] x (L_X2_testThatPartsMost_19 fu l1 n l2 l3 l4 x K) := by
  intro n
  induction n with
  | zero =>
    intro l2 l3 l4 x
    rw [L_X2_testThatPartsMost_19]
    exact s_none
  | succ n ih =>
    intro l2 l3 l4 x
    rw [L_X2_testThatPartsMost_19]
    refine s_iload (pc := 19) X rfl dX2_testThatPartsMost_19 ?_
    refine s_aload_n (pc := 21) X rfl dX2_testThatPartsMost_21 ?_
    refine s_getR (pc := 22) X shX_8 rfl fl_RX2_18 dX2_testThatPartsMost_22 ?_
    refine s_getI (pc := 25) X shX_1 rfl fl_RX2_36 dX2_testThatPartsMost_25 ?_
    refine s_icmp_ge (pc := 28) X 64 rfl dX2_testThatPartsMost_28 ?_ ?_
    · refine s_mask [false, false, true, false, false, false] ?_
      exact hK _ _
    · refine s_aload_n (pc := 31) X rfl dX2_testThatPartsMost_31 ?_
      refine s_iload (pc := 32) X rfl dX2_testThatPartsMost_32 ?_
      refine s_iload_n (pc := 34) X rfl dX2_testThatPartsMost_34 ?_
      refine s_callV (pc := 35) (As := [.int l4, .int l1]) (st := []) X lk_RX2_39 (c_X2_mostAlike l D cy ad fu _ _ _) shX_8 rfl rfl rfl rfl ⟨by decide, by decide⟩ (Nat.le_of_ble_eq_true rfl) dX2_testThatPartsMost_35 (fun r_1 x_2 => ?_)
      refine s_istore (pc := 38) X [some (.ref (ad 8)), some (.int l1), some (.int l2), some (.int l3), some (.int l4), some (.int r_1)] rfl (by decide) dX2_testThatPartsMost_38 ?_
      refine s_iload_n (pc := 40) X rfl dX2_testThatPartsMost_40 ?_
      refine s_bipush (pc := 41) X bp_m4 dX2_testThatPartsMost_41 ?_
      refine s_icmp_eq (pc := 43) X 52 rfl dX2_testThatPartsMost_43 ?_ ?_
      · refine s_iload (pc := 52) X rfl dX2_testThatPartsMost_52 ?_
        refine s_istore_n (pc := 54) X [some (.ref (ad 8)), some (.int l1), some (.int l4), some (.int l3), some (.int l4), some (.int r_1)] rfl (by decide) dX2_testThatPartsMost_54 ?_
        refine s_iload (pc := 55) X rfl dX2_testThatPartsMost_55 ?_
        refine s_istore_n (pc := 57) X [some (.ref (ad 8)), some (.int l1), some (.int l4), some (.int r_1), some (.int l4), some (.int r_1)] rfl (by decide) dX2_testThatPartsMost_57 ?_
        refine s_iinc (pc := 58) X [some (.ref (ad 8)), some (.int l1), some (.int l4), some (.int r_1), some (.int (l4 + 1)), some (.int r_1)] rfl (by decide) rfl ic_1 dX2_testThatPartsMost_58 ?_
        refine s_goto (pc := 61) X 19 rfl dX2_testThatPartsMost_61 ?_
        refine s_mask [true, true, true, true, true, false] ?_
        exact ih _ _ _ _
      · refine s_iload (pc := 46) X rfl dX2_testThatPartsMost_46 ?_
        refine s_iload_n (pc := 48) X rfl dX2_testThatPartsMost_48 ?_
        refine s_icmp_ge (pc := 49) X 58 rfl dX2_testThatPartsMost_49 ?_ ?_
        · refine s_iinc (pc := 58) X [some (.ref (ad 8)), some (.int l1), some (.int l2), some (.int l3), some (.int (l4 + 1)), some (.int r_1)] rfl (by decide) rfl ic_1 dX2_testThatPartsMost_58 ?_
          refine s_goto (pc := 61) X 19 rfl dX2_testThatPartsMost_61 ?_
          refine s_mask [true, true, true, true, true, false] ?_
          exact ih _ _ _ _
        · refine s_iload (pc := 52) X rfl dX2_testThatPartsMost_52 ?_
          refine s_istore_n (pc := 54) X [some (.ref (ad 8)), some (.int l1), some (.int l4), some (.int l3), some (.int l4), some (.int r_1)] rfl (by decide) dX2_testThatPartsMost_54 ?_
          refine s_iload (pc := 55) X rfl dX2_testThatPartsMost_55 ?_
          refine s_istore_n (pc := 57) X [some (.ref (ad 8)), some (.int l1), some (.int l4), some (.int r_1), some (.int l4), some (.int r_1)] rfl (by decide) dX2_testThatPartsMost_57 ?_
          refine s_iinc (pc := 58) X [some (.ref (ad 8)), some (.int l1), some (.int l4), some (.int r_1), some (.int (l4 + 1)), some (.int r_1)] rfl (by decide) rfl ic_1 dX2_testThatPartsMost_58 ?_
          refine s_goto (pc := 61) X 19 rfl dX2_testThatPartsMost_61 ?_
          refine s_mask [true, true, true, true, true, false] ?_
          exact ih _ _ _ _

def F_X2_testThatPartsMost (fu : Nat) (l1 : Int32) (x : Mem) : Res :=
  (if (2 : Int32) ≤ (x 8 3) then (L_X2_testThatPartsMost_19 fu l1 fu (-4) 0 0 x (fun l2_3 x_4 => (some (l2_3, x_4)))) else (some ((-4), x)))
set_option maxRecDepth 100000 in
set_option maxHeartbeats 4000000 in
theorem c_X2_testThatPartsMost (l : Launch) (D : va_G) (cy : ClassId) (ad : Nat → Nat) (fu : Nat) (l1 : Int32) (x : Mem) : Ct l D cy ad shX yX2_testThatPartsMost cX2_testThatPartsMost 6 (some .int) 5 200 [.ref (ad 8), .int l1] x (F_X2_testThatPartsMost fu l1 x) := by
  refine ct_of [some (.ref (ad 8)), some (.int l1), none, none, none, none] (by decide) (Nat.le_of_ble_eq_true rfl) rfl rfl ?_
  intro p e s m args below meth c A X
  have X : Cx p s m args meth c RX2 cX2_testThatPartsMost 6 (some .int) D cy ad shX A := X
  unfold F_X2_testThatPartsMost
  refine s_aload_n (pc := 0) X rfl dX2_testThatPartsMost_0 ?_
  refine s_getI (pc := 1) X shX_8 rfl fl_RX2_33 dX2_testThatPartsMost_1 ?_
  refine s_iconst (pc := 4) X ic_2 dX2_testThatPartsMost_4 ?_
  refine s_icmp_ge (pc := 5) X 11 rfl dX2_testThatPartsMost_5 ?_ ?_
  · refine s_bipush (pc := 11) X bp_m4 dX2_testThatPartsMost_11 ?_
    refine s_istore_n (pc := 13) X [some (.ref (ad 8)), some (.int l1), some (.int (-4)), none, none, none] rfl (by decide) dX2_testThatPartsMost_13 ?_
    refine s_iconst (pc := 14) X ic_0 dX2_testThatPartsMost_14 ?_
    refine s_istore_n (pc := 15) X [some (.ref (ad 8)), some (.int l1), some (.int (-4)), some (.int 0), none, none] rfl (by decide) dX2_testThatPartsMost_15 ?_
    refine s_iconst (pc := 16) X ic_0 dX2_testThatPartsMost_16 ?_
    refine s_istore (pc := 17) X [some (.ref (ad 8)), some (.int l1), some (.int (-4)), some (.int 0), some (.int 0), none] rfl (by decide) dX2_testThatPartsMost_17 ?_
    refine tL_X2_testThatPartsMost_19 X (fun l2_3 x_4 => ?_) fu _ _ _ _
    refine s_iload_n (pc := 64) X rfl dX2_testThatPartsMost_64 ?_
    exact s_iret (pc := 65) X dX2_testThatPartsMost_65
  · refine s_bipush (pc := 8) X bp_m4 dX2_testThatPartsMost_8 ?_
    exact s_iret (pc := 10) X dX2_testThatPartsMost_10

-- X3_isNextOnFloor
def F_X3_isNextOnFloor (fu : Nat) (l1 : Int32) (l2 : Int32) (x : Mem) : Option Int32 :=
  (if (l2 - l1) = 1 then (nz 6 (if (l2 - l2 / 6 * 6) = 0 then (retzp 0) else (retzp 1))) else (retzp 0))
set_option maxRecDepth 100000 in
set_option maxHeartbeats 4000000 in
theorem c_X3_isNextOnFloor (l : Launch) (D : va_G) (cy : ClassId) (ad : Nat → Nat) (fu : Nat) (l1 : Int32) (l2 : Int32) (x : Mem) : Ct l D cy ad shX yX3_isNextOnFloor cX3_isNextOnFloor 3 (some .boolean) 1 40 [.ref (ad 9), .int l1, .int l2] x (pr (F_X3_isNextOnFloor fu l1 l2 x) x) := by
  refine ct_of [some (.ref (ad 9)), some (.int l1), some (.int l2)] (by decide) (Nat.le_of_ble_eq_true rfl) rfl rfl ?_
  intro p e s m args below meth c A X
  have X : Cx p s m args meth c RX3 cX3_isNextOnFloor 3 (some .boolean) D cy ad shX A := X
  unfold F_X3_isNextOnFloor
  refine s_iload_n (pc := 0) X rfl dX3_isNextOnFloor_0 ?_
  refine s_iload_n (pc := 1) X rfl dX3_isNextOnFloor_1 ?_
  refine s_isub (pc := 2) X dX3_isNextOnFloor_2 ?_
  refine s_iconst (pc := 3) X ic_1 dX3_isNextOnFloor_3 ?_
  refine p_icmp_ne (pc := 4) X 18 rfl dX3_isNextOnFloor_4 ?_ ?_
  · refine s_iconst (pc := 18) X ic_0 dX3_isNextOnFloor_18 ?_
    exact p_zret (pc := 19) X dX3_isNextOnFloor_19
  · refine s_iload_n (pc := 7) X rfl dX3_isNextOnFloor_7 ?_
    refine s_bipush (pc := 8) X bp_6 dX3_isNextOnFloor_8 ?_
    refine p_irem (pc := 10) X dX3_isNextOnFloor_10 ?_
    refine p_if_eq (pc := 11) X 18 rfl dX3_isNextOnFloor_11 ?_ ?_
    · refine s_iconst (pc := 18) X ic_0 dX3_isNextOnFloor_18 ?_
      exact p_zret (pc := 19) X dX3_isNextOnFloor_19
    · refine s_iconst (pc := 14) X ic_1 dX3_isNextOnFloor_14 ?_
      refine s_goto (pc := 15) X 19 rfl dX3_isNextOnFloor_15 ?_
      exact p_zret (pc := 19) X dX3_isNextOnFloor_19

-- X3_areSideBySide
def F_X3_areSideBySide (fu : Nat) (l1 : Int32) (l2 : Int32) (x : Mem) : Option Int32 :=
  (letv (imin l1 l2) (fun l3_1 => (letv (imax l1 l2) (fun l4_2 => (if (l4_2 - l3_1) = 6 then (retzp 1) else (clp (F_X3_isNextOnFloor fu l3_1 l4_2 x) (fun r_3 => (if r_3 = 0 then (retzp 0) else (retzp 1)))))))))
set_option maxRecDepth 100000 in
set_option maxHeartbeats 4000000 in
theorem c_X3_areSideBySide (l : Launch) (D : va_G) (cy : ClassId) (ad : Nat → Nat) (fu : Nat) (l1 : Int32) (l2 : Int32) (x : Mem) : Ct l D cy ad shX yX3_areSideBySide cX3_areSideBySide 5 (some .boolean) 2 80 [.ref (ad 9), .int l1, .int l2] x (pr (F_X3_areSideBySide fu l1 l2 x) x) := by
  refine ct_of [some (.ref (ad 9)), some (.int l1), some (.int l2), none, none] (by decide) (Nat.le_of_ble_eq_true rfl) rfl rfl ?_
  intro p e s m args below meth c A X
  have X : Cx p s m args meth c RX3 cX3_areSideBySide 5 (some .boolean) D cy ad shX A := X
  unfold F_X3_areSideBySide
  refine s_iload_n (pc := 0) X rfl dX3_areSideBySide_0 ?_
  refine s_iload_n (pc := 1) X rfl dX3_areSideBySide_1 ?_
  refine s_mmin (pc := 2) X ml_RX3_24 mm_min_s mm_ini mm_min_c (by decide) (Nat.le_of_ble_eq_true rfl) dX3_areSideBySide_2 ?_
  refine p_letv (fun l3_1 => ?_)
  refine s_istore_n (pc := 5) X [some (.ref (ad 9)), some (.int l1), some (.int l2), some (.int l3_1), none] rfl (by decide) dX3_areSideBySide_5 ?_
  refine s_iload_n (pc := 6) X rfl dX3_areSideBySide_6 ?_
  refine s_iload_n (pc := 7) X rfl dX3_areSideBySide_7 ?_
  refine s_mmax (pc := 8) X ml_RX3_30 mm_max_s mm_ini mm_max_c (by decide) (Nat.le_of_ble_eq_true rfl) dX3_areSideBySide_8 ?_
  refine p_letv (fun l4_2 => ?_)
  refine s_istore (pc := 11) X [some (.ref (ad 9)), some (.int l1), some (.int l2), some (.int l3_1), some (.int l4_2)] rfl (by decide) dX3_areSideBySide_11 ?_
  refine s_iload (pc := 13) X rfl dX3_areSideBySide_13 ?_
  refine s_iload_n (pc := 15) X rfl dX3_areSideBySide_15 ?_
  refine s_isub (pc := 16) X dX3_areSideBySide_16 ?_
  refine s_bipush (pc := 17) X bp_6 dX3_areSideBySide_17 ?_
  refine p_icmp_eq (pc := 19) X 32 rfl dX3_areSideBySide_19 ?_ ?_
  · refine s_iconst (pc := 32) X ic_1 dX3_areSideBySide_32 ?_
    refine s_goto (pc := 33) X 37 rfl dX3_areSideBySide_33 ?_
    exact p_zret (pc := 37) X dX3_areSideBySide_37
  · refine s_aload_n (pc := 22) X rfl dX3_areSideBySide_22 ?_
    refine s_iload_n (pc := 23) X rfl dX3_areSideBySide_23 ?_
    refine s_iload (pc := 24) X rfl dX3_areSideBySide_24 ?_
    refine p_callV (pc := 26) (As := [.int l3_1, .int l4_2]) (st := []) X lk_RX3_33 (c_X3_isNextOnFloor l D cy ad fu _ _ _) shX_9 rfl rfl rfl rfl ⟨by decide, by decide⟩ (Nat.le_of_ble_eq_true rfl) dX3_areSideBySide_26 (fun r_3 => ?_)
    refine p_if_eq (pc := 29) X 36 rfl dX3_areSideBySide_29 ?_ ?_
    · refine s_iconst (pc := 36) X ic_0 dX3_areSideBySide_36 ?_
      exact p_zret (pc := 37) X dX3_areSideBySide_37
    · refine s_iconst (pc := 32) X ic_1 dX3_areSideBySide_32 ?_
      refine s_goto (pc := 33) X 37 rfl dX3_areSideBySide_33 ?_
      exact p_zret (pc := 37) X dX3_areSideBySide_37

-- X3_setBetween
def F_X3_setBetween (fu : Nat) (l1 : Int32) (l2 : Int32) (l3 : Int32) (x : Mem) : Res :=
  (letv (imin l1 l2) (fun l4_1 => (clp (F_X3_isNextOnFloor fu l4_1 (imax l1 l2) x) (fun r_2 => (if r_2 = 0 then (chk l4_1 24 (letv (x 36 (l4_1 : Int32).toNatClampNeg) (fun l6_3 => (chk l4_1 24 (letm (wr x 36 (l4_1 : Int32).toNatClampNeg l3) (fun x_4 => (some (l6_3, x_4)))))))) else (chk l4_1 24 (letv (x 35 (l4_1 : Int32).toNatClampNeg) (fun l6_5 => (chk l4_1 24 (letm (wr x 35 (l4_1 : Int32).toNatClampNeg l3) (fun x_6 => (some (l6_5, x_6)))))))))))))
set_option maxRecDepth 100000 in
set_option maxHeartbeats 4000000 in
theorem c_X3_setBetween (l : Launch) (D : va_G) (cy : ClassId) (ad : Nat → Nat) (fu : Nat) (l1 : Int32) (l2 : Int32) (l3 : Int32) (x : Mem) : Ct l D cy ad shX yX3_setBetween cX3_setBetween 7 (some .int) 2 80 [.ref (ad 9), .int l1, .int l2, .int l3] x (F_X3_setBetween fu l1 l2 l3 x) := by
  refine ct_of [some (.ref (ad 9)), some (.int l1), some (.int l2), some (.int l3), none, none, none] (by decide) (Nat.le_of_ble_eq_true rfl) rfl rfl ?_
  intro p e s m args below meth c A X
  have X : Cx p s m args meth c RX3 cX3_setBetween 7 (some .int) D cy ad shX A := X
  unfold F_X3_setBetween
  refine s_iload_n (pc := 0) X rfl dX3_setBetween_0 ?_
  refine s_iload_n (pc := 1) X rfl dX3_setBetween_1 ?_
  refine s_mmin (pc := 2) X ml_RX3_24 mm_min_s mm_ini mm_min_c (by decide) (Nat.le_of_ble_eq_true rfl) dX3_setBetween_2 ?_
  refine s_letv (fun l4_1 => ?_)
  refine s_istore (pc := 5) X [some (.ref (ad 9)), some (.int l1), some (.int l2), some (.int l3), some (.int l4_1), none, none] rfl (by decide) dX3_setBetween_5 ?_
  refine s_aload_n (pc := 7) X rfl dX3_setBetween_7 ?_
  refine s_iload (pc := 8) X rfl dX3_setBetween_8 ?_
  refine s_iload_n (pc := 10) X rfl dX3_setBetween_10 ?_
  refine s_iload_n (pc := 11) X rfl dX3_setBetween_11 ?_
  refine s_mmax (pc := 12) X ml_RX3_30 mm_max_s mm_ini mm_max_c (by decide) (Nat.le_of_ble_eq_true rfl) dX3_setBetween_12 ?_
  refine s_callVp (pc := 15) (As := [.int l4_1, .int (imax l1 l2)]) (st := []) X lk_RX3_33 (c_X3_isNextOnFloor l D cy ad fu _ _ _) shX_9 rfl rfl rfl rfl ⟨by decide, by decide⟩ (Nat.le_of_ble_eq_true rfl) dX3_setBetween_15 (fun r_2 => ?_)
  refine s_if_eq (pc := 18) X 28 rfl dX3_setBetween_18 ?_ ?_
  · refine s_aload_n (pc := 28) X rfl dX3_setBetween_28 ?_
    refine s_getR (pc := 29) X shX_9 rfl fl_RX3_15 dX3_setBetween_29 ?_
    refine s_astore (pc := 32) X [some (.ref (ad 9)), some (.int l1), some (.int l2), some (.int l3), some (.int l4_1), some (.ref (ad 36)), none] rfl (by decide) dX3_setBetween_32 ?_
    refine s_aload (pc := 34) X rfl dX3_setBetween_34 ?_
    refine s_iload (pc := 36) X rfl dX3_setBetween_36 ?_
    refine s_iald (pc := 38) X shX_36 dX3_setBetween_38 ?_
    refine s_letv (fun l6_3 => ?_)
    refine s_istore (pc := 39) X [some (.ref (ad 9)), some (.int l1), some (.int l2), some (.int l3), some (.int l4_1), some (.ref (ad 36)), some (.int l6_3)] rfl (by decide) dX3_setBetween_39 ?_
    refine s_aload (pc := 41) X rfl dX3_setBetween_41 ?_
    refine s_iload (pc := 43) X rfl dX3_setBetween_43 ?_
    refine s_iload_n (pc := 45) X rfl dX3_setBetween_45 ?_
    refine s_iast (pc := 46) X shX_36 dX3_setBetween_46 ?_
    refine s_letm (fun x_4 => ?_)
    refine s_iload (pc := 47) X rfl dX3_setBetween_47 ?_
    exact s_iret (pc := 49) X dX3_setBetween_49
  · refine s_aload_n (pc := 21) X rfl dX3_setBetween_21 ?_
    refine s_getR (pc := 22) X shX_9 rfl fl_RX3_9 dX3_setBetween_22 ?_
    refine s_goto (pc := 25) X 32 rfl dX3_setBetween_25 ?_
    refine s_astore (pc := 32) X [some (.ref (ad 9)), some (.int l1), some (.int l2), some (.int l3), some (.int l4_1), some (.ref (ad 35)), none] rfl (by decide) dX3_setBetween_32 ?_
    refine s_aload (pc := 34) X rfl dX3_setBetween_34 ?_
    refine s_iload (pc := 36) X rfl dX3_setBetween_36 ?_
    refine s_iald (pc := 38) X shX_35 dX3_setBetween_38 ?_
    refine s_letv (fun l6_5 => ?_)
    refine s_istore (pc := 39) X [some (.ref (ad 9)), some (.int l1), some (.int l2), some (.int l3), some (.int l4_1), some (.ref (ad 35)), some (.int l6_5)] rfl (by decide) dX3_setBetween_39 ?_
    refine s_aload (pc := 41) X rfl dX3_setBetween_41 ?_
    refine s_iload (pc := 43) X rfl dX3_setBetween_43 ?_
    refine s_iload_n (pc := 45) X rfl dX3_setBetween_45 ?_
    refine s_iast (pc := 46) X shX_35 dX3_setBetween_46 ?_
    refine s_letm (fun x_6 => ?_)
    refine s_iload (pc := 47) X rfl dX3_setBetween_47 ?_
    exact s_iret (pc := 49) X dX3_setBetween_49

-- X3_countWires
def L_X3_countWires_4 (fu : Nat) (x : Mem) : Nat → Int32 → Int32 → (Int32 → Option Int32) → Option Int32
  | 0, _, _, _ => none
  | n + 1, l1, l2, K => (if (24 : Int32) ≤ l2 then (K l1) else (chk l2 24 (jn (fun (k_1 : Int32 → Option Int32) => (if (x 35 (l2 : Int32).toNatClampNeg) = 2 then (k_1 (l1 + 1)) else (k_1 l1))) (fun l1_2 => (chk l2 24 (if (x 36 (l2 : Int32).toNatClampNeg) = 2 then (L_X3_countWires_4 fu x n (l1_2 + 1) (l2 + 1) K) else (L_X3_countWires_4 fu x n l1_2 (l2 + 1) K)))))))
set_option maxRecDepth 100000 in
set_option maxHeartbeats 4000000 in
theorem tL_X3_countWires_4 {p : Program} {l : Launch} {e : Env} {s : State} {m : MethodId} {args : Array Value} {below : List Frame} {meth : Method} {c : Code} {D : va_G} {cy : ClassId} {ad : Nat → Nat} {A : Nat → Prop} {fu : Nat} (X : Cx p s m args meth c RX3 cX3_countWires 3 (some .int) D cy ad shX A) {x : Mem} {K : Int32 → Option Int32} (hK : ∀ (l1 : Int32), Sim p l e ({ frames := 1, cells := 0, slots := 0, locals := 40 } : Room) s m args below meth c 3 (some .int) D cy ad shX A 42 [none, some (.int l1), none] [] x (pr (K l1) x)) : ∀ (n : Nat) (l1 : Int32) (l2 : Int32), Sim p l e ({ frames := 1, cells := 0, slots := 0, locals := 40 } : Room) s m args below meth c 3 (some .int) D cy ad shX A 4 [some (.ref (ad 9)), some (.int l1), some (.int l2)] [] x (pr (L_X3_countWires_4 fu x n l1 l2 K) x) := by
  intro n
  induction n with
  | zero =>
    intro l1 l2
    rw [L_X3_countWires_4]
    exact p_none
  | succ n ih =>
    intro l1 l2
    rw [L_X3_countWires_4]
    refine s_iload_n (pc := 4) X rfl dX3_countWires_4 ?_
    refine s_bipush (pc := 5) X bp_24 dX3_countWires_5 ?_
    refine p_icmp_ge (pc := 7) X 42 rfl dX3_countWires_7 ?_ ?_
    · refine s_mask [false, true, false] ?_
      exact hK _
    · refine s_aload_n (pc := 10) X rfl dX3_countWires_10 ?_
      refine s_getR (pc := 11) X shX_9 rfl fl_RX3_9 dX3_countWires_11 ?_
      refine s_iload_n (pc := 14) X rfl dX3_countWires_14 ?_
      refine p_iald (pc := 15) X shX_35 dX3_countWires_15 ?_
      refine s_iconst (pc := 16) X ic_2 dX3_countWires_16 ?_
      refine p_jn (fun (k_1 : Int32 → Option Int32) => ∀ (l1_2 : Int32), Sim p l e ({ frames := 1, cells := 0, slots := 0, locals := 40 } : Room) s m args below meth c 3 (some .int) D cy ad shX A 23 [some (.ref (ad 9)), some (.int l1_2), some (.int l2)] [] x (pr (k_1 l1_2) x)) ?_ (fun k_1 hk_1 => ?_)
      · intro l1_2
        refine s_aload_n (pc := 23) X rfl dX3_countWires_23 ?_
        refine s_getR (pc := 24) X shX_9 rfl fl_RX3_15 dX3_countWires_24 ?_
        refine s_iload_n (pc := 27) X rfl dX3_countWires_27 ?_
        refine p_iald (pc := 28) X shX_36 dX3_countWires_28 ?_
        refine s_iconst (pc := 29) X ic_2 dX3_countWires_29 ?_
        refine p_icmp_ne (pc := 30) X 36 rfl dX3_countWires_30 ?_ ?_
        · refine s_iinc (pc := 36) X [some (.ref (ad 9)), some (.int l1_2), some (.int (l2 + 1))] rfl (by decide) rfl ic_1 dX3_countWires_36 ?_
          refine s_goto (pc := 39) X 4 rfl dX3_countWires_39 ?_
          exact ih _ _
        · refine s_iinc (pc := 33) X [some (.ref (ad 9)), some (.int (l1_2 + 1)), some (.int l2)] rfl (by decide) rfl ic_1 dX3_countWires_33 ?_
          refine s_iinc (pc := 36) X [some (.ref (ad 9)), some (.int (l1_2 + 1)), some (.int (l2 + 1))] rfl (by decide) rfl ic_1 dX3_countWires_36 ?_
          refine s_goto (pc := 39) X 4 rfl dX3_countWires_39 ?_
          exact ih _ _
      · refine p_icmp_ne (pc := 17) X 23 rfl dX3_countWires_17 ?_ ?_
        · exact hk_1 _
        · refine s_iinc (pc := 20) X [some (.ref (ad 9)), some (.int (l1 + 1)), some (.int l2)] rfl (by decide) rfl ic_1 dX3_countWires_20 ?_
          exact hk_1 _

def F_X3_countWires (fu : Nat) (x : Mem) : Option Int32 :=
  (L_X3_countWires_4 fu x fu 0 0 (fun l1_3 => (some l1_3)))
set_option maxRecDepth 100000 in
set_option maxHeartbeats 4000000 in
theorem c_X3_countWires (l : Launch) (D : va_G) (cy : ClassId) (ad : Nat → Nat) (fu : Nat) (x : Mem) : Ct l D cy ad shX yX3_countWires cX3_countWires 3 (some .int) 1 40 [.ref (ad 9)] x (pr (F_X3_countWires fu x) x) := by
  refine ct_of [some (.ref (ad 9)), none, none] (by decide) (Nat.le_of_ble_eq_true rfl) rfl rfl ?_
  intro p e s m args below meth c A X
  have X : Cx p s m args meth c RX3 cX3_countWires 3 (some .int) D cy ad shX A := X
  unfold F_X3_countWires
  refine s_iconst (pc := 0) X ic_0 dX3_countWires_0 ?_
  refine s_istore_n (pc := 1) X [some (.ref (ad 9)), some (.int 0), none] rfl (by decide) dX3_countWires_1 ?_
  refine s_iconst (pc := 2) X ic_0 dX3_countWires_2 ?_
  refine s_istore_n (pc := 3) X [some (.ref (ad 9)), some (.int 0), some (.int 0)] rfl (by decide) dX3_countWires_3 ?_
  refine tL_X3_countWires_4 X (fun l1_3 => ?_) fu _ _
  refine s_iload_n (pc := 42) X rfl dX3_countWires_42 ?_
  exact p_iret (pc := 43) X dX3_countWires_43

-- X3_gatherEnds
def L_X3_gatherEnds_4 (fu : Nat) (l1 : Int32) : Nat → Int32 → Int32 → Mem → (Int32 → Mem → Res) → Res
  | 0, _, _, _, _ => none
  | n + 1, l2, l3, x, K => (if (24 : Int32) ≤ l3 then (K l2 x) else (if (((l1 : Int32) >>> (l3 &&& 31)) &&& 1) = 0 then (L_X3_gatherEnds_4 fu l1 n l2 (l3 + 1) x K) else (if (5 : Int32) ≤ l2 then (L_X3_gatherEnds_4 fu l1 n l2 (l3 + 1) x K) else (chk l2 5 (letm (wr x 37 (l2 : Int32).toNatClampNeg l3) (fun x_1 => (L_X3_gatherEnds_4 fu l1 n (l2 + 1) (l3 + 1) x_1 K)))))))
set_option maxRecDepth 100000 in
set_option maxHeartbeats 4000000 in
theorem tL_X3_gatherEnds_4 {p : Program} {l : Launch} {e : Env} {s : State} {m : MethodId} {args : Array Value} {below : List Frame} {meth : Method} {c : Code} {D : va_G} {cy : ClassId} {ad : Nat → Nat} {A : Nat → Prop} {fu : Nat} (X : Cx p s m args meth c RX3 cX3_gatherEnds 4 (some .int) D cy ad shX A) {l1 : Int32} {K : Int32 → Mem → Res} (hK : ∀ (l2 : Int32) (x : Mem), Sim p l e ({ frames := 1, cells := 0, slots := 0, locals := 40 } : Room) s m args below meth c 4 (some .int) D cy ad shX A 39 [none, none, some (.int l2), none] [] x (K l2 x)) : ∀ (n : Nat) (l2 : Int32) (l3 : Int32) (x : Mem), Sim p l e ({ frames := 1, cells := 0, slots := 0, locals := 40 } : Room) s m args below meth c 4 (some .int) D cy ad shX A 4 [some (.ref (ad 9)), some (.int l1), some (.int l2), some (.int l3)] [] x (L_X3_gatherEnds_4 fu l1 n l2 l3 x K) := by
  intro n
  induction n with
  | zero =>
    intro l2 l3 x
    rw [L_X3_gatherEnds_4]
    exact s_none
  | succ n ih =>
    intro l2 l3 x
    rw [L_X3_gatherEnds_4]
    refine s_iload_n (pc := 4) X rfl dX3_gatherEnds_4 ?_
    refine s_bipush (pc := 5) X bp_24 dX3_gatherEnds_5 ?_
    refine s_icmp_ge (pc := 7) X 39 rfl dX3_gatherEnds_7 ?_ ?_
    · refine s_mask [false, false, true, false] ?_
      exact hK _ _
    · refine s_iload_n (pc := 10) X rfl dX3_gatherEnds_10 ?_
      refine s_iload_n (pc := 11) X rfl dX3_gatherEnds_11 ?_
      refine s_ishr (pc := 12) X dX3_gatherEnds_12 ?_
      refine s_iconst (pc := 13) X ic_1 dX3_gatherEnds_13 ?_
      refine s_iand (pc := 14) X dX3_gatherEnds_14 ?_
      refine s_if_eq (pc := 15) X 33 rfl dX3_gatherEnds_15 ?_ ?_
      · refine s_iinc (pc := 33) X [some (.ref (ad 9)), some (.int l1), some (.int l2), some (.int (l3 + 1))] rfl (by decide) rfl ic_1 dX3_gatherEnds_33 ?_
        refine s_goto (pc := 36) X 4 rfl dX3_gatherEnds_36 ?_
        exact ih _ _ _
      · refine s_iload_n (pc := 18) X rfl dX3_gatherEnds_18 ?_
        refine s_iconst (pc := 19) X ic_5 dX3_gatherEnds_19 ?_
        refine s_icmp_ge (pc := 20) X 33 rfl dX3_gatherEnds_20 ?_ ?_
        · refine s_iinc (pc := 33) X [some (.ref (ad 9)), some (.int l1), some (.int l2), some (.int (l3 + 1))] rfl (by decide) rfl ic_1 dX3_gatherEnds_33 ?_
          refine s_goto (pc := 36) X 4 rfl dX3_gatherEnds_36 ?_
          exact ih _ _ _
        · refine s_aload_n (pc := 23) X rfl dX3_gatherEnds_23 ?_
          refine s_getR (pc := 24) X shX_9 rfl fl_RX3_18 dX3_gatherEnds_24 ?_
          refine s_iload_n (pc := 27) X rfl dX3_gatherEnds_27 ?_
          refine s_iload_n (pc := 28) X rfl dX3_gatherEnds_28 ?_
          refine s_iast (pc := 29) X shX_37 dX3_gatherEnds_29 ?_
          refine s_letm (fun x_1 => ?_)
          refine s_iinc (pc := 30) X [some (.ref (ad 9)), some (.int l1), some (.int (l2 + 1)), some (.int l3)] rfl (by decide) rfl ic_1 dX3_gatherEnds_30 ?_
          refine s_iinc (pc := 33) X [some (.ref (ad 9)), some (.int l1), some (.int (l2 + 1)), some (.int (l3 + 1))] rfl (by decide) rfl ic_1 dX3_gatherEnds_33 ?_
          refine s_goto (pc := 36) X 4 rfl dX3_gatherEnds_36 ?_
          exact ih _ _ _

def F_X3_gatherEnds (fu : Nat) (l1 : Int32) (x : Mem) : Res :=
  (L_X3_gatherEnds_4 fu l1 fu 0 0 x (fun l2_2 x_3 => (some (l2_2, x_3))))
set_option maxRecDepth 100000 in
set_option maxHeartbeats 4000000 in
theorem c_X3_gatherEnds (l : Launch) (D : va_G) (cy : ClassId) (ad : Nat → Nat) (fu : Nat) (l1 : Int32) (x : Mem) : Ct l D cy ad shX yX3_gatherEnds cX3_gatherEnds 4 (some .int) 1 40 [.ref (ad 9), .int l1] x (F_X3_gatherEnds fu l1 x) := by
  refine ct_of [some (.ref (ad 9)), some (.int l1), none, none] (by decide) (Nat.le_of_ble_eq_true rfl) rfl rfl ?_
  intro p e s m args below meth c A X
  have X : Cx p s m args meth c RX3 cX3_gatherEnds 4 (some .int) D cy ad shX A := X
  unfold F_X3_gatherEnds
  refine s_iconst (pc := 0) X ic_0 dX3_gatherEnds_0 ?_
  refine s_istore_n (pc := 1) X [some (.ref (ad 9)), some (.int l1), some (.int 0), none] rfl (by decide) dX3_gatherEnds_1 ?_
  refine s_iconst (pc := 2) X ic_0 dX3_gatherEnds_2 ?_
  refine s_istore_n (pc := 3) X [some (.ref (ad 9)), some (.int l1), some (.int 0), some (.int 0)] rfl (by decide) dX3_gatherEnds_3 ?_
  refine tL_X3_gatherEnds_4 X (fun l2_2 x_3 => ?_) fu _ _ _
  refine s_iload_n (pc := 39) X rfl dX3_gatherEnds_39 ?_
  exact s_iret (pc := 40) X dX3_gatherEnds_40

-- X3_startTrees
def L_X3_startTrees_8 (fu : Nat) (l1 : Int32) (l2 : Int32) (l3 : Int32) : Nat → Int32 → Mem → (Mem → Res) → Res
  | 0, _, _, _ => none
  | n + 1, l4, x, K => (if (24 : Int32) ≤ l4 then (K x) else (chk (l3 + l4) 384 (letm (wr x 38 ((l3 + l4) : Int32).toNatClampNeg 1000) (fun x_2 => (L_X3_startTrees_8 fu l1 l2 l3 n (l4 + 1) x_2 K)))))
set_option maxRecDepth 100000 in
set_option maxHeartbeats 4000000 in
theorem tL_X3_startTrees_8 {p : Program} {l : Launch} {e : Env} {s : State} {m : MethodId} {args : Array Value} {below : List Frame} {meth : Method} {c : Code} {D : va_G} {cy : ClassId} {ad : Nat → Nat} {A : Nat → Prop} {fu : Nat} (X : Cx p s m args meth c RX3 cX3_startTrees 5 none D cy ad shX A) {l1 : Int32} {l2 : Int32} {l3 : Int32} {K : Mem → Res} (hK : ∀ (x : Mem), Sim p l e ({ frames := 1, cells := 0, slots := 0, locals := 40 } : Room) s m args below meth c 5 none D cy ad shX A 33 [some (.ref (ad 9)), some (.int l1), some (.int l2), some (.int l3), none] [] x (K x)) : ∀ (n : Nat) (l4 : Int32) (x : Mem), Sim p l e ({ frames := 1, cells := 0, slots := 0, locals := 40 } : Room) s m args below meth c 5 none D cy ad shX A 8 [some (.ref (ad 9)), some (.int l1), some (.int l2), some (.int l3), some (.int l4)] [] x (L_X3_startTrees_8 fu l1 l2 l3 n l4 x K) := by
  intro n
  induction n with
  | zero =>
    intro l4 x
    rw [L_X3_startTrees_8]
    exact s_none
  | succ n ih =>
    intro l4 x
    rw [L_X3_startTrees_8]
    refine s_iload (pc := 8) X rfl dX3_startTrees_8 ?_
    refine s_bipush (pc := 10) X bp_24 dX3_startTrees_10 ?_
    refine s_icmp_ge (pc := 12) X 33 rfl dX3_startTrees_12 ?_ ?_
    · refine s_mask [true, true, true, true, false] ?_
      exact hK _
    · refine s_aload_n (pc := 15) X rfl dX3_startTrees_15 ?_
      refine s_getR (pc := 16) X shX_9 rfl fl_RX3_21 dX3_startTrees_16 ?_
      refine s_iload_n (pc := 19) X rfl dX3_startTrees_19 ?_
      refine s_iload (pc := 20) X rfl dX3_startTrees_20 ?_
      refine s_iadd (pc := 22) X dX3_startTrees_22 ?_
      refine s_sipush (pc := 23) X sp_1000 dX3_startTrees_23 ?_
      refine s_iast (pc := 26) X shX_38 dX3_startTrees_26 ?_
      refine s_letm (fun x_2 => ?_)
      refine s_iinc (pc := 27) X [some (.ref (ad 9)), some (.int l1), some (.int l2), some (.int l3), some (.int (l4 + 1))] rfl (by decide) rfl ic_1 dX3_startTrees_27 ?_
      refine s_goto (pc := 30) X 8 rfl dX3_startTrees_30 ?_
      exact ih _ _

def L_X3_startTrees_36 (fu : Nat) (l1 : Int32) (l2 : Int32) (l3 : Int32) : Nat → Int32 → Mem → (Mem → Res) → Res
  | 0, _, _, _ => none
  | n + 1, l4, x, K => (if l2 ≤ l4 then (K x) else (if l1 = ((1 : Int32) <<< (l4 &&& 31)) then (chk l4 5 (chk (l3 + (x 37 (l4 : Int32).toNatClampNeg)) 384 (letm (wr x 38 ((l3 + (x 37 (l4 : Int32).toNatClampNeg)) : Int32).toNatClampNeg 0) (fun x_4 => (L_X3_startTrees_36 fu l1 l2 l3 n (l4 + 1) x_4 K))))) else (L_X3_startTrees_36 fu l1 l2 l3 n (l4 + 1) x K)))
set_option maxRecDepth 100000 in
set_option maxHeartbeats 4000000 in
theorem tL_X3_startTrees_36 {p : Program} {l : Launch} {e : Env} {s : State} {m : MethodId} {args : Array Value} {below : List Frame} {meth : Method} {c : Code} {D : va_G} {cy : ClassId} {ad : Nat → Nat} {A : Nat → Prop} {fu : Nat} (X : Cx p s m args meth c RX3 cX3_startTrees 5 none D cy ad shX A) {l1 : Int32} {l2 : Int32} {l3 : Int32} {K : Mem → Res} (hK : ∀ (x : Mem), Sim p l e ({ frames := 1, cells := 0, slots := 0, locals := 40 } : Room) s m args below meth c 5 none D cy ad shX A 71 [none, none, none, none, none] [] x (K x)) : ∀ (n : Nat) (l4 : Int32) (x : Mem), Sim p l e ({ frames := 1, cells := 0, slots := 0, locals := 40 } : Room) s m args below meth c 5 none D cy ad shX A 36 [some (.ref (ad 9)), some (.int l1), some (.int l2), some (.int l3), some (.int l4)] [] x (L_X3_startTrees_36 fu l1 l2 l3 n l4 x K) := by
  intro n
  induction n with
  | zero =>
    intro l4 x
    rw [L_X3_startTrees_36]
    exact s_none
  | succ n ih =>
    intro l4 x
    rw [L_X3_startTrees_36]
    refine s_iload (pc := 36) X rfl dX3_startTrees_36 ?_
    refine s_iload_n (pc := 38) X rfl dX3_startTrees_38 ?_
    refine s_icmp_ge (pc := 39) X 71 rfl dX3_startTrees_39 ?_ ?_
    · refine s_mask [false, false, false, false, false] ?_
      exact hK _
    · refine s_iload_n (pc := 42) X rfl dX3_startTrees_42 ?_
      refine s_iconst (pc := 43) X ic_1 dX3_startTrees_43 ?_
      refine s_iload (pc := 44) X rfl dX3_startTrees_44 ?_
      refine s_ishl (pc := 46) X dX3_startTrees_46 ?_
      refine s_icmp_ne (pc := 47) X 65 rfl dX3_startTrees_47 ?_ ?_
      · refine s_iinc (pc := 65) X [some (.ref (ad 9)), some (.int l1), some (.int l2), some (.int l3), some (.int (l4 + 1))] rfl (by decide) rfl ic_1 dX3_startTrees_65 ?_
        refine s_goto (pc := 68) X 36 rfl dX3_startTrees_68 ?_
        exact ih _ _
      · refine s_aload_n (pc := 50) X rfl dX3_startTrees_50 ?_
        refine s_getR (pc := 51) X shX_9 rfl fl_RX3_21 dX3_startTrees_51 ?_
        refine s_iload_n (pc := 54) X rfl dX3_startTrees_54 ?_
        refine s_aload_n (pc := 55) X rfl dX3_startTrees_55 ?_
        refine s_getR (pc := 56) X shX_9 rfl fl_RX3_18 dX3_startTrees_56 ?_
        refine s_iload (pc := 59) X rfl dX3_startTrees_59 ?_
        refine s_iald (pc := 61) X shX_37 dX3_startTrees_61 ?_
        refine s_iadd (pc := 62) X dX3_startTrees_62 ?_
        refine s_iconst (pc := 63) X ic_0 dX3_startTrees_63 ?_
        refine s_iast (pc := 64) X shX_38 dX3_startTrees_64 ?_
        refine s_letm (fun x_4 => ?_)
        refine s_iinc (pc := 65) X [some (.ref (ad 9)), some (.int l1), some (.int l2), some (.int l3), some (.int (l4 + 1))] rfl (by decide) rfl ic_1 dX3_startTrees_65 ?_
        refine s_goto (pc := 68) X 36 rfl dX3_startTrees_68 ?_
        exact ih _ _

def F_X3_startTrees (fu : Nat) (l1 : Int32) (l2 : Int32) (x : Mem) : Res :=
  (letv (l1 * 24) (fun l3_1 => (L_X3_startTrees_8 fu l1 l2 l3_1 fu 0 x (fun x_3 => (L_X3_startTrees_36 fu l1 l2 l3_1 fu 0 x_3 (fun x_5 => (some (0, x_5))))))))
set_option maxRecDepth 100000 in
set_option maxHeartbeats 4000000 in
theorem c_X3_startTrees (l : Launch) (D : va_G) (cy : ClassId) (ad : Nat → Nat) (fu : Nat) (l1 : Int32) (l2 : Int32) (x : Mem) : Ct l D cy ad shX yX3_startTrees cX3_startTrees 5 none 1 40 [.ref (ad 9), .int l1, .int l2] x (F_X3_startTrees fu l1 l2 x) := by
  refine ct_of [some (.ref (ad 9)), some (.int l1), some (.int l2), none, none] (by decide) (Nat.le_of_ble_eq_true rfl) rfl rfl ?_
  intro p e s m args below meth c A X
  have X : Cx p s m args meth c RX3 cX3_startTrees 5 none D cy ad shX A := X
  unfold F_X3_startTrees
  refine s_iload_n (pc := 0) X rfl dX3_startTrees_0 ?_
  refine s_bipush (pc := 1) X bp_24 dX3_startTrees_1 ?_
  refine s_imul (pc := 3) X dX3_startTrees_3 ?_
  refine s_letv (fun l3_1 => ?_)
  refine s_istore_n (pc := 4) X [some (.ref (ad 9)), some (.int l1), some (.int l2), some (.int l3_1), none] rfl (by decide) dX3_startTrees_4 ?_
  refine s_iconst (pc := 5) X ic_0 dX3_startTrees_5 ?_
  refine s_istore (pc := 6) X [some (.ref (ad 9)), some (.int l1), some (.int l2), some (.int l3_1), some (.int 0)] rfl (by decide) dX3_startTrees_6 ?_
  refine tL_X3_startTrees_8 X (fun x_3 => ?_) fu _ _
  refine s_iconst (pc := 33) X ic_0 dX3_startTrees_33 ?_
  refine s_istore (pc := 34) X [some (.ref (ad 9)), some (.int l1), some (.int l2), some (.int l3_1), some (.int 0)] rfl (by decide) dX3_startTrees_34 ?_
  refine tL_X3_startTrees_36 X (fun x_5 => ?_) fu _ _
  exact s_vret (pc := 71) X dX3_startTrees_71

-- X3_joinTwo
def L_X3_joinTwo_3 (fu : Nat) (l1 : Int32) (l2 : Int32) (l3 : Int32) : Nat → Int32 → Mem → (Mem → Res) → Res
  | 0, _, _, _ => none
  | n + 1, l4, x, K => (if (24 : Int32) ≤ l4 then (K x) else (chk (l2 + l4) 384 (chk (l3 + l4) 384 (letv ((x 38 ((l2 + l4) : Int32).toNatClampNeg) + (x 38 ((l3 + l4) : Int32).toNatClampNeg)) (fun l5_1 => (chk (l1 + l4) 384 (chk (l1 + l4) 384 (letm (wr x 38 ((l1 + l4) : Int32).toNatClampNeg (imin (x 38 ((l1 + l4) : Int32).toNatClampNeg) l5_1)) (fun x_2 => (L_X3_joinTwo_3 fu l1 l2 l3 n (l4 + 1) x_2 K))))))))))
set_option maxRecDepth 100000 in
set_option maxHeartbeats 4000000 in
theorem tL_X3_joinTwo_3 {p : Program} {l : Launch} {e : Env} {s : State} {m : MethodId} {args : Array Value} {below : List Frame} {meth : Method} {c : Code} {D : va_G} {cy : ClassId} {ad : Nat → Nat} {A : Nat → Prop} {fu : Nat} (X : Cx p s m args meth c RX3 cX3_joinTwo 6 none D cy ad shX A) {l1 : Int32} {l2 : Int32} {l3 : Int32} {K : Mem → Res} (hK : ∀ (x : Mem), Sim p l e ({ frames := 1, cells := 0, slots := 0, locals := 40 } : Room) s m args below meth c 6 none D cy ad shX A 60 [none, none, none, none, none, none] [] x (K x)) : ∀ (n : Nat) (l4 : Int32) (x : Mem), Sim p l e ({ frames := 1, cells := 0, slots := 0, locals := 40 } : Room) s m args below meth c 6 none D cy ad shX A 3 [some (.ref (ad 9)), some (.int l1), some (.int l2), some (.int l3), some (.int l4), none] [] x (L_X3_joinTwo_3 fu l1 l2 l3 n l4 x K) := by
  intro n
  induction n with
  | zero =>
    intro l4 x
    rw [L_X3_joinTwo_3]
    exact s_none
  | succ n ih =>
    intro l4 x
    rw [L_X3_joinTwo_3]
    refine s_iload (pc := 3) X rfl dX3_joinTwo_3 ?_
    refine s_bipush (pc := 5) X bp_24 dX3_joinTwo_5 ?_
    refine s_icmp_ge (pc := 7) X 60 rfl dX3_joinTwo_7 ?_ ?_
    · refine s_mask [false, false, false, false, false, false] ?_
      exact hK _
    · refine s_aload_n (pc := 10) X rfl dX3_joinTwo_10 ?_
      refine s_getR (pc := 11) X shX_9 rfl fl_RX3_21 dX3_joinTwo_11 ?_
      refine s_iload_n (pc := 14) X rfl dX3_joinTwo_14 ?_
      refine s_iload (pc := 15) X rfl dX3_joinTwo_15 ?_
      refine s_iadd (pc := 17) X dX3_joinTwo_17 ?_
      refine s_iald (pc := 18) X shX_38 dX3_joinTwo_18 ?_
      refine s_aload_n (pc := 19) X rfl dX3_joinTwo_19 ?_
      refine s_getR (pc := 20) X shX_9 rfl fl_RX3_21 dX3_joinTwo_20 ?_
      refine s_iload_n (pc := 23) X rfl dX3_joinTwo_23 ?_
      refine s_iload (pc := 24) X rfl dX3_joinTwo_24 ?_
      refine s_iadd (pc := 26) X dX3_joinTwo_26 ?_
      refine s_iald (pc := 27) X shX_38 dX3_joinTwo_27 ?_
      refine s_iadd (pc := 28) X dX3_joinTwo_28 ?_
      refine s_letv (fun l5_1 => ?_)
      refine s_istore (pc := 29) X [some (.ref (ad 9)), some (.int l1), some (.int l2), some (.int l3), some (.int l4), some (.int l5_1)] rfl (by decide) dX3_joinTwo_29 ?_
      refine s_aload_n (pc := 31) X rfl dX3_joinTwo_31 ?_
      refine s_getR (pc := 32) X shX_9 rfl fl_RX3_21 dX3_joinTwo_32 ?_
      refine s_iload_n (pc := 35) X rfl dX3_joinTwo_35 ?_
      refine s_iload (pc := 36) X rfl dX3_joinTwo_36 ?_
      refine s_iadd (pc := 38) X dX3_joinTwo_38 ?_
      refine s_aload_n (pc := 39) X rfl dX3_joinTwo_39 ?_
      refine s_getR (pc := 40) X shX_9 rfl fl_RX3_21 dX3_joinTwo_40 ?_
      refine s_iload_n (pc := 43) X rfl dX3_joinTwo_43 ?_
      refine s_iload (pc := 44) X rfl dX3_joinTwo_44 ?_
      refine s_iadd (pc := 46) X dX3_joinTwo_46 ?_
      refine s_iald (pc := 47) X shX_38 dX3_joinTwo_47 ?_
      refine s_iload (pc := 48) X rfl dX3_joinTwo_48 ?_
      refine s_mmin (pc := 50) X ml_RX3_24 mm_min_s mm_ini mm_min_c (by decide) (Nat.le_of_ble_eq_true rfl) dX3_joinTwo_50 ?_
      refine s_iast (pc := 53) X shX_38 dX3_joinTwo_53 ?_
      refine s_letm (fun x_2 => ?_)
      refine s_iinc (pc := 54) X [some (.ref (ad 9)), some (.int l1), some (.int l2), some (.int l3), some (.int (l4 + 1)), some (.int l5_1)] rfl (by decide) rfl ic_1 dX3_joinTwo_54 ?_
      refine s_goto (pc := 57) X 3 rfl dX3_joinTwo_57 ?_
      refine s_mask [true, true, true, true, true, false] ?_
      exact ih _ _

def F_X3_joinTwo (fu : Nat) (l1 : Int32) (l2 : Int32) (l3 : Int32) (x : Mem) : Res :=
  (L_X3_joinTwo_3 fu l1 l2 l3 fu 0 x (fun x_3 => (some (0, x_3))))
set_option maxRecDepth 100000 in
set_option maxHeartbeats 4000000 in
theorem c_X3_joinTwo (l : Launch) (D : va_G) (cy : ClassId) (ad : Nat → Nat) (fu : Nat) (l1 : Int32) (l2 : Int32) (l3 : Int32) (x : Mem) : Ct l D cy ad shX yX3_joinTwo cX3_joinTwo 6 none 1 40 [.ref (ad 9), .int l1, .int l2, .int l3] x (F_X3_joinTwo fu l1 l2 l3 x) := by
  refine ct_of [some (.ref (ad 9)), some (.int l1), some (.int l2), some (.int l3), none, none] (by decide) (Nat.le_of_ble_eq_true rfl) rfl rfl ?_
  intro p e s m args below meth c A X
  have X : Cx p s m args meth c RX3 cX3_joinTwo 6 none D cy ad shX A := X
  unfold F_X3_joinTwo
  refine s_iconst (pc := 0) X ic_0 dX3_joinTwo_0 ?_
  refine s_istore (pc := 1) X [some (.ref (ad 9)), some (.int l1), some (.int l2), some (.int l3), some (.int 0), none] rfl (by decide) dX3_joinTwo_1 ?_
  refine tL_X3_joinTwo_3 X (fun x_3 => ?_) fu _ _
  exact s_vret (pc := 60) X dX3_joinTwo_60
