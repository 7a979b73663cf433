-- X8_setCrank
def F_X8_setCrank (fu : Nat) (l1 : Int32) (l2 : Int32) (x : Mem) : Res :=
  (chk l1 16 (letv (x 17 (l1 : Int32).toNatClampNeg) (fun l3_1 => (chk l1 16 (letm (wr x 17 (l1 : Int32).toNatClampNeg l2) (fun x_2 => (letv ((1 : Int32) <<< (l1 &&& 31)) (fun l4_3 => (if l2 = 10 then (letm (wr x_2 3 4 ((x_2 3 4) ||| l4_3)) (fun x_5 => (some (l3_1, x_5)))) else (letm (wr x_2 3 4 ((x_2 3 4) &&& (l4_3 ^^^ (-1)))) (fun x_4 => (some (l3_1, x_4)))))))))))))
set_option maxRecDepth 100000 in
set_option maxHeartbeats 4000000 in
theorem c_X8_setCrank (l : Launch) (D : va_G) (cy : ClassId) (ad : Nat → Nat) (fu : Nat) (l1 : Int32) (l2 : Int32) (x : Mem) : Ct l D cy ad shX yX8_setCrank cX8_setCrank 5 (some .int) 1 40 [.ref (ad 3), .int l1, .int l2] x (F_X8_setCrank fu l1 l2 x) := by
  refine ct_of [some (.ref (ad 3)), some (.int l1), some (.int l2), none, none] (by decide) (Nat.le_of_ble_eq_true rfl) rfl rfl ?_
  intro p e s m args below meth c A X
  have X : Cx p s m args meth c RX8 cX8_setCrank 5 (some .int) D cy ad shX A := X
  unfold F_X8_setCrank
  refine s_aload_n (pc := 0) X rfl dX8_setCrank_0 ?_
  refine s_getR (pc := 1) X shX_3 rfl fl_RX8_9 dX8_setCrank_1 ?_
  refine s_iload_n (pc := 4) X rfl dX8_setCrank_4 ?_
  refine s_iald (pc := 5) X shX_17 dX8_setCrank_5 ?_
  refine s_letv (fun l3_1 => ?_)
  refine s_istore_n (pc := 6) X [some (.ref (ad 3)), some (.int l1), some (.int l2), some (.int l3_1), none] rfl (by decide) dX8_setCrank_6 ?_
  refine s_aload_n (pc := 7) X rfl dX8_setCrank_7 ?_
  refine s_getR (pc := 8) X shX_3 rfl fl_RX8_9 dX8_setCrank_8 ?_
  refine s_iload_n (pc := 11) X rfl dX8_setCrank_11 ?_
  refine s_iload_n (pc := 12) X rfl dX8_setCrank_12 ?_
  refine s_iast (pc := 13) X shX_17 dX8_setCrank_13 ?_
  refine s_letm (fun x_2 => ?_)
  refine s_iconst (pc := 14) X ic_1 dX8_setCrank_14 ?_
  refine s_iload_n (pc := 15) X rfl dX8_setCrank_15 ?_
  refine s_ishl (pc := 16) X dX8_setCrank_16 ?_
  refine s_letv (fun l4_3 => ?_)
  refine s_istore (pc := 17) X [some (.ref (ad 3)), some (.int l1), some (.int l2), some (.int l3_1), some (.int l4_3)] rfl (by decide) dX8_setCrank_17 ?_
  refine s_aload_n (pc := 19) X rfl dX8_setCrank_19 ?_
  refine s_iload_n (pc := 20) X rfl dX8_setCrank_20 ?_
  refine s_bipush (pc := 21) X bp_10 dX8_setCrank_21 ?_
  refine s_icmp_ne (pc := 23) X 36 rfl dX8_setCrank_23 ?_ ?_
  · refine s_aload_n (pc := 36) X rfl dX8_setCrank_36 ?_
    refine s_getI (pc := 37) X shX_3 rfl fl_RX8_26 dX8_setCrank_37 ?_
    refine s_iload (pc := 40) X rfl dX8_setCrank_40 ?_
    refine s_iconst (pc := 42) X ic_m1 dX8_setCrank_42 ?_
    refine s_ixor (pc := 43) X dX8_setCrank_43 ?_
    refine s_iand (pc := 44) X dX8_setCrank_44 ?_
    refine s_put (pc := 45) X shX_3 rfl fp_RX8_26 dX8_setCrank_45 ?_
    refine s_letm (fun x_4 => ?_)
    refine s_iload_n (pc := 48) X rfl dX8_setCrank_48 ?_
    exact s_iret (pc := 49) X dX8_setCrank_49
  · refine s_aload_n (pc := 26) X rfl dX8_setCrank_26 ?_
    refine s_getI (pc := 27) X shX_3 rfl fl_RX8_26 dX8_setCrank_27 ?_
    refine s_iload (pc := 30) X rfl dX8_setCrank_30 ?_
    refine s_ior (pc := 32) X dX8_setCrank_32 ?_
    refine s_goto (pc := 33) X 45 rfl dX8_setCrank_33 ?_
    refine s_put (pc := 45) X shX_3 rfl fp_RX8_26 dX8_setCrank_45 ?_
    refine s_letm (fun x_5 => ?_)
    refine s_iload_n (pc := 48) X rfl dX8_setCrank_48 ?_
    exact s_iret (pc := 49) X dX8_setCrank_49

-- X8_areCrossed
def F_X8_areCrossed (fu : Nat) (l1 : Int32) (l2 : Int32) (x : Mem) : Option Int32 :=
  (chk l1 16 (if (((x 18 (l1 : Int32).toNatClampNeg) >>> (l2 &&& 31)) &&& 1) = 0 then (retzp 0) else (retzp 1)))
set_option maxRecDepth 100000 in
set_option maxHeartbeats 4000000 in
theorem c_X8_areCrossed (l : Launch) (D : va_G) (cy : ClassId) (ad : Nat → Nat) (fu : Nat) (l1 : Int32) (l2 : Int32) (x : Mem) : Ct l D cy ad shX yX8_areCrossed cX8_areCrossed 3 (some .boolean) 1 40 [.ref (ad 3), .int l1, .int l2] x (pr (F_X8_areCrossed fu l1 l2 x) x) := by
  refine ct_of [some (.ref (ad 3)), some (.int l1), some (.int l2)] (by decide) (Nat.le_of_ble_eq_true rfl) rfl rfl ?_
  intro p e s m args below meth c A X
  have X : Cx p s m args meth c RX8 cX8_areCrossed 3 (some .boolean) D cy ad shX A := X
  unfold F_X8_areCrossed
  refine s_aload_n (pc := 0) X rfl dX8_areCrossed_0 ?_
  refine s_getR (pc := 1) X shX_3 rfl fl_RX8_15 dX8_areCrossed_1 ?_
  refine s_iload_n (pc := 4) X rfl dX8_areCrossed_4 ?_
  refine p_iald (pc := 5) X shX_18 dX8_areCrossed_5 ?_
  refine s_iload_n (pc := 6) X rfl dX8_areCrossed_6 ?_
  refine s_ishr (pc := 7) X dX8_areCrossed_7 ?_
  refine s_iconst (pc := 8) X ic_1 dX8_areCrossed_8 ?_
  refine s_iand (pc := 9) X dX8_areCrossed_9 ?_
  refine p_if_eq (pc := 10) X 17 rfl dX8_areCrossed_10 ?_ ?_
  · refine s_iconst (pc := 17) X ic_0 dX8_areCrossed_17 ?_
    exact p_zret (pc := 18) X dX8_areCrossed_18
  · refine s_iconst (pc := 13) X ic_1 dX8_areCrossed_13 ?_
    refine s_goto (pc := 14) X 18 rfl dX8_areCrossed_14 ?_
    exact p_zret (pc := 18) X dX8_areCrossed_18

-- X8_addPair
def F_X8_addPair (fu : Nat) (l1 : Int32) (l2 : Int32) (x : Mem) : Res :=
  (chk l1 16 (chk l1 16 (letm (wr x 18 (l1 : Int32).toNatClampNeg ((x 18 (l1 : Int32).toNatClampNeg) ||| ((1 : Int32) <<< (l2 &&& 31)))) (fun x_1 => (chk l2 16 (chk l2 16 (letm (wr x_1 18 (l2 : Int32).toNatClampNeg ((x_1 18 (l2 : Int32).toNatClampNeg) ||| ((1 : Int32) <<< (l1 &&& 31)))) (fun x_2 => (letm (wr x_2 3 5 ((x_2 3 5) + 1)) (fun x_3 => (some ((x_3 3 5), x_3))))))))))))
set_option maxRecDepth 100000 in
set_option maxHeartbeats 4000000 in
theorem c_X8_addPair (l : Launch) (D : va_G) (cy : ClassId) (ad : Nat → Nat) (fu : Nat) (l1 : Int32) (l2 : Int32) (x : Mem) : Ct l D cy ad shX yX8_addPair cX8_addPair 3 (some .int) 1 40 [.ref (ad 3), .int l1, .int l2] x (F_X8_addPair fu l1 l2 x) := by
  refine ct_of [some (.ref (ad 3)), some (.int l1), some (.int l2)] (by decide) (Nat.le_of_ble_eq_true rfl) rfl rfl ?_
  intro p e s m args below meth c A X
  have X : Cx p s m args meth c RX8 cX8_addPair 3 (some .int) D cy ad shX A := X
  unfold F_X8_addPair
  refine s_aload_n (pc := 0) X rfl dX8_addPair_0 ?_
  refine s_getR (pc := 1) X shX_3 rfl fl_RX8_15 dX8_addPair_1 ?_
  refine s_iload_n (pc := 4) X rfl dX8_addPair_4 ?_
  refine s_dup2 (pc := 5) X rfl rfl dX8_addPair_5 ?_
  refine s_iald (pc := 6) X shX_18 dX8_addPair_6 ?_
  refine s_iconst (pc := 7) X ic_1 dX8_addPair_7 ?_
  refine s_iload_n (pc := 8) X rfl dX8_addPair_8 ?_
  refine s_ishl (pc := 9) X dX8_addPair_9 ?_
  refine s_ior (pc := 10) X dX8_addPair_10 ?_
  refine s_iast (pc := 11) X shX_18 dX8_addPair_11 ?_
  refine s_letm (fun x_1 => ?_)
  refine s_aload_n (pc := 12) X rfl dX8_addPair_12 ?_
  refine s_getR (pc := 13) X shX_3 rfl fl_RX8_15 dX8_addPair_13 ?_
  refine s_iload_n (pc := 16) X rfl dX8_addPair_16 ?_
  refine s_dup2 (pc := 17) X rfl rfl dX8_addPair_17 ?_
  refine s_iald (pc := 18) X shX_18 dX8_addPair_18 ?_
  refine s_iconst (pc := 19) X ic_1 dX8_addPair_19 ?_
  refine s_iload_n (pc := 20) X rfl dX8_addPair_20 ?_
  refine s_ishl (pc := 21) X dX8_addPair_21 ?_
  refine s_ior (pc := 22) X dX8_addPair_22 ?_
  refine s_iast (pc := 23) X shX_18 dX8_addPair_23 ?_
  refine s_letm (fun x_2 => ?_)
  refine s_aload_n (pc := 24) X rfl dX8_addPair_24 ?_
  refine s_dup (pc := 25) X rfl dX8_addPair_25 ?_
  refine s_getI (pc := 26) X shX_3 rfl fl_RX8_30 dX8_addPair_26 ?_
  refine s_iconst (pc := 29) X ic_1 dX8_addPair_29 ?_
  refine s_iadd (pc := 30) X dX8_addPair_30 ?_
  refine s_put (pc := 31) X shX_3 rfl fp_RX8_30 dX8_addPair_31 ?_
  refine s_letm (fun x_3 => ?_)
  refine s_aload_n (pc := 34) X rfl dX8_addPair_34 ?_
  refine s_getI (pc := 35) X shX_3 rfl fl_RX8_30 dX8_addPair_35 ?_
  exact s_iret (pc := 38) X dX8_addPair_38

-- X8_dropPairs
def L_X8_dropPairs_7 (fu : Nat) (l1 : Int32) : Nat → Int32 → Mem → (Mem → Res) → Res
  | 0, _, _, _ => none
  | n + 1, l2, x, K => (if (16 : Int32) ≤ l2 then (K x) else (chk l2 16 (letm (wr x 18 (l2 : Int32).toNatClampNeg 0) (fun x_2 => (L_X8_dropPairs_7 fu l1 n (l2 + 1) x_2 K)))))
set_option maxRecDepth 100000 in
set_option maxHeartbeats 4000000 in
theorem tL_X8_dropPairs_7 {p : Program} {l : Launch} {e : Env} {s : State} {m : MethodId} {args : Array Value} {below : List Frame} {meth : Method} {c : Code} {D : va_G} {cy : ClassId} {ad : Nat → Nat} {A : Nat → Prop} {fu : Nat} (X : Cx p s m args meth c RX8 cX8_dropPairs 3 (some .int) D cy ad shX A) {l1 : Int32} {K : Mem → Res} (hK : ∀ (x : Mem), Sim p l e ({ frames := 1, cells := 0, slots := 0, locals := 40 } : Room) s m args below meth c 3 (some .int) D cy ad shX A 26 [some (.ref (ad 3)), some (.int l1), none] [] x (K x)) : ∀ (n : Nat) (l2 : Int32) (x : Mem), Sim p l e ({ frames := 1, cells := 0, slots := 0, locals := 40 } : Room) s m args below meth c 3 (some .int) D cy ad shX A 7 [some (.ref (ad 3)), some (.int l1), some (.int l2)] [] x (L_X8_dropPairs_7 fu l1 n l2 x K) := by
  intro n
  induction n with
  | zero =>
    intro l2 x
    rw [L_X8_dropPairs_7]
    exact s_none
  | succ n ih =>
    intro l2 x
    rw [L_X8_dropPairs_7]
    refine s_iload_n (pc := 7) X rfl dX8_dropPairs_7 ?_
    refine s_bipush (pc := 8) X bp_16 dX8_dropPairs_8 ?_
    refine s_icmp_ge (pc := 10) X 26 rfl dX8_dropPairs_10 ?_ ?_
    · refine s_mask [true, true, false] ?_
      exact hK _
    · refine s_aload_n (pc := 13) X rfl dX8_dropPairs_13 ?_
      refine s_getR (pc := 14) X shX_3 rfl fl_RX8_15 dX8_dropPairs_14 ?_
      refine s_iload_n (pc := 17) X rfl dX8_dropPairs_17 ?_
      refine s_iconst (pc := 18) X ic_0 dX8_dropPairs_18 ?_
      refine s_iast (pc := 19) X shX_18 dX8_dropPairs_19 ?_
      refine s_letm (fun x_2 => ?_)
      refine s_iinc (pc := 20) X [some (.ref (ad 3)), some (.int l1), some (.int (l2 + 1))] rfl (by decide) rfl ic_1 dX8_dropPairs_20 ?_
      refine s_goto (pc := 23) X 7 rfl dX8_dropPairs_23 ?_
      exact ih _ _

def F_X8_dropPairs (fu : Nat) (x : Mem) : Res :=
  (letv (x 3 5) (fun l1_1 => (L_X8_dropPairs_7 fu l1_1 fu 0 x (fun x_3 => (letm (wr x_3 3 5 0) (fun x_4 => (some (l1_1, x_4))))))))
set_option maxRecDepth 100000 in
set_option maxHeartbeats 4000000 in
theorem c_X8_dropPairs (l : Launch) (D : va_G) (cy : ClassId) (ad : Nat → Nat) (fu : Nat) (x : Mem) : Ct l D cy ad shX yX8_dropPairs cX8_dropPairs 3 (some .int) 1 40 [.ref (ad 3)] x (F_X8_dropPairs fu x) := by
  refine ct_of [some (.ref (ad 3)), none, none] (by decide) (Nat.le_of_ble_eq_true rfl) rfl rfl ?_
  intro p e s m args below meth c A X
  have X : Cx p s m args meth c RX8 cX8_dropPairs 3 (some .int) D cy ad shX A := X
  unfold F_X8_dropPairs
  refine s_aload_n (pc := 0) X rfl dX8_dropPairs_0 ?_
  refine s_getI (pc := 1) X shX_3 rfl fl_RX8_30 dX8_dropPairs_1 ?_
  refine s_letv (fun l1_1 => ?_)
  refine s_istore_n (pc := 4) X [some (.ref (ad 3)), some (.int l1_1), none] rfl (by decide) dX8_dropPairs_4 ?_
  refine s_iconst (pc := 5) X ic_0 dX8_dropPairs_5 ?_
  refine s_istore_n (pc := 6) X [some (.ref (ad 3)), some (.int l1_1), some (.int 0)] rfl (by decide) dX8_dropPairs_6 ?_
  refine tL_X8_dropPairs_7 X (fun x_3 => ?_) fu _ _
  refine s_aload_n (pc := 26) X rfl dX8_dropPairs_26 ?_
  refine s_iconst (pc := 27) X ic_0 dX8_dropPairs_27 ?_
  refine s_put (pc := 28) X shX_3 rfl fp_RX8_30 dX8_dropPairs_28 ?_
  refine s_letm (fun x_4 => ?_)
  refine s_iload_n (pc := 31) X rfl dX8_dropPairs_31 ?_
  exact s_iret (pc := 32) X dX8_dropPairs_32

-- X8_hasDead
def F_X8_hasDead (fu : Nat) (l1 : Int32) (x : Mem) : Option Int32 :=
  (chk l1 12 (if ((x 14 (l1 : Int32).toNatClampNeg) &&& (x 3 4)) = 0 then (retzp 0) else (retzp 1)))
set_option maxRecDepth 100000 in
set_option maxHeartbeats 4000000 in
theorem c_X8_hasDead (l : Launch) (D : va_G) (cy : ClassId) (ad : Nat → Nat) (fu : Nat) (l1 : Int32) (x : Mem) : Ct l D cy ad shX yX8_hasDead cX8_hasDead 2 (some .boolean) 1 40 [.ref (ad 3), .int l1] x (pr (F_X8_hasDead fu l1 x) x) := by
  refine ct_of [some (.ref (ad 3)), some (.int l1)] (by decide) (Nat.le_of_ble_eq_true rfl) rfl rfl ?_
  intro p e s m args below meth c A X
  have X : Cx p s m args meth c RX8 cX8_hasDead 2 (some .boolean) D cy ad shX A := X
  unfold F_X8_hasDead
  refine s_aload_n (pc := 0) X rfl dX8_hasDead_0 ?_
  refine s_getR (pc := 1) X shX_3 rfl fl_RX8_18 dX8_hasDead_1 ?_
  refine s_getR (pc := 4) X shX_1 rfl fl_RX8_46 dX8_hasDead_4 ?_
  refine s_iload_n (pc := 7) X rfl dX8_hasDead_7 ?_
  refine p_iald (pc := 8) X shX_14 dX8_hasDead_8 ?_
  refine s_aload_n (pc := 9) X rfl dX8_hasDead_9 ?_
  refine s_getI (pc := 10) X shX_3 rfl fl_RX8_26 dX8_hasDead_10 ?_
  refine s_iand (pc := 13) X dX8_hasDead_13 ?_
  refine p_if_eq (pc := 14) X 21 rfl dX8_hasDead_14 ?_ ?_
  · refine s_iconst (pc := 21) X ic_0 dX8_hasDead_21 ?_
    exact p_zret (pc := 22) X dX8_hasDead_22
  · refine s_iconst (pc := 17) X ic_1 dX8_hasDead_17 ?_
    refine s_goto (pc := 18) X 22 rfl dX8_hasDead_18 ?_
    exact p_zret (pc := 22) X dX8_hasDead_22

-- X8_forceOf
def L_X8_forceOf_36 (fu : Nat) (l3 : Int32) (x : Mem) : Nat → Int32 → Int32 → (Int32 → Option Int32) → Option Int32
  | 0, _, _, _ => none
  | n + 1, l2, l4, K => (if (16 : Int32) ≤ l4 then (K l2) else (if (((l3 : Int32) >>> (l4 &&& 31)) &&& 1) = 0 then (L_X8_forceOf_36 fu l3 x n l2 (l4 + 1) K) else (chk l4 16 (letv (l2 - (x 17 (l4 : Int32).toNatClampNeg)) (fun l2_4 => (L_X8_forceOf_36 fu l3 x n l2_4 (l4 + 1) K))))))
set_option maxRecDepth 100000 in
set_option maxHeartbeats 4000000 in
theorem tL_X8_forceOf_36 {p : Program} {l : Launch} {e : Env} {s : State} {m : MethodId} {args : Array Value} {below : List Frame} {meth : Method} {c : Code} {D : va_G} {cy : ClassId} {ad : Nat → Nat} {A : Nat → Prop} {fu : Nat} (X : Cx p s m args meth c RX8 cX8_forceOf 5 (some .int) D cy ad shX A) {l3 : Int32} {x : Mem} {K : Int32 → Option Int32} (hK : ∀ (l2 : Int32), Sim p l e ({ frames := 3, cells := 0, slots := 0, locals := 120 } : Room) s m args below meth c 5 (some .int) D cy ad shX A 68 [none, none, some (.int l2), none, none] [] x (pr (K l2) x)) : ∀ (n : Nat) (l2 : Int32) (l4 : Int32), Sim p l e ({ frames := 3, cells := 0, slots := 0, locals := 120 } : Room) s m args below meth c 5 (some .int) D cy ad shX A 36 [some (.ref (ad 3)), none, some (.int l2), some (.int l3), some (.int l4)] [] x (pr (L_X8_forceOf_36 fu l3 x n l2 l4 K) x) := by
  intro n
  induction n with
  | zero =>
    intro l2 l4
    rw [L_X8_forceOf_36]
    exact p_none
  | succ n ih =>
    intro l2 l4
    rw [L_X8_forceOf_36]
    refine s_iload (pc := 36) X rfl dX8_forceOf_36 ?_
    refine s_bipush (pc := 38) X bp_16 dX8_forceOf_38 ?_
    refine p_icmp_ge (pc := 40) X 68 rfl dX8_forceOf_40 ?_ ?_
    · refine s_mask [false, false, true, false, false] ?_
      exact hK _
    · refine s_iload_n (pc := 43) X rfl dX8_forceOf_43 ?_
      refine s_iload (pc := 44) X rfl dX8_forceOf_44 ?_
      refine s_ishr (pc := 46) X dX8_forceOf_46 ?_
      refine s_iconst (pc := 47) X ic_1 dX8_forceOf_47 ?_
      refine s_iand (pc := 48) X dX8_forceOf_48 ?_
      refine p_if_eq (pc := 49) X 62 rfl dX8_forceOf_49 ?_ ?_
      · refine s_iinc (pc := 62) X [some (.ref (ad 3)), none, some (.int l2), some (.int l3), some (.int (l4 + 1))] rfl (by decide) rfl ic_1 dX8_forceOf_62 ?_
        refine s_goto (pc := 65) X 36 rfl dX8_forceOf_65 ?_
        exact ih _ _
      · refine s_iload_n (pc := 52) X rfl dX8_forceOf_52 ?_
        refine s_aload_n (pc := 53) X rfl dX8_forceOf_53 ?_
        refine s_getR (pc := 54) X shX_3 rfl fl_RX8_9 dX8_forceOf_54 ?_
        refine s_iload (pc := 57) X rfl dX8_forceOf_57 ?_
        refine p_iald (pc := 59) X shX_17 dX8_forceOf_59 ?_
        refine s_isub (pc := 60) X dX8_forceOf_60 ?_
        refine p_letv (fun l2_4 => ?_)
        refine s_istore_n (pc := 61) X [some (.ref (ad 3)), none, some (.int l2_4), some (.int l3), some (.int l4)] rfl (by decide) dX8_forceOf_61 ?_
        refine s_iinc (pc := 62) X [some (.ref (ad 3)), none, some (.int l2_4), some (.int l3), some (.int (l4 + 1))] rfl (by decide) rfl ic_1 dX8_forceOf_62 ?_
        refine s_goto (pc := 65) X 36 rfl dX8_forceOf_65 ?_
        exact ih _ _

def F_X8_forceOf (fu : Nat) (l1 : Int32) (x : Mem) : Option Int32 :=
  (clp (F_X8_hasDead fu l1 x) (fun r_1 => (if r_1 = 0 then (clp (F_X4_forceInHeat fu l1 (x 3 6) x) (fun r_2 => (chk l1 12 (letv (x 14 (l1 : Int32).toNatClampNeg) (fun l3_3 => (L_X8_forceOf_36 fu l3_3 x fu r_2 0 (fun l2_5 => (some (imax l2_5 0))))))))) else (some 0))))
set_option maxRecDepth 100000 in
set_option maxHeartbeats 4000000 in
theorem c_X8_forceOf (l : Launch) (D : va_G) (cy : ClassId) (ad : Nat → Nat) (fu : Nat) (l1 : Int32) (x : Mem) : Ct l D cy ad shX yX8_forceOf cX8_forceOf 5 (some .int) 3 120 [.ref (ad 3), .int l1] x (pr (F_X8_forceOf fu l1 x) x) := by
  refine ct_of [some (.ref (ad 3)), some (.int l1), none, none, none] (by decide) (Nat.le_of_ble_eq_true rfl) rfl rfl ?_
  intro p e s m args below meth c A X
  have X : Cx p s m args meth c RX8 cX8_forceOf 5 (some .int) D cy ad shX A := X
  unfold F_X8_forceOf
  refine s_aload_n (pc := 0) X rfl dX8_forceOf_0 ?_
  refine s_iload_n (pc := 1) X rfl dX8_forceOf_1 ?_
  refine p_callV (pc := 2) (As := [.int l1]) (st := []) X lk_RX8_33 (c_X8_hasDead l D cy ad fu _ _) shX_3 rfl rfl rfl rfl ⟨by decide, by decide⟩ (Nat.le_of_ble_eq_true rfl) dX8_forceOf_2 (fun r_1 => ?_)
  refine p_if_eq (pc := 5) X 10 rfl dX8_forceOf_5 ?_ ?_
  · refine s_aload_n (pc := 10) X rfl dX8_forceOf_10 ?_
    refine s_getR (pc := 11) X shX_3 rfl fl_RX8_18 dX8_forceOf_11 ?_
    refine s_iload_n (pc := 14) X rfl dX8_forceOf_14 ?_
    refine s_aload_n (pc := 15) X rfl dX8_forceOf_15 ?_
    refine s_getI (pc := 16) X shX_3 rfl fl_RX8_37 dX8_forceOf_16 ?_
    refine p_callV (pc := 19) (As := [.int l1, .int (x 3 6)]) (st := []) X lk_RX8_40 (c_X4_forceInHeat l D cy ad fu _ _ _) shX_1 rfl rfl rfl rfl ⟨by decide, by decide⟩ (Nat.le_of_ble_eq_true rfl) dX8_forceOf_19 (fun r_2 => ?_)
    refine s_istore_n (pc := 22) X [some (.ref (ad 3)), some (.int l1), some (.int r_2), none, none] rfl (by decide) dX8_forceOf_22 ?_
    refine s_aload_n (pc := 23) X rfl dX8_forceOf_23 ?_
    refine s_getR (pc := 24) X shX_3 rfl fl_RX8_18 dX8_forceOf_24 ?_
    refine s_getR (pc := 27) X shX_1 rfl fl_RX8_46 dX8_forceOf_27 ?_
    refine s_iload_n (pc := 30) X rfl dX8_forceOf_30 ?_
    refine p_iald (pc := 31) X shX_14 dX8_forceOf_31 ?_
    refine p_letv (fun l3_3 => ?_)
    refine s_istore_n (pc := 32) X [some (.ref (ad 3)), some (.int l1), some (.int r_2), some (.int l3_3), none] rfl (by decide) dX8_forceOf_32 ?_
    refine s_iconst (pc := 33) X ic_0 dX8_forceOf_33 ?_
    refine s_istore (pc := 34) X [some (.ref (ad 3)), some (.int l1), some (.int r_2), some (.int l3_3), some (.int 0)] rfl (by decide) dX8_forceOf_34 ?_
    refine s_mask [true, false, true, true, true] ?_
    refine tL_X8_forceOf_36 X (fun l2_5 => ?_) fu _ _
    refine s_iload_n (pc := 68) X rfl dX8_forceOf_68 ?_
    refine s_iconst (pc := 69) X ic_0 dX8_forceOf_69 ?_
    refine s_mmax (pc := 70) X ml_RX8_49 mm_max_s mm_ini mm_max_c (by decide) (Nat.le_of_ble_eq_true rfl) dX8_forceOf_70 ?_
    exact p_iret (pc := 73) X dX8_forceOf_73
  · refine s_iconst (pc := 8) X ic_0 dX8_forceOf_8 ?_
    exact p_iret (pc := 9) X dX8_forceOf_9

-- X8_soundingBell
def F_X8_soundingBell (fu : Nat) (l1 : Int32) (x : Mem) : Option Int32 :=
  (chk l1 12 (some (((1 : Int32) <<< ((x 13 (l1 : Int32).toNatClampNeg) &&& 31)) &&& ((x 2 2) ^^^ (-1)))))
set_option maxRecDepth 100000 in
set_option maxHeartbeats 4000000 in
theorem c_X8_soundingBell (l : Launch) (D : va_G) (cy : ClassId) (ad : Nat → Nat) (fu : Nat) (l1 : Int32) (x : Mem) : Ct l D cy ad shX yX8_soundingBell cX8_soundingBell 2 (some .int) 1 40 [.ref (ad 3), .int l1] x (pr (F_X8_soundingBell fu l1 x) x) := by
  refine ct_of [some (.ref (ad 3)), some (.int l1)] (by decide) (Nat.le_of_ble_eq_true rfl) rfl rfl ?_
  intro p e s m args below meth c A X
  have X : Cx p s m args meth c RX8 cX8_soundingBell 2 (some .int) D cy ad shX A := X
  unfold F_X8_soundingBell
  refine s_iconst (pc := 0) X ic_1 dX8_soundingBell_0 ?_
  refine s_aload_n (pc := 1) X rfl dX8_soundingBell_1 ?_
  refine s_getR (pc := 2) X shX_3 rfl fl_RX8_18 dX8_soundingBell_2 ?_
  refine s_getR (pc := 5) X shX_1 rfl fl_RX8_73 dX8_soundingBell_5 ?_
  refine s_iload_n (pc := 8) X rfl dX8_soundingBell_8 ?_
  refine p_iald (pc := 9) X shX_13 dX8_soundingBell_9 ?_
  refine s_ishl (pc := 10) X dX8_soundingBell_10 ?_
  refine s_aload_n (pc := 11) X rfl dX8_soundingBell_11 ?_
  refine s_getR (pc := 12) X shX_3 rfl fl_RX8_22 dX8_soundingBell_12 ?_
  refine s_getI (pc := 15) X shX_2 rfl fl_RX8_76 dX8_soundingBell_15 ?_
  refine s_iconst (pc := 18) X ic_m1 dX8_soundingBell_18 ?_
  refine s_ixor (pc := 19) X dX8_soundingBell_19 ?_
  refine s_iand (pc := 20) X dX8_soundingBell_20 ?_
  exact p_iret (pc := 21) X dX8_soundingBell_21

-- X8_loudBells
def F_X8_loudBells (fu : Nat) (l1 : Int32) (x : Mem) : Option Int32 :=
  (clp (F_X8_forceOf fu l1 x) (fun r_1 => (if r_1 < 6 then (some 0) else (clp (F_X8_soundingBell fu l1 x) (fun r_2 => (some r_2))))))
set_option maxRecDepth 100000 in
set_option maxHeartbeats 4000000 in
theorem c_X8_loudBells (l : Launch) (D : va_G) (cy : ClassId) (ad : Nat → Nat) (fu : Nat) (l1 : Int32) (x : Mem) : Ct l D cy ad shX yX8_loudBells cX8_loudBells 2 (some .int) 4 160 [.ref (ad 3), .int l1] x (pr (F_X8_loudBells fu l1 x) x) := by
  refine ct_of [some (.ref (ad 3)), some (.int l1)] (by decide) (Nat.le_of_ble_eq_true rfl) rfl rfl ?_
  intro p e s m args below meth c A X
  have X : Cx p s m args meth c RX8 cX8_loudBells 2 (some .int) D cy ad shX A := X
  unfold F_X8_loudBells
  refine s_aload_n (pc := 0) X rfl dX8_loudBells_0 ?_
  refine s_iload_n (pc := 1) X rfl dX8_loudBells_1 ?_
  refine p_callV (pc := 2) (As := [.int l1]) (st := []) X lk_RX8_54 (c_X8_forceOf l D cy ad fu _ _) shX_3 rfl rfl rfl rfl ⟨by decide, by decide⟩ (Nat.le_of_ble_eq_true rfl) dX8_loudBells_2 (fun r_1 => ?_)
  refine s_bipush (pc := 5) X bp_6 dX8_loudBells_5 ?_
  refine p_icmp_lt (pc := 7) X 18 rfl dX8_loudBells_7 ?_ ?_
  · refine s_iconst (pc := 18) X ic_0 dX8_loudBells_18 ?_
    exact p_iret (pc := 19) X dX8_loudBells_19
  · refine s_aload_n (pc := 10) X rfl dX8_loudBells_10 ?_
    refine s_iload_n (pc := 11) X rfl dX8_loudBells_11 ?_
    refine p_callV (pc := 12) (As := [.int l1]) (st := []) X lk_RX8_58 (c_X8_soundingBell l D cy ad fu _ _) shX_3 rfl rfl rfl rfl ⟨by decide, by decide⟩ (Nat.le_of_ble_eq_true rfl) dX8_loudBells_12 (fun r_2 => ?_)
    refine s_goto (pc := 15) X 19 rfl dX8_loudBells_15 ?_
    exact p_iret (pc := 19) X dX8_loudBells_19

-- X8_cranksCrossedWith
def L_X8_cranksCrossedWith_4 (fu : Nat) (l1 : Int32) (x : Mem) : Nat → Int32 → Int32 → (Int32 → Option Int32) → Option Int32
  | 0, _, _, _ => none
  | n + 1, l2, l3, K => (if (16 : Int32) ≤ l3 then (K l2) else (if (((l1 : Int32) >>> (l3 &&& 31)) &&& 1) = 0 then (L_X8_cranksCrossedWith_4 fu l1 x n l2 (l3 + 1) K) else (chk l3 16 (letv (l2 ||| (x 18 (l3 : Int32).toNatClampNeg)) (fun l2_1 => (L_X8_cranksCrossedWith_4 fu l1 x n l2_1 (l3 + 1) K))))))
set_option maxRecDepth 100000 in
set_option maxHeartbeats 4000000 in
theorem tL_X8_cranksCrossedWith_4 {p : Program} {l : Launch} {e : Env} {s : State} {m : MethodId} {args : Array Value} {below : List Frame} {meth : Method} {c : Code} {D : va_G} {cy : ClassId} {ad : Nat → Nat} {A : Nat → Prop} {fu : Nat} (X : Cx p s m args meth c RX8 cX8_cranksCrossedWith 4 (some .int) D cy ad shX A) {l1 : Int32} {x : Mem} {K : Int32 → Option Int32} (hK : ∀ (l2 : Int32), Sim p l e ({ frames := 1, cells := 0, slots := 0, locals := 40 } : Room) s m args below meth c 4 (some .int) D cy ad shX A 33 [none, none, some (.int l2), none] [] x (pr (K l2) x)) : ∀ (n : Nat) (l2 : Int32) (l3 : Int32), Sim p l e ({ frames := 1, cells := 0, slots := 0, locals := 40 } : Room) s m args below meth c 4 (some .int) D cy ad shX A 4 [some (.ref (ad 3)), some (.int l1), some (.int l2), some (.int l3)] [] x (pr (L_X8_cranksCrossedWith_4 fu l1 x n l2 l3 K) x) := by
  intro n
  induction n with
  | zero =>
    intro l2 l3
    rw [L_X8_cranksCrossedWith_4]
    exact p_none
  | succ n ih =>
    intro l2 l3
    rw [L_X8_cranksCrossedWith_4]
    refine s_iload_n (pc := 4) X rfl dX8_cranksCrossedWith_4 ?_
    refine s_bipush (pc := 5) X bp_16 dX8_cranksCrossedWith_5 ?_
    refine p_icmp_ge (pc := 7) X 33 rfl dX8_cranksCrossedWith_7 ?_ ?_
    · refine s_mask [false, false, true, false] ?_
      exact hK _
    · refine s_iload_n (pc := 10) X rfl dX8_cranksCrossedWith_10 ?_
      refine s_iload_n (pc := 11) X rfl dX8_cranksCrossedWith_11 ?_
      refine s_ishr (pc := 12) X dX8_cranksCrossedWith_12 ?_
      refine s_iconst (pc := 13) X ic_1 dX8_cranksCrossedWith_13 ?_
      refine s_iand (pc := 14) X dX8_cranksCrossedWith_14 ?_
      refine p_if_eq (pc := 15) X 27 rfl dX8_cranksCrossedWith_15 ?_ ?_
      · refine s_iinc (pc := 27) X [some (.ref (ad 3)), some (.int l1), some (.int l2), some (.int (l3 + 1))] rfl (by decide) rfl ic_1 dX8_cranksCrossedWith_27 ?_
        refine s_goto (pc := 30) X 4 rfl dX8_cranksCrossedWith_30 ?_
        exact ih _ _
      · refine s_iload_n (pc := 18) X rfl dX8_cranksCrossedWith_18 ?_
        refine s_aload_n (pc := 19) X rfl dX8_cranksCrossedWith_19 ?_
        refine s_getR (pc := 20) X shX_3 rfl fl_RX8_15 dX8_cranksCrossedWith_20 ?_
        refine s_iload_n (pc := 23) X rfl dX8_cranksCrossedWith_23 ?_
        refine p_iald (pc := 24) X shX_18 dX8_cranksCrossedWith_24 ?_
        refine s_ior (pc := 25) X dX8_cranksCrossedWith_25 ?_
        refine p_letv (fun l2_1 => ?_)
        refine s_istore_n (pc := 26) X [some (.ref (ad 3)), some (.int l1), some (.int l2_1), some (.int l3)] rfl (by decide) dX8_cranksCrossedWith_26 ?_
        refine s_iinc (pc := 27) X [some (.ref (ad 3)), some (.int l1), some (.int l2_1), some (.int (l3 + 1))] rfl (by decide) rfl ic_1 dX8_cranksCrossedWith_27 ?_
        refine s_goto (pc := 30) X 4 rfl dX8_cranksCrossedWith_30 ?_
        exact ih _ _

def F_X8_cranksCrossedWith (fu : Nat) (l1 : Int32) (x : Mem) : Option Int32 :=
  (L_X8_cranksCrossedWith_4 fu l1 x fu 0 0 (fun l2_2 => (some l2_2)))
set_option maxRecDepth 100000 in
set_option maxHeartbeats 4000000 in
theorem c_X8_cranksCrossedWith (l : Launch) (D : va_G) (cy : ClassId) (ad : Nat → Nat) (fu : Nat) (l1 : Int32) (x : Mem) : Ct l D cy ad shX yX8_cranksCrossedWith cX8_cranksCrossedWith 4 (some .int) 1 40 [.ref (ad 3), .int l1] x (pr (F_X8_cranksCrossedWith fu l1 x) x) := by
  refine ct_of [some (.ref (ad 3)), some (.int l1), none, none] (by decide) (Nat.le_of_ble_eq_true rfl) rfl rfl ?_
  intro p e s m args below meth c A X
  have X : Cx p s m args meth c RX8 cX8_cranksCrossedWith 4 (some .int) D cy ad shX A := X
  unfold F_X8_cranksCrossedWith
  refine s_iconst (pc := 0) X ic_0 dX8_cranksCrossedWith_0 ?_
  refine s_istore_n (pc := 1) X [some (.ref (ad 3)), some (.int l1), some (.int 0), none] rfl (by decide) dX8_cranksCrossedWith_1 ?_
  refine s_iconst (pc := 2) X ic_0 dX8_cranksCrossedWith_2 ?_
  refine s_istore_n (pc := 3) X [some (.ref (ad 3)), some (.int l1), some (.int 0), some (.int 0)] rfl (by decide) dX8_cranksCrossedWith_3 ?_
  refine tL_X8_cranksCrossedWith_4 X (fun l2_2 => ?_) fu _ _
  refine s_iload_n (pc := 33) X rfl dX8_cranksCrossedWith_33 ?_
  exact p_iret (pc := 34) X dX8_cranksCrossedWith_34

-- X8_bellsPulledAlong
def L_X8_bellsPulledAlong_25 (fu : Nat) (l1 : Int32) (l2 : Int32) (x : Mem) : Nat → Int32 → Int32 → (Int32 → Option Int32) → Option Int32
  | 0, _, _, _ => none
  | n + 1, l3, l4, K => (if (x 1 0) ≤ l4 then (K l3) else (if l4 = l1 then (L_X8_bellsPulledAlong_25 fu l1 l2 x n l3 (l4 + 1) K) else (chk l4 12 (if ((x 14 (l4 : Int32).toNatClampNeg) &&& l2) = 0 then (L_X8_bellsPulledAlong_25 fu l1 l2 x n l3 (l4 + 1) K) else (clp (F_X8_hasDead fu l4 x) (fun r_2 => (if r_2 = 0 then (clp (F_X8_soundingBell fu l4 x) (fun r_3 => (letv (l3 ||| r_3) (fun l3_4 => (L_X8_bellsPulledAlong_25 fu l1 l2 x n l3_4 (l4 + 1) K))))) else (L_X8_bellsPulledAlong_25 fu l1 l2 x n l3 (l4 + 1) K))))))))
set_option maxRecDepth 100000 in
set_option maxHeartbeats 4000000 in
theorem tL_X8_bellsPulledAlong_25 {p : Program} {l : Launch} {e : Env} {s : State} {m : MethodId} {args : Array Value} {below : List Frame} {meth : Method} {c : Code} {D : va_G} {cy : ClassId} {ad : Nat → Nat} {A : Nat → Prop} {fu : Nat} (X : Cx p s m args meth c RX8 cX8_bellsPulledAlong 5 (some .int) D cy ad shX A) {l1 : Int32} {l2 : Int32} {x : Mem} {K : Int32 → Option Int32} (hK : ∀ (l3 : Int32), Sim p l e ({ frames := 2, cells := 0, slots := 0, locals := 80 } : Room) s m args below meth c 5 (some .int) D cy ad shX A 82 [some (.ref (ad 3)), some (.int l1), none, some (.int l3), none] [] x (pr (K l3) x)) : ∀ (n : Nat) (l3 : Int32) (l4 : Int32), Sim p l e ({ frames := 2, cells := 0, slots := 0, locals := 80 } : Room) s m args below meth c 5 (some .int) D cy ad shX A 25 [some (.ref (ad 3)), some (.int l1), some (.int l2), some (.int l3), some (.int l4)] [] x (pr (L_X8_bellsPulledAlong_25 fu l1 l2 x n l3 l4 K) x) := by
  intro n
  induction n with
  | zero =>
    intro l3 l4
    rw [L_X8_bellsPulledAlong_25]
    exact p_none
  | succ n ih =>
    intro l3 l4
    rw [L_X8_bellsPulledAlong_25]
    refine s_iload (pc := 25) X rfl dX8_bellsPulledAlong_25 ?_
    refine s_aload_n (pc := 27) X rfl dX8_bellsPulledAlong_27 ?_
    refine s_getR (pc := 28) X shX_3 rfl fl_RX8_18 dX8_bellsPulledAlong_28 ?_
    refine s_getI (pc := 31) X shX_1 rfl fl_RX8_64 dX8_bellsPulledAlong_31 ?_
    refine p_icmp_ge (pc := 34) X 82 rfl dX8_bellsPulledAlong_34 ?_ ?_
    · refine s_mask [true, true, false, true, false] ?_
      exact hK _
    · refine s_iload (pc := 37) X rfl dX8_bellsPulledAlong_37 ?_
      refine s_iload_n (pc := 39) X rfl dX8_bellsPulledAlong_39 ?_
      refine p_icmp_eq (pc := 40) X 76 rfl dX8_bellsPulledAlong_40 ?_ ?_
      · refine s_iinc (pc := 76) X [some (.ref (ad 3)), some (.int l1), some (.int l2), some (.int l3), some (.int (l4 + 1))] rfl (by decide) rfl ic_1 dX8_bellsPulledAlong_76 ?_
        refine s_goto (pc := 79) X 25 rfl dX8_bellsPulledAlong_79 ?_
        exact ih _ _
      · refine s_aload_n (pc := 43) X rfl dX8_bellsPulledAlong_43 ?_
        refine s_getR (pc := 44) X shX_3 rfl fl_RX8_18 dX8_bellsPulledAlong_44 ?_
        refine s_getR (pc := 47) X shX_1 rfl fl_RX8_46 dX8_bellsPulledAlong_47 ?_
        refine s_iload (pc := 50) X rfl dX8_bellsPulledAlong_50 ?_
        refine p_iald (pc := 52) X shX_14 dX8_bellsPulledAlong_52 ?_
        refine s_iload_n (pc := 53) X rfl dX8_bellsPulledAlong_53 ?_
        refine s_iand (pc := 54) X dX8_bellsPulledAlong_54 ?_
        refine p_if_eq (pc := 55) X 76 rfl dX8_bellsPulledAlong_55 ?_ ?_
        · refine s_iinc (pc := 76) X [some (.ref (ad 3)), some (.int l1), some (.int l2), some (.int l3), some (.int (l4 + 1))] rfl (by decide) rfl ic_1 dX8_bellsPulledAlong_76 ?_
          refine s_goto (pc := 79) X 25 rfl dX8_bellsPulledAlong_79 ?_
          exact ih _ _
        · refine s_aload_n (pc := 58) X rfl dX8_bellsPulledAlong_58 ?_
          refine s_iload (pc := 59) X rfl dX8_bellsPulledAlong_59 ?_
          refine p_callV (pc := 61) (As := [.int l4]) (st := []) X lk_RX8_33 (c_X8_hasDead l D cy ad fu _ _) shX_3 rfl rfl rfl rfl ⟨by decide, by decide⟩ (Nat.le_of_ble_eq_true rfl) dX8_bellsPulledAlong_61 (fun r_2 => ?_)
          refine p_if_ne (pc := 64) X 76 rfl dX8_bellsPulledAlong_64 ?_ ?_
          · refine s_iinc (pc := 76) X [some (.ref (ad 3)), some (.int l1), some (.int l2), some (.int l3), some (.int (l4 + 1))] rfl (by decide) rfl ic_1 dX8_bellsPulledAlong_76 ?_
            refine s_goto (pc := 79) X 25 rfl dX8_bellsPulledAlong_79 ?_
            exact ih _ _
          · refine s_iload_n (pc := 67) X rfl dX8_bellsPulledAlong_67 ?_
            refine s_aload_n (pc := 68) X rfl dX8_bellsPulledAlong_68 ?_
            refine s_iload (pc := 69) X rfl dX8_bellsPulledAlong_69 ?_
            refine p_callV (pc := 71) (As := [.int l4]) (st := [.int l3]) X lk_RX8_58 (c_X8_soundingBell l D cy ad fu _ _) shX_3 rfl rfl rfl rfl ⟨by decide, by decide⟩ (Nat.le_of_ble_eq_true rfl) dX8_bellsPulledAlong_71 (fun r_3 => ?_)
            refine s_ior (pc := 74) X dX8_bellsPulledAlong_74 ?_
            refine p_letv (fun l3_4 => ?_)
            refine s_istore_n (pc := 75) X [some (.ref (ad 3)), some (.int l1), some (.int l2), some (.int l3_4), some (.int l4)] rfl (by decide) dX8_bellsPulledAlong_75 ?_
            refine s_iinc (pc := 76) X [some (.ref (ad 3)), some (.int l1), some (.int l2), some (.int l3_4), some (.int (l4 + 1))] rfl (by decide) rfl ic_1 dX8_bellsPulledAlong_76 ?_
            refine s_goto (pc := 79) X 25 rfl dX8_bellsPulledAlong_79 ?_
            exact ih _ _

def F_X8_bellsPulledAlong (fu : Nat) (l1 : Int32) (x : Mem) : Option Int32 :=
  (chk l1 12 (clp (F_X8_cranksCrossedWith fu (x 14 (l1 : Int32).toNatClampNeg) x) (fun r_1 => (if r_1 = 0 then (some 0) else (L_X8_bellsPulledAlong_25 fu l1 r_1 x fu 0 0 (fun l3_5 => (chk l1 12 (some (l3_5 &&& (((1 : Int32) <<< ((x 13 (l1 : Int32).toNatClampNeg) &&& 31)) ^^^ (-1)))))))))))
set_option maxRecDepth 100000 in
set_option maxHeartbeats 4000000 in
theorem c_X8_bellsPulledAlong (l : Launch) (D : va_G) (cy : ClassId) (ad : Nat → Nat) (fu : Nat) (l1 : Int32) (x : Mem) : Ct l D cy ad shX yX8_bellsPulledAlong cX8_bellsPulledAlong 5 (some .int) 2 80 [.ref (ad 3), .int l1] x (pr (F_X8_bellsPulledAlong fu l1 x) x) := by
  refine ct_of [some (.ref (ad 3)), some (.int l1), none, none, none] (by decide) (Nat.le_of_ble_eq_true rfl) rfl rfl ?_
  intro p e s m args below meth c A X
  have X : Cx p s m args meth c RX8 cX8_bellsPulledAlong 5 (some .int) D cy ad shX A := X
  unfold F_X8_bellsPulledAlong
  refine s_aload_n (pc := 0) X rfl dX8_bellsPulledAlong_0 ?_
  refine s_aload_n (pc := 1) X rfl dX8_bellsPulledAlong_1 ?_
  refine s_getR (pc := 2) X shX_3 rfl fl_RX8_18 dX8_bellsPulledAlong_2 ?_
  refine s_getR (pc := 5) X shX_1 rfl fl_RX8_46 dX8_bellsPulledAlong_5 ?_
  refine s_iload_n (pc := 8) X rfl dX8_bellsPulledAlong_8 ?_
  refine p_iald (pc := 9) X shX_14 dX8_bellsPulledAlong_9 ?_
  refine p_callV (pc := 10) (As := [.int (x 14 (l1 : Int32).toNatClampNeg)]) (st := []) X lk_RX8_81 (c_X8_cranksCrossedWith l D cy ad fu _ _) shX_3 rfl rfl rfl rfl ⟨by decide, by decide⟩ (Nat.le_of_ble_eq_true rfl) dX8_bellsPulledAlong_10 (fun r_1 => ?_)
  refine s_istore_n (pc := 13) X [some (.ref (ad 3)), some (.int l1), some (.int r_1), none, none] rfl (by decide) dX8_bellsPulledAlong_13 ?_
  refine s_iload_n (pc := 14) X rfl dX8_bellsPulledAlong_14 ?_
  refine p_if_ne (pc := 15) X 20 rfl dX8_bellsPulledAlong_15 ?_ ?_
  · refine s_iconst (pc := 20) X ic_0 dX8_bellsPulledAlong_20 ?_
    refine s_istore_n (pc := 21) X [some (.ref (ad 3)), some (.int l1), some (.int r_1), some (.int 0), none] rfl (by decide) dX8_bellsPulledAlong_21 ?_
    refine s_iconst (pc := 22) X ic_0 dX8_bellsPulledAlong_22 ?_
    refine s_istore (pc := 23) X [some (.ref (ad 3)), some (.int l1), some (.int r_1), some (.int 0), some (.int 0)] rfl (by decide) dX8_bellsPulledAlong_23 ?_
    refine tL_X8_bellsPulledAlong_25 X (fun l3_5 => ?_) fu _ _
    refine s_iload_n (pc := 82) X rfl dX8_bellsPulledAlong_82 ?_
    refine s_iconst (pc := 83) X ic_1 dX8_bellsPulledAlong_83 ?_
    refine s_aload_n (pc := 84) X rfl dX8_bellsPulledAlong_84 ?_
    refine s_getR (pc := 85) X shX_3 rfl fl_RX8_18 dX8_bellsPulledAlong_85 ?_
    refine s_getR (pc := 88) X shX_1 rfl fl_RX8_73 dX8_bellsPulledAlong_88 ?_
    refine s_iload_n (pc := 91) X rfl dX8_bellsPulledAlong_91 ?_
    refine p_iald (pc := 92) X shX_13 dX8_bellsPulledAlong_92 ?_
    refine s_ishl (pc := 93) X dX8_bellsPulledAlong_93 ?_
    refine s_iconst (pc := 94) X ic_m1 dX8_bellsPulledAlong_94 ?_
    refine s_ixor (pc := 95) X dX8_bellsPulledAlong_95 ?_
    refine s_iand (pc := 96) X dX8_bellsPulledAlong_96 ?_
    exact p_iret (pc := 97) X dX8_bellsPulledAlong_97
  · refine s_iconst (pc := 18) X ic_0 dX8_bellsPulledAlong_18 ?_
    exact p_iret (pc := 19) X dX8_bellsPulledAlong_19

-- X8_weakBells
def F_X8_weakBells (fu : Nat) (l1 : Int32) (x : Mem) : Option Int32 :=
  (clp (F_X8_forceOf fu l1 x) (fun r_1 => (if r_1 < 6 then (if r_1 ≤ 0 then (some 0) else (clp (F_X8_soundingBell fu l1 x) (fun r_2 => (some r_2)))) else (clp (F_X8_bellsPulledAlong fu l1 x) (fun r_3 => (some r_3))))))
set_option maxRecDepth 100000 in
set_option maxHeartbeats 4000000 in
theorem c_X8_weakBells (l : Launch) (D : va_G) (cy : ClassId) (ad : Nat → Nat) (fu : Nat) (l1 : Int32) (x : Mem) : Ct l D cy ad shX yX8_weakBells cX8_weakBells 3 (some .int) 4 160 [.ref (ad 3), .int l1] x (pr (F_X8_weakBells fu l1 x) x) := by
  refine ct_of [some (.ref (ad 3)), some (.int l1), none] (by decide) (Nat.le_of_ble_eq_true rfl) rfl rfl ?_
  intro p e s m args below meth c A X
  have X : Cx p s m args meth c RX8 cX8_weakBells 3 (some .int) D cy ad shX A := X
  unfold F_X8_weakBells
  refine s_aload_n (pc := 0) X rfl dX8_weakBells_0 ?_
  refine s_iload_n (pc := 1) X rfl dX8_weakBells_1 ?_
  refine p_callV (pc := 2) (As := [.int l1]) (st := []) X lk_RX8_54 (c_X8_forceOf l D cy ad fu _ _) shX_3 rfl rfl rfl rfl ⟨by decide, by decide⟩ (Nat.le_of_ble_eq_true rfl) dX8_weakBells_2 (fun r_1 => ?_)
  refine s_istore_n (pc := 5) X [some (.ref (ad 3)), some (.int l1), some (.int r_1)] rfl (by decide) dX8_weakBells_5 ?_
  refine s_iload_n (pc := 6) X rfl dX8_weakBells_6 ?_
  refine s_bipush (pc := 7) X bp_6 dX8_weakBells_7 ?_
  refine p_icmp_lt (pc := 9) X 18 rfl dX8_weakBells_9 ?_ ?_
  · refine s_iload_n (pc := 18) X rfl dX8_weakBells_18 ?_
    refine p_if_le (pc := 19) X 30 rfl dX8_weakBells_19 ?_ ?_
    · refine s_iconst (pc := 30) X ic_0 dX8_weakBells_30 ?_
      exact p_iret (pc := 31) X dX8_weakBells_31
    · refine s_aload_n (pc := 22) X rfl dX8_weakBells_22 ?_
      refine s_iload_n (pc := 23) X rfl dX8_weakBells_23 ?_
      refine p_callV (pc := 24) (As := [.int l1]) (st := []) X lk_RX8_58 (c_X8_soundingBell l D cy ad fu _ _) shX_3 rfl rfl rfl rfl ⟨by decide, by decide⟩ (Nat.le_of_ble_eq_true rfl) dX8_weakBells_24 (fun r_2 => ?_)
      refine s_goto (pc := 27) X 31 rfl dX8_weakBells_27 ?_
      exact p_iret (pc := 31) X dX8_weakBells_31
  · refine s_aload_n (pc := 12) X rfl dX8_weakBells_12 ?_
    refine s_iload_n (pc := 13) X rfl dX8_weakBells_13 ?_
    refine p_callV (pc := 14) (As := [.int l1]) (st := []) X lk_RX8_61 (c_X8_bellsPulledAlong l D cy ad fu _ _) shX_3 rfl rfl rfl rfl ⟨by decide, by decide⟩ (Nat.le_of_ble_eq_true rfl) dX8_weakBells_14 (fun r_3 => ?_)
    exact p_iret (pc := 17) X dX8_weakBells_17

-- X8_pullsThatRing
def L_X8_pullsThatRing_5 (fu : Nat) (l1 : Int32) (l2 : Int32) (x : Mem) : Nat → Int32 → Int32 → (Int32 → Option Int32) → Option Int32
  | 0, _, _, _ => none
  | n + 1, l3, l4, K => (if (x 1 0) ≤ l4 then (K l3) else (jn (fun (k_1 : Int32 → Option Int32) => (if l2 = 1 then (k_1 0) else (clp (F_X8_loudBells fu l4 x) (fun r_2 => (letv (0 ||| r_2) (fun l5_3 => (k_1 l5_3))))))) (fun l5_4 => (jn (fun (k_5 : Int32 → Option Int32) => (if l2 = 2 then (k_5 l5_4) else (clp (F_X8_weakBells fu l4 x) (fun r_6 => (letv (l5_4 ||| r_6) (fun l5_7 => (k_5 l5_7))))))) (fun l5_8 => (if (l5_8 &&& l1) = 0 then (L_X8_pullsThatRing_5 fu l1 l2 x n l3 (l4 + 1) K) else (letv (l3 ||| ((1 : Int32) <<< (l4 &&& 31))) (fun l3_9 => (L_X8_pullsThatRing_5 fu l1 l2 x n l3_9 (l4 + 1) K)))))))))
set_option maxRecDepth 100000 in
set_option maxHeartbeats 4000000 in
theorem tL_X8_pullsThatRing_5 {p : Program} {l : Launch} {e : Env} {s : State} {m : MethodId} {args : Array Value} {below : List Frame} {meth : Method} {c : Code} {D : va_G} {cy : ClassId} {ad : Nat → Nat} {A : Nat → Prop} {fu : Nat} (X : Cx p s m args meth c RX8 cX8_pullsThatRing 6 (some .int) D cy ad shX A) {l1 : Int32} {l2 : Int32} {x : Mem} {K : Int32 → Option Int32} (hK : ∀ (l3 : Int32), Sim p l e ({ frames := 5, cells := 0, slots := 0, locals := 200 } : Room) s m args below meth c 6 (some .int) D cy ad shX A 72 [none, none, none, some (.int l3), none, none] [] x (pr (K l3) x)) : ∀ (n : Nat) (l3 : Int32) (l4 : Int32), Sim p l e ({ frames := 5, cells := 0, slots := 0, locals := 200 } : Room) s m args below meth c 6 (some .int) D cy ad shX A 5 [some (.ref (ad 3)), some (.int l1), some (.int l2), some (.int l3), some (.int l4), none] [] x (pr (L_X8_pullsThatRing_5 fu l1 l2 x n l3 l4 K) x) := by
  intro n
  induction n with
  | zero =>
    intro l3 l4
    rw [L_X8_pullsThatRing_5]
    exact p_none
  | succ n ih =>
    intro l3 l4
    rw [L_X8_pullsThatRing_5]
    refine s_iload (pc := 5) X rfl dX8_pullsThatRing_5 ?_
    refine s_aload_n (pc := 7) X rfl dX8_pullsThatRing_7 ?_
    refine s_getR (pc := 8) X shX_3 rfl fl_RX8_18 dX8_pullsThatRing_8 ?_
    refine s_getI (pc := 11) X shX_1 rfl fl_RX8_64 dX8_pullsThatRing_11 ?_
    refine p_icmp_ge (pc := 14) X 72 rfl dX8_pullsThatRing_14 ?_ ?_
    · refine s_mask [false, false, false, true, false, false] ?_
      exact hK _
    · refine s_iconst (pc := 17) X ic_0 dX8_pullsThatRing_17 ?_
      refine s_istore (pc := 18) X [some (.ref (ad 3)), some (.int l1), some (.int l2), some (.int l3), some (.int l4), some (.int 0)] rfl (by decide) dX8_pullsThatRing_18 ?_
      refine s_iload_n (pc := 20) X rfl dX8_pullsThatRing_20 ?_
      refine s_iconst (pc := 21) X ic_1 dX8_pullsThatRing_21 ?_
      refine p_jn (fun (k_1 : Int32 → Option Int32) => ∀ (l5_4 : Int32), Sim p l e ({ frames := 5, cells := 0, slots := 0, locals := 200 } : Room) s m args below meth c 6 (some .int) D cy ad shX A 36 [some (.ref (ad 3)), some (.int l1), some (.int l2), some (.int l3), some (.int l4), some (.int l5_4)] [] x (pr (k_1 l5_4) x)) ?_ (fun k_1 hk_1 => ?_)
      · intro l5_4
        refine s_iload_n (pc := 36) X rfl dX8_pullsThatRing_36 ?_
        refine s_iconst (pc := 37) X ic_2 dX8_pullsThatRing_37 ?_
        refine p_jn (fun (k_5 : Int32 → Option Int32) => ∀ (l5_8 : Int32), Sim p l e ({ frames := 5, cells := 0, slots := 0, locals := 200 } : Room) s m args below meth c 6 (some .int) D cy ad shX A 52 [some (.ref (ad 3)), some (.int l1), some (.int l2), some (.int l3), some (.int l4), some (.int l5_8)] [] x (pr (k_5 l5_8) x)) ?_ (fun k_5 hk_5 => ?_)
        · intro l5_8
          refine s_iload (pc := 52) X rfl dX8_pullsThatRing_52 ?_
          refine s_iload_n (pc := 54) X rfl dX8_pullsThatRing_54 ?_
          refine s_iand (pc := 55) X dX8_pullsThatRing_55 ?_
          refine p_if_eq (pc := 56) X 66 rfl dX8_pullsThatRing_56 ?_ ?_
          · refine s_iinc (pc := 66) X [some (.ref (ad 3)), some (.int l1), some (.int l2), some (.int l3), some (.int (l4 + 1)), some (.int l5_8)] rfl (by decide) rfl ic_1 dX8_pullsThatRing_66 ?_
            refine s_goto (pc := 69) X 5 rfl dX8_pullsThatRing_69 ?_
            refine s_mask [true, true, true, true, true, false] ?_
            exact ih _ _
          · refine s_iload_n (pc := 59) X rfl dX8_pullsThatRing_59 ?_
            refine s_iconst (pc := 60) X ic_1 dX8_pullsThatRing_60 ?_
            refine s_iload (pc := 61) X rfl dX8_pullsThatRing_61 ?_
            refine s_ishl (pc := 63) X dX8_pullsThatRing_63 ?_
            refine s_ior (pc := 64) X dX8_pullsThatRing_64 ?_
            refine p_letv (fun l3_9 => ?_)
            refine s_istore_n (pc := 65) X [some (.ref (ad 3)), some (.int l1), some (.int l2), some (.int l3_9), some (.int l4), some (.int l5_8)] rfl (by decide) dX8_pullsThatRing_65 ?_
            refine s_iinc (pc := 66) X [some (.ref (ad 3)), some (.int l1), some (.int l2), some (.int l3_9), some (.int (l4 + 1)), some (.int l5_8)] rfl (by decide) rfl ic_1 dX8_pullsThatRing_66 ?_
            refine s_goto (pc := 69) X 5 rfl dX8_pullsThatRing_69 ?_
            refine s_mask [true, true, true, true, true, false] ?_
            exact ih _ _
        · refine p_icmp_eq (pc := 38) X 52 rfl dX8_pullsThatRing_38 ?_ ?_
          · exact hk_5 _
          · refine s_iload (pc := 41) X rfl dX8_pullsThatRing_41 ?_
            refine s_aload_n (pc := 43) X rfl dX8_pullsThatRing_43 ?_
            refine s_iload (pc := 44) X rfl dX8_pullsThatRing_44 ?_
            refine p_callV (pc := 46) (As := [.int l4]) (st := [.int l5_4]) X lk_RX8_70 (c_X8_weakBells l D cy ad fu _ _) shX_3 rfl rfl rfl rfl ⟨by decide, by decide⟩ (Nat.le_of_ble_eq_true rfl) dX8_pullsThatRing_46 (fun r_6 => ?_)
            refine s_ior (pc := 49) X dX8_pullsThatRing_49 ?_
            refine p_letv (fun l5_7 => ?_)
            refine s_istore (pc := 50) X [some (.ref (ad 3)), some (.int l1), some (.int l2), some (.int l3), some (.int l4), some (.int l5_7)] rfl (by decide) dX8_pullsThatRing_50 ?_
            exact hk_5 _
      · refine p_icmp_eq (pc := 22) X 36 rfl dX8_pullsThatRing_22 ?_ ?_
        · exact hk_1 _
        · refine s_iload (pc := 25) X rfl dX8_pullsThatRing_25 ?_
          refine s_aload_n (pc := 27) X rfl dX8_pullsThatRing_27 ?_
          refine s_iload (pc := 28) X rfl dX8_pullsThatRing_28 ?_
          refine p_callV (pc := 30) (As := [.int l4]) (st := [.int 0]) X lk_RX8_67 (c_X8_loudBells l D cy ad fu _ _) shX_3 rfl rfl rfl rfl ⟨by decide, by decide⟩ (Nat.le_of_ble_eq_true rfl) dX8_pullsThatRing_30 (fun r_2 => ?_)
          refine s_ior (pc := 33) X dX8_pullsThatRing_33 ?_
          refine p_letv (fun l5_3 => ?_)
          refine s_istore (pc := 34) X [some (.ref (ad 3)), some (.int l1), some (.int l2), some (.int l3), some (.int l4), some (.int l5_3)] rfl (by decide) dX8_pullsThatRing_34 ?_
          exact hk_1 _

def F_X8_pullsThatRing (fu : Nat) (l1 : Int32) (l2 : Int32) (x : Mem) : Option Int32 :=
  (L_X8_pullsThatRing_5 fu l1 l2 x fu 0 0 (fun l3_10 => (some l3_10)))
set_option maxRecDepth 100000 in
set_option maxHeartbeats 4000000 in
theorem c_X8_pullsThatRing (l : Launch) (D : va_G) (cy : ClassId) (ad : Nat → Nat) (fu : Nat) (l1 : Int32) (l2 : Int32) (x : Mem) : Ct l D cy ad shX yX8_pullsThatRing cX8_pullsThatRing 6 (some .int) 5 200 [.ref (ad 3), .int l1, .int l2] x (pr (F_X8_pullsThatRing fu l1 l2 x) x) := by
  refine ct_of [some (.ref (ad 3)), some (.int l1), some (.int l2), none, none, none] (by decide) (Nat.le_of_ble_eq_true rfl) rfl rfl ?_
  intro p e s m args below meth c A X
  have X : Cx p s m args meth c RX8 cX8_pullsThatRing 6 (some .int) D cy ad shX A := X
  unfold F_X8_pullsThatRing
  refine s_iconst (pc := 0) X ic_0 dX8_pullsThatRing_0 ?_
  refine s_istore_n (pc := 1) X [some (.ref (ad 3)), some (.int l1), some (.int l2), some (.int 0), none, none] rfl (by decide) dX8_pullsThatRing_1 ?_
  refine s_iconst (pc := 2) X ic_0 dX8_pullsThatRing_2 ?_
  refine s_istore (pc := 3) X [some (.ref (ad 3)), some (.int l1), some (.int l2), some (.int 0), some (.int 0), none] rfl (by decide) dX8_pullsThatRing_3 ?_
  refine tL_X8_pullsThatRing_5 X (fun l3_10 => ?_) fu _ _
  refine s_iload_n (pc := 72) X rfl dX8_pullsThatRing_72 ?_
  exact p_iret (pc := 73) X dX8_pullsThatRing_73

-- X9_crank
def F_X9_crank (fu : Nat) (l1 : Int32) (l2 : Int32) (x : Mem) : Res :=
  (clp (F_X9_within fu l1 16 x) (fun r_1 => (if r_1 = 0 then (some ((-1), x)) else (if l2 < 0 then (some ((-1), x)) else (if l2 ≤ 10 then (cl (F_X8_setCrank fu l1 l2 x) (fun r_2 x_3 => (some (r_2, x_3)))) else (some ((-1), x)))))))
set_option maxRecDepth 100000 in
set_option maxHeartbeats 4000000 in
theorem c_X9_crank (l : Launch) (D : va_G) (cy : ClassId) (ad : Nat → Nat) (fu : Nat) (l1 : Int32) (l2 : Int32) (x : Mem) : Ct l D cy ad shX yX9_crank cX9_crank 3 (some .int) 2 80 [.ref (ad 0), .int l1, .int l2] x (F_X9_crank fu l1 l2 x) := by
  refine ct_of [some (.ref (ad 0)), some (.int l1), some (.int l2)] (by decide) (Nat.le_of_ble_eq_true rfl) rfl rfl ?_
  intro p e s m args below meth c A X
  have X : Cx p s m args meth c RX9 cX9_crank 3 (some .int) D cy ad shX A := X
  unfold F_X9_crank
  refine s_iload_n (pc := 0) X rfl dX9_crank_0 ?_
  refine s_bipush (pc := 1) X bp_16 dX9_crank_1 ?_
  refine s_callSp (pc := 3) (As := [.int l1, .int 16]) (st := []) X lk_RX9_78 (c_X9_within l D cy ad fu _ _ _) rfl rfl ⟨by decide, by decide⟩ (Nat.le_of_ble_eq_true rfl) dX9_crank_3 (fun r_1 => ?_)
  refine s_if_eq (pc := 6) X 19 rfl dX9_crank_6 ?_ ?_
  · refine s_iconst (pc := 19) X ic_m1 dX9_crank_19 ?_
    exact s_iret (pc := 20) X dX9_crank_20
  · refine s_iload_n (pc := 9) X rfl dX9_crank_9 ?_
    refine s_if_lt (pc := 10) X 19 rfl dX9_crank_10 ?_ ?_
    · refine s_iconst (pc := 19) X ic_m1 dX9_crank_19 ?_
      exact s_iret (pc := 20) X dX9_crank_20
    · refine s_iload_n (pc := 13) X rfl dX9_crank_13 ?_
      refine s_bipush (pc := 14) X bp_10 dX9_crank_14 ?_
      refine s_icmp_le (pc := 16) X 21 rfl dX9_crank_16 ?_ ?_
      · refine s_aload_n (pc := 21) X rfl dX9_crank_21 ?_
        refine s_getR (pc := 22) X shX_0 rfl fl_RX9_28 dX9_crank_22 ?_
        refine s_iload_n (pc := 25) X rfl dX9_crank_25 ?_
        refine s_iload_n (pc := 26) X rfl dX9_crank_26 ?_
        refine s_callV (pc := 27) (As := [.int l1, .int l2]) (st := []) X lk_RX9_82 (c_X8_setCrank l D cy ad fu _ _ _) shX_3 rfl rfl rfl rfl ⟨by decide, by decide⟩ (Nat.le_of_ble_eq_true rfl) dX9_crank_27 (fun r_2 x_3 => ?_)
        exact s_iret (pc := 30) X dX9_crank_30
      · refine s_iconst (pc := 19) X ic_m1 dX9_crank_19 ?_
        exact s_iret (pc := 20) X dX9_crank_20

-- X9_bell
def F_X9_bell (fu : Nat) (l1 : Int32) (l2 : Int32) (l3 : Int32) (x : Mem) : Res :=
  (clp (F_X9_within fu l1 8 x) (fun r_1 => (if r_1 = 0 then (some ((-1), x)) else (if l2 = 0 then (clp (F_X9_within fu l3 6 x) (fun r_6 => (if r_6 = 0 then (if l2 = 1 then (if l3 = 0 then (cl (F_X0_setMute fu l1 l3 x) (fun r_7 x_8 => (some (r_7, x_8)))) else (if l3 = 1 then (cl (F_X0_setMute fu l1 l3 x) (fun r_9 x_10 => (some (r_9, x_10)))) else (some ((-1), x)))) else (some ((-1), x))) else (cl (F_X0_setTone fu l1 l3 x) (fun r_11 x_12 => (some (r_11, x_12))))))) else (if l2 = 1 then (if l3 = 0 then (cl (F_X0_setMute fu l1 l3 x) (fun r_2 x_3 => (some (r_2, x_3)))) else (if l3 = 1 then (cl (F_X0_setMute fu l1 l3 x) (fun r_4 x_5 => (some (r_4, x_5)))) else (some ((-1), x)))) else (some ((-1), x)))))))
set_option maxRecDepth 100000 in
set_option maxHeartbeats 4000000 in
theorem c_X9_bell (l : Launch) (D : va_G) (cy : ClassId) (ad : Nat → Nat) (fu : Nat) (l1 : Int32) (l2 : Int32) (l3 : Int32) (x : Mem) : Ct l D cy ad shX yX9_bell cX9_bell 4 (some .int) 2 80 [.ref (ad 0), .int l1, .int l2, .int l3] x (F_X9_bell fu l1 l2 l3 x) := by
  refine ct_of [some (.ref (ad 0)), some (.int l1), some (.int l2), some (.int l3)] (by decide) (Nat.le_of_ble_eq_true rfl) rfl rfl ?_
  intro p e s m args below meth c A X
  have X : Cx p s m args meth c RX9 cX9_bell 4 (some .int) D cy ad shX A := X
  unfold F_X9_bell
  refine s_iload_n (pc := 0) X rfl dX9_bell_0 ?_
  refine s_bipush (pc := 1) X bp_8 dX9_bell_1 ?_
  refine s_callSp (pc := 3) (As := [.int l1, .int 8]) (st := []) X lk_RX9_78 (c_X9_within l D cy ad fu _ _ _) rfl rfl ⟨by decide, by decide⟩ (Nat.le_of_ble_eq_true rfl) dX9_bell_3 (fun r_1 => ?_)
  refine s_if_ne (pc := 6) X 11 rfl dX9_bell_6 ?_ ?_
  · refine s_iload_n (pc := 11) X rfl dX9_bell_11 ?_
    refine s_if_ne (pc := 12) X 34 rfl dX9_bell_12 ?_ ?_
    · refine s_iload_n (pc := 34) X rfl dX9_bell_34 ?_
      refine s_iconst (pc := 35) X ic_1 dX9_bell_35 ?_
      refine s_icmp_ne (pc := 36) X 58 rfl dX9_bell_36 ?_ ?_
      · refine s_iconst (pc := 58) X ic_m1 dX9_bell_58 ?_
        exact s_iret (pc := 59) X dX9_bell_59
      · refine s_iload_n (pc := 39) X rfl dX9_bell_39 ?_
        refine s_if_eq (pc := 40) X 48 rfl dX9_bell_40 ?_ ?_
        · refine s_aload_n (pc := 48) X rfl dX9_bell_48 ?_
          refine s_getR (pc := 49) X shX_0 rfl fl_RX9_19 dX9_bell_49 ?_
          refine s_iload_n (pc := 52) X rfl dX9_bell_52 ?_
          refine s_iload_n (pc := 53) X rfl dX9_bell_53 ?_
          refine s_callV (pc := 54) (As := [.int l1, .int l3]) (st := []) X lk_RX9_89 (c_X0_setMute l D cy ad fu _ _ _) shX_2 rfl rfl rfl rfl ⟨by decide, by decide⟩ (Nat.le_of_ble_eq_true rfl) dX9_bell_54 (fun r_2 x_3 => ?_)
          exact s_iret (pc := 57) X dX9_bell_57
        · refine s_iload_n (pc := 43) X rfl dX9_bell_43 ?_
          refine s_iconst (pc := 44) X ic_1 dX9_bell_44 ?_
          refine s_icmp_ne (pc := 45) X 58 rfl dX9_bell_45 ?_ ?_
          · refine s_iconst (pc := 58) X ic_m1 dX9_bell_58 ?_
            exact s_iret (pc := 59) X dX9_bell_59
          · refine s_aload_n (pc := 48) X rfl dX9_bell_48 ?_
            refine s_getR (pc := 49) X shX_0 rfl fl_RX9_19 dX9_bell_49 ?_
            refine s_iload_n (pc := 52) X rfl dX9_bell_52 ?_
            refine s_iload_n (pc := 53) X rfl dX9_bell_53 ?_
            refine s_callV (pc := 54) (As := [.int l1, .int l3]) (st := []) X lk_RX9_89 (c_X0_setMute l D cy ad fu _ _ _) shX_2 rfl rfl rfl rfl ⟨by decide, by decide⟩ (Nat.le_of_ble_eq_true rfl) dX9_bell_54 (fun r_4 x_5 => ?_)
            exact s_iret (pc := 57) X dX9_bell_57
    · refine s_iload_n (pc := 15) X rfl dX9_bell_15 ?_
      refine s_bipush (pc := 16) X bp_6 dX9_bell_16 ?_
      refine s_callSp (pc := 18) (As := [.int l3, .int 6]) (st := []) X lk_RX9_78 (c_X9_within l D cy ad fu _ _ _) rfl rfl ⟨by decide, by decide⟩ (Nat.le_of_ble_eq_true rfl) dX9_bell_18 (fun r_6 => ?_)
      refine s_if_eq (pc := 21) X 34 rfl dX9_bell_21 ?_ ?_
      · refine s_iload_n (pc := 34) X rfl dX9_bell_34 ?_
        refine s_iconst (pc := 35) X ic_1 dX9_bell_35 ?_
        refine s_icmp_ne (pc := 36) X 58 rfl dX9_bell_36 ?_ ?_
        · refine s_iconst (pc := 58) X ic_m1 dX9_bell_58 ?_
          exact s_iret (pc := 59) X dX9_bell_59
        · refine s_iload_n (pc := 39) X rfl dX9_bell_39 ?_
          refine s_if_eq (pc := 40) X 48 rfl dX9_bell_40 ?_ ?_
          · refine s_aload_n (pc := 48) X rfl dX9_bell_48 ?_
            refine s_getR (pc := 49) X shX_0 rfl fl_RX9_19 dX9_bell_49 ?_
            refine s_iload_n (pc := 52) X rfl dX9_bell_52 ?_
            refine s_iload_n (pc := 53) X rfl dX9_bell_53 ?_
            refine s_callV (pc := 54) (As := [.int l1, .int l3]) (st := []) X lk_RX9_89 (c_X0_setMute l D cy ad fu _ _ _) shX_2 rfl rfl rfl rfl ⟨by decide, by decide⟩ (Nat.le_of_ble_eq_true rfl) dX9_bell_54 (fun r_7 x_8 => ?_)
            exact s_iret (pc := 57) X dX9_bell_57
          · refine s_iload_n (pc := 43) X rfl dX9_bell_43 ?_
            refine s_iconst (pc := 44) X ic_1 dX9_bell_44 ?_
            refine s_icmp_ne (pc := 45) X 58 rfl dX9_bell_45 ?_ ?_
            · refine s_iconst (pc := 58) X ic_m1 dX9_bell_58 ?_
              exact s_iret (pc := 59) X dX9_bell_59
            · refine s_aload_n (pc := 48) X rfl dX9_bell_48 ?_
              refine s_getR (pc := 49) X shX_0 rfl fl_RX9_19 dX9_bell_49 ?_
              refine s_iload_n (pc := 52) X rfl dX9_bell_52 ?_
              refine s_iload_n (pc := 53) X rfl dX9_bell_53 ?_
              refine s_callV (pc := 54) (As := [.int l1, .int l3]) (st := []) X lk_RX9_89 (c_X0_setMute l D cy ad fu _ _ _) shX_2 rfl rfl rfl rfl ⟨by decide, by decide⟩ (Nat.le_of_ble_eq_true rfl) dX9_bell_54 (fun r_9 x_10 => ?_)
              exact s_iret (pc := 57) X dX9_bell_57
      · refine s_aload_n (pc := 24) X rfl dX9_bell_24 ?_
        refine s_getR (pc := 25) X shX_0 rfl fl_RX9_19 dX9_bell_25 ?_
        refine s_iload_n (pc := 28) X rfl dX9_bell_28 ?_
        refine s_iload_n (pc := 29) X rfl dX9_bell_29 ?_
        refine s_callV (pc := 30) (As := [.int l1, .int l3]) (st := []) X lk_RX9_86 (c_X0_setTone l D cy ad fu _ _ _) shX_2 rfl rfl rfl rfl ⟨by decide, by decide⟩ (Nat.le_of_ble_eq_true rfl) dX9_bell_30 (fun r_11 x_12 => ?_)
        exact s_iret (pc := 33) X dX9_bell_33
  · refine s_iconst (pc := 9) X ic_m1 dX9_bell_9 ?_
    exact s_iret (pc := 10) X dX9_bell_10

-- X9_heat
def F_X9_heat (fu : Nat) (l1 : Int32) (x : Mem) : Res :=
  (if l1 < 0 then (some ((-1), x)) else (if l1 ≤ 40 then (letv (x 3 6) (fun l2_1 => (letm (wr x 3 6 l1) (fun x_2 => (some (l2_1, x_2)))))) else (some ((-1), x))))
set_option maxRecDepth 100000 in
set_option maxHeartbeats 4000000 in
theorem c_X9_heat (l : Launch) (D : va_G) (cy : ClassId) (ad : Nat → Nat) (fu : Nat) (l1 : Int32) (x : Mem) : Ct l D cy ad shX yX9_heat cX9_heat 3 (some .int) 1 40 [.ref (ad 0), .int l1] x (F_X9_heat fu l1 x) := by
  refine ct_of [some (.ref (ad 0)), some (.int l1), none] (by decide) (Nat.le_of_ble_eq_true rfl) rfl rfl ?_
  intro p e s m args below meth c A X
  have X : Cx p s m args meth c RX9 cX9_heat 3 (some .int) D cy ad shX A := X
  unfold F_X9_heat
  refine s_iload_n (pc := 0) X rfl dX9_heat_0 ?_
  refine s_if_lt (pc := 1) X 10 rfl dX9_heat_1 ?_ ?_
  · refine s_iconst (pc := 10) X ic_m1 dX9_heat_10 ?_
    exact s_iret (pc := 11) X dX9_heat_11
  · refine s_iload_n (pc := 4) X rfl dX9_heat_4 ?_
    refine s_bipush (pc := 5) X bp_40 dX9_heat_5 ?_
    refine s_icmp_le (pc := 7) X 12 rfl dX9_heat_7 ?_ ?_
    · refine s_aload_n (pc := 12) X rfl dX9_heat_12 ?_
      refine s_getR (pc := 13) X shX_0 rfl fl_RX9_28 dX9_heat_13 ?_
      refine s_getI (pc := 16) X shX_3 rfl fl_RX9_92 dX9_heat_16 ?_
      refine s_letv (fun l2_1 => ?_)
      refine s_istore_n (pc := 19) X [some (.ref (ad 0)), some (.int l1), some (.int l2_1)] rfl (by decide) dX9_heat_19 ?_
      refine s_aload_n (pc := 20) X rfl dX9_heat_20 ?_
      refine s_getR (pc := 21) X shX_0 rfl fl_RX9_28 dX9_heat_21 ?_
      refine s_iload_n (pc := 24) X rfl dX9_heat_24 ?_
      refine s_put (pc := 25) X shX_3 rfl fp_RX9_92 dX9_heat_25 ?_
      refine s_letm (fun x_2 => ?_)
      refine s_iload_n (pc := 28) X rfl dX9_heat_28 ?_
      exact s_iret (pc := 29) X dX9_heat_29
    · refine s_iconst (pc := 10) X ic_m1 dX9_heat_10 ?_
      exact s_iret (pc := 11) X dX9_heat_11

-- X9_pull
def F_X9_pull (fu : Nat) (l1 : Int32) (l2 : Int32) (l3 : Int32) (l4 : Int32) (l5 : Int32) (x : Mem) : Res :=
  (clp (F_X9_within fu l1 4 x) (fun r_1 => (if r_1 = 0 then (some ((-1), x)) else (clp (F_X9_within fu l2 31 x) (fun r_2 => (if r_2 = 0 then (some ((-1), x)) else (clp (F_X9_within fu l3 5 x) (fun r_3 => (if r_3 = 0 then (some ((-1), x)) else (clp (F_X9_within fu l4 8 x) (fun r_4 => (if r_4 = 0 then (some ((-1), x)) else (clp (F_X9_within fu l5 65536 x) (fun r_5 => (if r_5 = 0 then (some ((-1), x)) else (clp (F_J6_bitCount_0f7a4 fu l5 x) (fun r_6 => (if r_6 < 1 then (some ((-1), x)) else (if r_6 ≤ 5 then (if (x 1 0) < 12 then (cl (F_X4_add fu l1 l2 l3 l4 l5 x) (fun r_7 x_8 => (some (r_7, x_8)))) else (some ((-3), x))) else (some ((-1), x)))))))))))))))))))))
set_option maxRecDepth 100000 in
set_option maxHeartbeats 4000000 in
theorem c_X9_pull (l : Launch) (D : va_G) (cy : ClassId) (ad : Nat → Nat) (fu : Nat) (l1 : Int32) (l2 : Int32) (l3 : Int32) (l4 : Int32) (l5 : Int32) (x : Mem) : Ct l D cy ad shX yX9_pull cX9_pull 7 (some .int) 2 80 [.ref (ad 0), .int l1, .int l2, .int l3, .int l4, .int l5] x (F_X9_pull fu l1 l2 l3 l4 l5 x) := by
  refine ct_of [some (.ref (ad 0)), some (.int l1), some (.int l2), some (.int l3), some (.int l4), some (.int l5), none] (by decide) (Nat.le_of_ble_eq_true rfl) rfl rfl ?_
  intro p e s m args below meth c A X
  have X : Cx p s m args meth c RX9 cX9_pull 7 (some .int) D cy ad shX A := X
  unfold F_X9_pull
  refine s_iload_n (pc := 0) X rfl dX9_pull_0 ?_
  refine s_iconst (pc := 1) X ic_4 dX9_pull_1 ?_
  refine s_callSp (pc := 2) (As := [.int l1, .int 4]) (st := []) X lk_RX9_78 (c_X9_within l D cy ad fu _ _ _) rfl rfl ⟨by decide, by decide⟩ (Nat.le_of_ble_eq_true rfl) dX9_pull_2 (fun r_1 => ?_)
  refine s_if_eq (pc := 5) X 45 rfl dX9_pull_5 ?_ ?_
  · refine s_iconst (pc := 45) X ic_m1 dX9_pull_45 ?_
    exact s_iret (pc := 46) X dX9_pull_46
  · refine s_iload_n (pc := 8) X rfl dX9_pull_8 ?_
    refine s_bipush (pc := 9) X bp_31 dX9_pull_9 ?_
    refine s_callSp (pc := 11) (As := [.int l2, .int 31]) (st := []) X lk_RX9_78 (c_X9_within l D cy ad fu _ _ _) rfl rfl ⟨by decide, by decide⟩ (Nat.le_of_ble_eq_true rfl) dX9_pull_11 (fun r_2 => ?_)
    refine s_if_eq (pc := 14) X 45 rfl dX9_pull_14 ?_ ?_
    · refine s_iconst (pc := 45) X ic_m1 dX9_pull_45 ?_
      exact s_iret (pc := 46) X dX9_pull_46
    · refine s_iload_n (pc := 17) X rfl dX9_pull_17 ?_
      refine s_iconst (pc := 18) X ic_5 dX9_pull_18 ?_
      refine s_callSp (pc := 19) (As := [.int l3, .int 5]) (st := []) X lk_RX9_78 (c_X9_within l D cy ad fu _ _ _) rfl rfl ⟨by decide, by decide⟩ (Nat.le_of_ble_eq_true rfl) dX9_pull_19 (fun r_3 => ?_)
      refine s_if_eq (pc := 22) X 45 rfl dX9_pull_22 ?_ ?_
      · refine s_iconst (pc := 45) X ic_m1 dX9_pull_45 ?_
        exact s_iret (pc := 46) X dX9_pull_46
      · refine s_iload (pc := 25) X rfl dX9_pull_25 ?_
        refine s_bipush (pc := 27) X bp_8 dX9_pull_27 ?_
        refine s_callSp (pc := 29) (As := [.int l4, .int 8]) (st := []) X lk_RX9_78 (c_X9_within l D cy ad fu _ _ _) rfl rfl ⟨by decide, by decide⟩ (Nat.le_of_ble_eq_true rfl) dX9_pull_29 (fun r_4 => ?_)
        refine s_if_eq (pc := 32) X 45 rfl dX9_pull_32 ?_ ?_
        · refine s_iconst (pc := 45) X ic_m1 dX9_pull_45 ?_
          exact s_iret (pc := 46) X dX9_pull_46
        · refine s_iload (pc := 35) X rfl dX9_pull_35 ?_
          refine s_ldc (pc := 37) X k_RX9_96 dX9_pull_37 ?_
          refine s_callSp (pc := 39) (As := [.int l5, .int 65536]) (st := []) X lk_RX9_78 (c_X9_within l D cy ad fu _ _ _) rfl rfl ⟨by decide, by decide⟩ (Nat.le_of_ble_eq_true rfl) dX9_pull_39 (fun r_5 => ?_)
          refine s_if_ne (pc := 42) X 47 rfl dX9_pull_42 ?_ ?_
          · refine s_iload (pc := 47) X rfl dX9_pull_47 ?_
            refine s_callSp (pc := 49) (As := [.int l5]) (st := []) X lk_RX9_97 (c_J6_bitCount_0f7a4 l D cy ad fu _ _) rfl rfl ⟨by decide, by decide⟩ (Nat.le_of_ble_eq_true rfl) dX9_pull_49 (fun r_6 => ?_)
            refine s_istore (pc := 52) X [some (.ref (ad 0)), some (.int l1), some (.int l2), some (.int l3), some (.int l4), some (.int l5), some (.int r_6)] rfl (by decide) dX9_pull_52 ?_
            refine s_iload (pc := 54) X rfl dX9_pull_54 ?_
            refine s_iconst (pc := 56) X ic_1 dX9_pull_56 ?_
            refine s_icmp_lt (pc := 57) X 66 rfl dX9_pull_57 ?_ ?_
            · refine s_iconst (pc := 66) X ic_m1 dX9_pull_66 ?_
              exact s_iret (pc := 67) X dX9_pull_67
            · refine s_iload (pc := 60) X rfl dX9_pull_60 ?_
              refine s_iconst (pc := 62) X ic_5 dX9_pull_62 ?_
              refine s_icmp_le (pc := 63) X 68 rfl dX9_pull_63 ?_ ?_
              · refine s_aload_n (pc := 68) X rfl dX9_pull_68 ?_
                refine s_getR (pc := 69) X shX_0 rfl fl_RX9_10 dX9_pull_69 ?_
                refine s_getI (pc := 72) X shX_1 rfl fl_RX9_103 dX9_pull_72 ?_
                refine s_bipush (pc := 75) X bp_12 dX9_pull_75 ?_
                refine s_icmp_lt (pc := 77) X 83 rfl dX9_pull_77 ?_ ?_
                · refine s_aload_n (pc := 83) X rfl dX9_pull_83 ?_
                  refine s_getR (pc := 84) X shX_0 rfl fl_RX9_10 dX9_pull_84 ?_
                  refine s_iload_n (pc := 87) X rfl dX9_pull_87 ?_
                  refine s_iload_n (pc := 88) X rfl dX9_pull_88 ?_
                  refine s_iload_n (pc := 89) X rfl dX9_pull_89 ?_
                  refine s_iload (pc := 90) X rfl dX9_pull_90 ?_
                  refine s_iload (pc := 92) X rfl dX9_pull_92 ?_
                  refine s_callV (pc := 94) (As := [.int l1, .int l2, .int l3, .int l4, .int l5]) (st := []) X lk_RX9_106 (c_X4_add l D cy ad fu _ _ _ _ _ _) shX_1 rfl rfl rfl rfl ⟨by decide, by decide⟩ (Nat.le_of_ble_eq_true rfl) dX9_pull_94 (fun r_7 x_8 => ?_)
                  exact s_iret (pc := 97) X dX9_pull_97
                · refine s_bipush (pc := 80) X bp_m3 dX9_pull_80 ?_
                  exact s_iret (pc := 82) X dX9_pull_82
              · refine s_iconst (pc := 66) X ic_m1 dX9_pull_66 ?_
                exact s_iret (pc := 67) X dX9_pull_67
          · refine s_iconst (pc := 45) X ic_m1 dX9_pull_45 ?_
            exact s_iret (pc := 46) X dX9_pull_46

-- X9_cross
def F_X9_cross (fu : Nat) (l1 : Int32) (l2 : Int32) (x : Mem) : Res :=
  (clp (F_X9_within fu l1 16 x) (fun r_1 => (if r_1 = 0 then (some ((-1), x)) else (clp (F_X9_within fu l2 16 x) (fun r_2 => (if r_2 = 0 then (some ((-1), x)) else (if l1 = l2 then (some ((-1), x)) else (clp (F_X8_areCrossed fu l1 l2 x) (fun r_3 => (if r_3 = 0 then (if (x 3 5) < 4 then (cl (F_X8_addPair fu l1 l2 x) (fun r_4 x_5 => (some (r_4, x_5)))) else (some ((-3), x))) else (some ((-2), x))))))))))))
set_option maxRecDepth 100000 in
set_option maxHeartbeats 4000000 in
theorem c_X9_cross (l : Launch) (D : va_G) (cy : ClassId) (ad : Nat → Nat) (fu : Nat) (l1 : Int32) (l2 : Int32) (x : Mem) : Ct l D cy ad shX yX9_cross cX9_cross 3 (some .int) 2 80 [.ref (ad 0), .int l1, .int l2] x (F_X9_cross fu l1 l2 x) := by
  refine ct_of [some (.ref (ad 0)), some (.int l1), some (.int l2)] (by decide) (Nat.le_of_ble_eq_true rfl) rfl rfl ?_
  intro p e s m args below meth c A X
  have X : Cx p s m args meth c RX9 cX9_cross 3 (some .int) D cy ad shX A := X
  unfold F_X9_cross
  refine s_iload_n (pc := 0) X rfl dX9_cross_0 ?_
  refine s_bipush (pc := 1) X bp_16 dX9_cross_1 ?_
  refine s_callSp (pc := 3) (As := [.int l1, .int 16]) (st := []) X lk_RX9_78 (c_X9_within l D cy ad fu _ _ _) rfl rfl ⟨by decide, by decide⟩ (Nat.le_of_ble_eq_true rfl) dX9_cross_3 (fun r_1 => ?_)
  refine s_if_eq (pc := 6) X 23 rfl dX9_cross_6 ?_ ?_
  · refine s_iconst (pc := 23) X ic_m1 dX9_cross_23 ?_
    exact s_iret (pc := 24) X dX9_cross_24
  · refine s_iload_n (pc := 9) X rfl dX9_cross_9 ?_
    refine s_bipush (pc := 10) X bp_16 dX9_cross_10 ?_
    refine s_callSp (pc := 12) (As := [.int l2, .int 16]) (st := []) X lk_RX9_78 (c_X9_within l D cy ad fu _ _ _) rfl rfl ⟨by decide, by decide⟩ (Nat.le_of_ble_eq_true rfl) dX9_cross_12 (fun r_2 => ?_)
    refine s_if_eq (pc := 15) X 23 rfl dX9_cross_15 ?_ ?_
    · refine s_iconst (pc := 23) X ic_m1 dX9_cross_23 ?_
      exact s_iret (pc := 24) X dX9_cross_24
    · refine s_iload_n (pc := 18) X rfl dX9_cross_18 ?_
      refine s_iload_n (pc := 19) X rfl dX9_cross_19 ?_
      refine s_icmp_ne (pc := 20) X 25 rfl dX9_cross_20 ?_ ?_
      · refine s_aload_n (pc := 25) X rfl dX9_cross_25 ?_
        refine s_getR (pc := 26) X shX_0 rfl fl_RX9_28 dX9_cross_26 ?_
        refine s_iload_n (pc := 29) X rfl dX9_cross_29 ?_
        refine s_iload_n (pc := 30) X rfl dX9_cross_30 ?_
        refine s_callVp (pc := 31) (As := [.int l1, .int l2]) (st := []) X lk_RX9_110 (c_X8_areCrossed l D cy ad fu _ _ _) shX_3 rfl rfl rfl rfl ⟨by decide, by decide⟩ (Nat.le_of_ble_eq_true rfl) dX9_cross_31 (fun r_3 => ?_)
        refine s_if_eq (pc := 34) X 40 rfl dX9_cross_34 ?_ ?_
        · refine s_aload_n (pc := 40) X rfl dX9_cross_40 ?_
          refine s_getR (pc := 41) X shX_0 rfl fl_RX9_28 dX9_cross_41 ?_
          refine s_getI (pc := 44) X shX_3 rfl fl_RX9_113 dX9_cross_44 ?_
          refine s_iconst (pc := 47) X ic_4 dX9_cross_47 ?_
          refine s_icmp_lt (pc := 48) X 54 rfl dX9_cross_48 ?_ ?_
          · refine s_aload_n (pc := 54) X rfl dX9_cross_54 ?_
            refine s_getR (pc := 55) X shX_0 rfl fl_RX9_28 dX9_cross_55 ?_
            refine s_iload_n (pc := 58) X rfl dX9_cross_58 ?_
            refine s_iload_n (pc := 59) X rfl dX9_cross_59 ?_
            refine s_callV (pc := 60) (As := [.int l1, .int l2]) (st := []) X lk_RX9_116 (c_X8_addPair l D cy ad fu _ _ _) shX_3 rfl rfl rfl rfl ⟨by decide, by decide⟩ (Nat.le_of_ble_eq_true rfl) dX9_cross_60 (fun r_4 x_5 => ?_)
            exact s_iret (pc := 63) X dX9_cross_63
          · refine s_bipush (pc := 51) X bp_m3 dX9_cross_51 ?_
            exact s_iret (pc := 53) X dX9_cross_53
        · refine s_bipush (pc := 37) X bp_m2 dX9_cross_37 ?_
          exact s_iret (pc := 39) X dX9_cross_39
      · refine s_iconst (pc := 23) X ic_m1 dX9_cross_23 ?_
        exact s_iret (pc := 24) X dX9_cross_24

-- X9_uncross
def F_X9_uncross (fu : Nat) (x : Mem) : Res :=
  (cl (F_X8_dropPairs fu x) (fun r_1 x_2 => (some (r_1, x_2))))
set_option maxRecDepth 100000 in
set_option maxHeartbeats 4000000 in
theorem c_X9_uncross (l : Launch) (D : va_G) (cy : ClassId) (ad : Nat → Nat) (fu : Nat) (x : Mem) : Ct l D cy ad shX yX9_uncross cX9_uncross 1 (some .int) 2 80 [.ref (ad 0)] x (F_X9_uncross fu x) := by
  refine ct_of [some (.ref (ad 0))] (by decide) (Nat.le_of_ble_eq_true rfl) rfl rfl ?_
  intro p e s m args below meth c A X
  have X : Cx p s m args meth c RX9 cX9_uncross 1 (some .int) D cy ad shX A := X
  unfold F_X9_uncross
  refine s_aload_n (pc := 0) X rfl dX9_uncross_0 ?_
  refine s_getR (pc := 1) X shX_0 rfl fl_RX9_28 dX9_uncross_1 ?_
  refine s_callV (pc := 4) (As := []) (st := []) X lk_RX9_119 (c_X8_dropPairs l D cy ad fu _) shX_3 rfl rfl rfl rfl ⟨by decide, by decide⟩ (Nat.le_of_ble_eq_true rfl) dX9_uncross_4 (fun r_1 x_2 => ?_)
  exact s_iret (pc := 7) X dX9_uncross_7

-- X9_force
def F_X9_force (fu : Nat) (l1 : Int32) (x : Mem) : Option Int32 :=
  (clp (F_X4_has fu l1 x) (fun r_1 => (if r_1 = 0 then (some (-1)) else (clp (F_X8_forceOf fu l1 x) (fun r_2 => (some r_2))))))
set_option maxRecDepth 100000 in
set_option maxHeartbeats 4000000 in
theorem c_X9_force (l : Launch) (D : va_G) (cy : ClassId) (ad : Nat → Nat) (fu : Nat) (l1 : Int32) (x : Mem) : Ct l D cy ad shX yX9_force cX9_force 2 (some .int) 4 160 [.ref (ad 0), .int l1] x (pr (F_X9_force fu l1 x) x) := by
  refine ct_of [some (.ref (ad 0)), some (.int l1)] (by decide) (Nat.le_of_ble_eq_true rfl) rfl rfl ?_
  intro p e s m args below meth c A X
  have X : Cx p s m args meth c RX9 cX9_force 2 (some .int) D cy ad shX A := X
  unfold F_X9_force
  refine s_aload_n (pc := 0) X rfl dX9_force_0 ?_
  refine s_getR (pc := 1) X shX_0 rfl fl_RX9_10 dX9_force_1 ?_
  refine s_iload_n (pc := 4) X rfl dX9_force_4 ?_
  refine p_callV (pc := 5) (As := [.int l1]) (st := []) X lk_RX9_123 (c_X4_has l D cy ad fu _ _) shX_1 rfl rfl rfl rfl ⟨by decide, by decide⟩ (Nat.le_of_ble_eq_true rfl) dX9_force_5 (fun r_1 => ?_)
  refine p_if_ne (pc := 8) X 13 rfl dX9_force_8 ?_ ?_
  · refine s_aload_n (pc := 13) X rfl dX9_force_13 ?_
    refine s_getR (pc := 14) X shX_0 rfl fl_RX9_28 dX9_force_14 ?_
    refine s_iload_n (pc := 17) X rfl dX9_force_17 ?_
    refine p_callV (pc := 18) (As := [.int l1]) (st := []) X lk_RX9_127 (c_X8_forceOf l D cy ad fu _ _) shX_3 rfl rfl rfl rfl ⟨by decide, by decide⟩ (Nat.le_of_ble_eq_true rfl) dX9_force_18 (fun r_2 => ?_)
    exact p_iret (pc := 21) X dX9_force_21
  · refine s_iconst (pc := 11) X ic_m1 dX9_force_11 ?_
    exact p_iret (pc := 12) X dX9_force_12

-- X9_would
def F_X9_would (fu : Nat) (l1 : Int32) (l2 : Int32) (x : Mem) : Option Int32 :=
  (clp (F_X4_has fu l1 x) (fun r_1 => (if r_1 = 0 then (some (-1)) else (clp (F_X9_within fu l2 8 x) (fun r_2 => (if r_2 = 0 then (some (-1)) else (letv ((1 : Int32) <<< (l2 &&& 31)) (fun l3_3 => (clp (F_X8_loudBells fu l1 x) (fun r_4 => (if (r_4 &&& l3_3) = 0 then (clp (F_X8_weakBells fu l1 x) (fun r_5 => (if (r_5 &&& l3_3) = 0 then (some 0) else (some 1)))) else (some 2))))))))))))
set_option maxRecDepth 100000 in
set_option maxHeartbeats 4000000 in
theorem c_X9_would (l : Launch) (D : va_G) (cy : ClassId) (ad : Nat → Nat) (fu : Nat) (l1 : Int32) (l2 : Int32) (x : Mem) : Ct l D cy ad shX yX9_would cX9_would 4 (some .int) 5 200 [.ref (ad 0), .int l1, .int l2] x (pr (F_X9_would fu l1 l2 x) x) := by
  refine ct_of [some (.ref (ad 0)), some (.int l1), some (.int l2), none] (by decide) (Nat.le_of_ble_eq_true rfl) rfl rfl ?_
  intro p e s m args below meth c A X
  have X : Cx p s m args meth c RX9 cX9_would 4 (some .int) D cy ad shX A := X
  unfold F_X9_would
  refine s_aload_n (pc := 0) X rfl dX9_would_0 ?_
  refine s_getR (pc := 1) X shX_0 rfl fl_RX9_10 dX9_would_1 ?_
  refine s_iload_n (pc := 4) X rfl dX9_would_4 ?_
  refine p_callV (pc := 5) (As := [.int l1]) (st := []) X lk_RX9_123 (c_X4_has l D cy ad fu _ _) shX_1 rfl rfl rfl rfl ⟨by decide, by decide⟩ (Nat.le_of_ble_eq_true rfl) dX9_would_5 (fun r_1 => ?_)
  refine p_if_eq (pc := 8) X 20 rfl dX9_would_8 ?_ ?_
  · refine s_iconst (pc := 20) X ic_m1 dX9_would_20 ?_
    exact p_iret (pc := 21) X dX9_would_21
  · refine s_iload_n (pc := 11) X rfl dX9_would_11 ?_
    refine s_bipush (pc := 12) X bp_8 dX9_would_12 ?_
    refine p_callS (pc := 14) (As := [.int l2, .int 8]) (st := []) X lk_RX9_78 (c_X9_within l D cy ad fu _ _ _) rfl rfl ⟨by decide, by decide⟩ (Nat.le_of_ble_eq_true rfl) dX9_would_14 (fun r_2 => ?_)
    refine p_if_ne (pc := 17) X 22 rfl dX9_would_17 ?_ ?_
    · refine s_iconst (pc := 22) X ic_1 dX9_would_22 ?_
      refine s_iload_n (pc := 23) X rfl dX9_would_23 ?_
      refine s_ishl (pc := 24) X dX9_would_24 ?_
      refine p_letv (fun l3_3 => ?_)
      refine s_istore_n (pc := 25) X [some (.ref (ad 0)), some (.int l1), some (.int l2), some (.int l3_3)] rfl (by decide) dX9_would_25 ?_
      refine s_aload_n (pc := 26) X rfl dX9_would_26 ?_
      refine s_getR (pc := 27) X shX_0 rfl fl_RX9_28 dX9_would_27 ?_
      refine s_iload_n (pc := 30) X rfl dX9_would_30 ?_
      refine p_callV (pc := 31) (As := [.int l1]) (st := []) X lk_RX9_130 (c_X8_loudBells l D cy ad fu _ _) shX_3 rfl rfl rfl rfl ⟨by decide, by decide⟩ (Nat.le_of_ble_eq_true rfl) dX9_would_31 (fun r_4 => ?_)
      refine s_iload_n (pc := 34) X rfl dX9_would_34 ?_
      refine s_iand (pc := 35) X dX9_would_35 ?_
      refine p_if_eq (pc := 36) X 41 rfl dX9_would_36 ?_ ?_
      · refine s_aload_n (pc := 41) X rfl dX9_would_41 ?_
        refine s_getR (pc := 42) X shX_0 rfl fl_RX9_28 dX9_would_42 ?_
        refine s_iload_n (pc := 45) X rfl dX9_would_45 ?_
        refine p_callV (pc := 46) (As := [.int l1]) (st := []) X lk_RX9_133 (c_X8_weakBells l D cy ad fu _ _) shX_3 rfl rfl rfl rfl ⟨by decide, by decide⟩ (Nat.le_of_ble_eq_true rfl) dX9_would_46 (fun r_5 => ?_)
        refine s_iload_n (pc := 49) X rfl dX9_would_49 ?_
        refine s_iand (pc := 50) X dX9_would_50 ?_
        refine p_if_eq (pc := 51) X 58 rfl dX9_would_51 ?_ ?_
        · refine s_iconst (pc := 58) X ic_0 dX9_would_58 ?_
          exact p_iret (pc := 59) X dX9_would_59
        · refine s_iconst (pc := 54) X ic_1 dX9_would_54 ?_
          refine s_goto (pc := 55) X 59 rfl dX9_would_55 ?_
          exact p_iret (pc := 59) X dX9_would_59
      · refine s_iconst (pc := 39) X ic_2 dX9_would_39 ?_
        exact p_iret (pc := 40) X dX9_would_40
    · refine s_iconst (pc := 20) X ic_m1 dX9_would_20 ?_
      exact p_iret (pc := 21) X dX9_would_21

-- X9_means
def F_X9_means (fu : Nat) (l1 : Int32) (l2 : Int32) (l3 : Int32) (x : Mem) : Option Int32 :=
  (if l1 < (-1) then (some (-1)) else (if (6 : Int32) ≤ l1 then (some (-1)) else (if l2 < 0 then (some (-1)) else (if (2 : Int32) < l2 then (some (-1)) else (if l3 < (-1) then (some (-1)) else (if l3 ≤ 255 then (clp (F_X0_ofTone fu l1 x) (fun r_1 => (jn (fun (k_2 : Int32 → Option Int32) => (if l3 = (-1) then (k_2 r_1) else (letv (r_1 &&& l3) (fun l4_3 => (k_2 l4_3))))) (fun l4_4 => (clp (F_X8_pullsThatRing fu l4_4 l2 x) (fun r_5 => (some r_5))))))) else (some (-1))))))))
set_option maxRecDepth 100000 in
set_option maxHeartbeats 4000000 in
theorem c_X9_means (l : Launch) (D : va_G) (cy : ClassId) (ad : Nat → Nat) (fu : Nat) (l1 : Int32) (l2 : Int32) (l3 : Int32) (x : Mem) : Ct l D cy ad shX yX9_means cX9_means 5 (some .int) 6 240 [.ref (ad 0), .int l1, .int l2, .int l3] x (pr (F_X9_means fu l1 l2 l3 x) x) := by
  refine ct_of [some (.ref (ad 0)), some (.int l1), some (.int l2), some (.int l3), none] (by decide) (Nat.le_of_ble_eq_true rfl) rfl rfl ?_
  intro p e s m args below meth c A X
  have X : Cx p s m args meth c RX9 cX9_means 5 (some .int) D cy ad shX A := X
  unfold F_X9_means
  refine s_iload_n (pc := 0) X rfl dX9_means_0 ?_
  refine s_iconst (pc := 1) X ic_m1 dX9_means_1 ?_
  refine p_icmp_lt (pc := 2) X 32 rfl dX9_means_2 ?_ ?_
  · refine s_iconst (pc := 32) X ic_m1 dX9_means_32 ?_
    exact p_iret (pc := 33) X dX9_means_33
  · refine s_iload_n (pc := 5) X rfl dX9_means_5 ?_
    refine s_bipush (pc := 6) X bp_6 dX9_means_6 ?_
    refine p_icmp_ge (pc := 8) X 32 rfl dX9_means_8 ?_ ?_
    · refine s_iconst (pc := 32) X ic_m1 dX9_means_32 ?_
      exact p_iret (pc := 33) X dX9_means_33
    · refine s_iload_n (pc := 11) X rfl dX9_means_11 ?_
      refine p_if_lt (pc := 12) X 32 rfl dX9_means_12 ?_ ?_
      · refine s_iconst (pc := 32) X ic_m1 dX9_means_32 ?_
        exact p_iret (pc := 33) X dX9_means_33
      · refine s_iload_n (pc := 15) X rfl dX9_means_15 ?_
        refine s_iconst (pc := 16) X ic_2 dX9_means_16 ?_
        refine p_icmp_gt (pc := 17) X 32 rfl dX9_means_17 ?_ ?_
        · refine s_iconst (pc := 32) X ic_m1 dX9_means_32 ?_
          exact p_iret (pc := 33) X dX9_means_33
        · refine s_iload_n (pc := 20) X rfl dX9_means_20 ?_
          refine s_iconst (pc := 21) X ic_m1 dX9_means_21 ?_
          refine p_icmp_lt (pc := 22) X 32 rfl dX9_means_22 ?_ ?_
          · refine s_iconst (pc := 32) X ic_m1 dX9_means_32 ?_
            exact p_iret (pc := 33) X dX9_means_33
          · refine s_iload_n (pc := 25) X rfl dX9_means_25 ?_
            refine s_sipush (pc := 26) X sp_255 dX9_means_26 ?_
            refine p_icmp_le (pc := 29) X 34 rfl dX9_means_29 ?_ ?_
            · refine s_aload_n (pc := 34) X rfl dX9_means_34 ?_
              refine s_getR (pc := 35) X shX_0 rfl fl_RX9_19 dX9_means_35 ?_
              refine s_iload_n (pc := 38) X rfl dX9_means_38 ?_
              refine p_callV (pc := 39) (As := [.int l1]) (st := []) X lk_RX9_136 (c_X0_ofTone l D cy ad fu _ _) shX_2 rfl rfl rfl rfl ⟨by decide, by decide⟩ (Nat.le_of_ble_eq_true rfl) dX9_means_39 (fun r_1 => ?_)
              refine s_istore (pc := 42) X [some (.ref (ad 0)), some (.int l1), some (.int l2), some (.int l3), some (.int r_1)] rfl (by decide) dX9_means_42 ?_
              refine s_iload_n (pc := 44) X rfl dX9_means_44 ?_
              refine s_iconst (pc := 45) X ic_m1 dX9_means_45 ?_
              refine p_jn (fun (k_2 : Int32 → Option Int32) => ∀ (l4_4 : Int32), Sim p l e ({ frames := 6, cells := 0, slots := 0, locals := 240 } : Room) s m args below meth c 5 (some .int) D cy ad shX A 55 [some (.ref (ad 0)), none, some (.int l2), none, some (.int l4_4)] [] x (pr (k_2 l4_4) x)) ?_ (fun k_2 hk_2 => ?_)
              · intro l4_4
                refine s_aload_n (pc := 55) X rfl dX9_means_55 ?_
                refine s_getR (pc := 56) X shX_0 rfl fl_RX9_28 dX9_means_56 ?_
                refine s_iload (pc := 59) X rfl dX9_means_59 ?_
                refine s_iload_n (pc := 61) X rfl dX9_means_61 ?_
                refine p_callV (pc := 62) (As := [.int l4_4, .int l2]) (st := []) X lk_RX9_139 (c_X8_pullsThatRing l D cy ad fu _ _ _) shX_3 rfl rfl rfl rfl ⟨by decide, by decide⟩ (Nat.le_of_ble_eq_true rfl) dX9_means_62 (fun r_5 => ?_)
                exact p_iret (pc := 65) X dX9_means_65
              · refine p_icmp_eq (pc := 46) X 55 rfl dX9_means_46 ?_ ?_
                · refine s_mask [true, false, true, false, true] ?_
                  exact hk_2 _
                · refine s_iload (pc := 49) X rfl dX9_means_49 ?_
                  refine s_iload_n (pc := 51) X rfl dX9_means_51 ?_
                  refine s_iand (pc := 52) X dX9_means_52 ?_
                  refine p_letv (fun l4_3 => ?_)
                  refine s_istore (pc := 53) X [some (.ref (ad 0)), some (.int l1), some (.int l2), some (.int l3), some (.int l4_3)] rfl (by decide) dX9_means_53 ?_
                  refine s_mask [true, false, true, false, true] ?_
                  exact hk_2 _
            · refine s_iconst (pc := 32) X ic_m1 dX9_means_32 ?_
              exact p_iret (pc := 33) X dX9_means_33

-- X9_servant
def F_X9_servant (fu : Nat) (l1 : Int32) (l2 : Int32) (l3 : Int32) (x : Mem) : Res :=
  (clp (F_X9_within fu l1 4 x) (fun r_1 => (if r_1 = 0 then (some ((-1), x)) else (clp (F_X9_within fu l2 31 x) (fun r_2 => (if r_2 = 0 then (some ((-1), x)) else (clp (F_X9_within fu l3 32 x) (fun r_3 => (if r_3 = 0 then (some ((-1), x)) else (if (x 4 0) < 5 then (cl (F_X5_add fu l1 l2 l3 x) (fun r_4 x_5 => (some (r_4, x_5)))) else (some ((-3), x))))))))))))
set_option maxRecDepth 100000 in
set_option maxHeartbeats 4000000 in
theorem c_X9_servant (l : Launch) (D : va_G) (cy : ClassId) (ad : Nat → Nat) (fu : Nat) (l1 : Int32) (l2 : Int32) (l3 : Int32) (x : Mem) : Ct l D cy ad shX yX9_servant cX9_servant 4 (some .int) 2 80 [.ref (ad 0), .int l1, .int l2, .int l3] x (F_X9_servant fu l1 l2 l3 x) := by
  refine ct_of [some (.ref (ad 0)), some (.int l1), some (.int l2), some (.int l3)] (by decide) (Nat.le_of_ble_eq_true rfl) rfl rfl ?_
  intro p e s m args below meth c A X
  have X : Cx p s m args meth c RX9 cX9_servant 4 (some .int) D cy ad shX A := X
  unfold F_X9_servant
  refine s_iload_n (pc := 0) X rfl dX9_servant_0 ?_
  refine s_iconst (pc := 1) X ic_4 dX9_servant_1 ?_
  refine s_callSp (pc := 2) (As := [.int l1, .int 4]) (st := []) X lk_RX9_78 (c_X9_within l D cy ad fu _ _ _) rfl rfl ⟨by decide, by decide⟩ (Nat.le_of_ble_eq_true rfl) dX9_servant_2 (fun r_1 => ?_)
  refine s_if_eq (pc := 5) X 26 rfl dX9_servant_5 ?_ ?_
  · refine s_iconst (pc := 26) X ic_m1 dX9_servant_26 ?_
    exact s_iret (pc := 27) X dX9_servant_27
  · refine s_iload_n (pc := 8) X rfl dX9_servant_8 ?_
    refine s_bipush (pc := 9) X bp_31 dX9_servant_9 ?_
    refine s_callSp (pc := 11) (As := [.int l2, .int 31]) (st := []) X lk_RX9_78 (c_X9_within l D cy ad fu _ _ _) rfl rfl ⟨by decide, by decide⟩ (Nat.le_of_ble_eq_true rfl) dX9_servant_11 (fun r_2 => ?_)
    refine s_if_eq (pc := 14) X 26 rfl dX9_servant_14 ?_ ?_
    · refine s_iconst (pc := 26) X ic_m1 dX9_servant_26 ?_
      exact s_iret (pc := 27) X dX9_servant_27
    · refine s_iload_n (pc := 17) X rfl dX9_servant_17 ?_
      refine s_bipush (pc := 18) X bp_32 dX9_servant_18 ?_
      refine s_callSp (pc := 20) (As := [.int l3, .int 32]) (st := []) X lk_RX9_78 (c_X9_within l D cy ad fu _ _ _) rfl rfl ⟨by decide, by decide⟩ (Nat.le_of_ble_eq_true rfl) dX9_servant_20 (fun r_3 => ?_)
      refine s_if_ne (pc := 23) X 28 rfl dX9_servant_23 ?_ ?_
      · refine s_aload_n (pc := 28) X rfl dX9_servant_28 ?_
        refine s_getR (pc := 29) X shX_0 rfl fl_RX9_35 dX9_servant_29 ?_
        refine s_getI (pc := 32) X shX_4 rfl fl_RX9_142 dX9_servant_32 ?_
        refine s_iconst (pc := 35) X ic_5 dX9_servant_35 ?_
        refine s_icmp_lt (pc := 36) X 42 rfl dX9_servant_36 ?_ ?_
        · refine s_aload_n (pc := 42) X rfl dX9_servant_42 ?_
          refine s_getR (pc := 43) X shX_0 rfl fl_RX9_35 dX9_servant_43 ?_
          refine s_iload_n (pc := 46) X rfl dX9_servant_46 ?_
          refine s_iload_n (pc := 47) X rfl dX9_servant_47 ?_
          refine s_iload_n (pc := 48) X rfl dX9_servant_48 ?_
          refine s_callV (pc := 49) (As := [.int l1, .int l2, .int l3]) (st := []) X lk_RX9_143 (c_X5_add l D cy ad fu _ _ _ _) shX_4 rfl rfl rfl rfl ⟨by decide, by decide⟩ (Nat.le_of_ble_eq_true rfl) dX9_servant_49 (fun r_4 x_5 => ?_)
          exact s_iret (pc := 52) X dX9_servant_52
        · refine s_bipush (pc := 39) X bp_m3 dX9_servant_39 ?_
          exact s_iret (pc := 41) X dX9_servant_41
      · refine s_iconst (pc := 26) X ic_m1 dX9_servant_26 ?_
        exact s_iret (pc := 27) X dX9_servant_27

-- X9_ring
def F_X9_ring (fu : Nat) (l1 : Int32) (x : Mem) : Res :=
  (clp (F_X4_has fu l1 x) (fun r_1 => (if r_1 = 0 then (some ((-1), x)) else (clp (F_X8_loudBells fu l1 x) (fun r_2 => (clp (F_X8_weakBells fu l1 x) (fun r_3 => (letv (r_2 ||| r_3) (fun l4_4 => (if l4_4 = 0 then (some (l4_4, x)) else (cl (F_X0_startSwinging fu r_2 r_3 x) (fun _ x_5 => (cl (F_X1_make fu l1 (x_5 6 3) x_5) (fun _ x_6 => (some (l4_4, x_6))))))))))))))))
set_option maxRecDepth 100000 in
set_option maxHeartbeats 4000000 in
theorem c_X9_ring (l : Launch) (D : va_G) (cy : ClassId) (ad : Nat → Nat) (fu : Nat) (l1 : Int32) (x : Mem) : Ct l D cy ad shX yX9_ring cX9_ring 5 (some .int) 5 200 [.ref (ad 0), .int l1] x (F_X9_ring fu l1 x) := by
  refine ct_of [some (.ref (ad 0)), some (.int l1), none, none, none] (by decide) (Nat.le_of_ble_eq_true rfl) rfl rfl ?_
  intro p e s m args below meth c A X
  have X : Cx p s m args meth c RX9 cX9_ring 5 (some .int) D cy ad shX A := X
  unfold F_X9_ring
  refine s_aload_n (pc := 0) X rfl dX9_ring_0 ?_
  refine s_getR (pc := 1) X shX_0 rfl fl_RX9_10 dX9_ring_1 ?_
  refine s_iload_n (pc := 4) X rfl dX9_ring_4 ?_
  refine s_callVp (pc := 5) (As := [.int l1]) (st := []) X lk_RX9_123 (c_X4_has l D cy ad fu _ _) shX_1 rfl rfl rfl rfl ⟨by decide, by decide⟩ (Nat.le_of_ble_eq_true rfl) dX9_ring_5 (fun r_1 => ?_)
  refine s_if_ne (pc := 8) X 13 rfl dX9_ring_8 ?_ ?_
  · refine s_aload_n (pc := 13) X rfl dX9_ring_13 ?_
    refine s_getR (pc := 14) X shX_0 rfl fl_RX9_28 dX9_ring_14 ?_
    refine s_iload_n (pc := 17) X rfl dX9_ring_17 ?_
    refine s_callVp (pc := 18) (As := [.int l1]) (st := []) X lk_RX9_130 (c_X8_loudBells l D cy ad fu _ _) shX_3 rfl rfl rfl rfl ⟨by decide, by decide⟩ (Nat.le_of_ble_eq_true rfl) dX9_ring_18 (fun r_2 => ?_)
    refine s_istore_n (pc := 21) X [some (.ref (ad 0)), some (.int l1), some (.int r_2), none, none] rfl (by decide) dX9_ring_21 ?_
    refine s_aload_n (pc := 22) X rfl dX9_ring_22 ?_
    refine s_getR (pc := 23) X shX_0 rfl fl_RX9_28 dX9_ring_23 ?_
    refine s_iload_n (pc := 26) X rfl dX9_ring_26 ?_
    refine s_callVp (pc := 27) (As := [.int l1]) (st := []) X lk_RX9_133 (c_X8_weakBells l D cy ad fu _ _) shX_3 rfl rfl rfl rfl ⟨by decide, by decide⟩ (Nat.le_of_ble_eq_true rfl) dX9_ring_27 (fun r_3 => ?_)
    refine s_istore_n (pc := 30) X [some (.ref (ad 0)), some (.int l1), some (.int r_2), some (.int r_3), none] rfl (by decide) dX9_ring_30 ?_
    refine s_iload_n (pc := 31) X rfl dX9_ring_31 ?_
    refine s_iload_n (pc := 32) X rfl dX9_ring_32 ?_
    refine s_ior (pc := 33) X dX9_ring_33 ?_
    refine s_letv (fun l4_4 => ?_)
    refine s_istore (pc := 34) X [some (.ref (ad 0)), some (.int l1), some (.int r_2), some (.int r_3), some (.int l4_4)] rfl (by decide) dX9_ring_34 ?_
    refine s_iload (pc := 36) X rfl dX9_ring_36 ?_
    refine s_if_eq (pc := 38) X 65 rfl dX9_ring_38 ?_ ?_
    · refine s_iload (pc := 65) X rfl dX9_ring_65 ?_
      exact s_iret (pc := 67) X dX9_ring_67
    · refine s_aload_n (pc := 41) X rfl dX9_ring_41 ?_
      refine s_getR (pc := 42) X shX_0 rfl fl_RX9_19 dX9_ring_42 ?_
      refine s_iload_n (pc := 45) X rfl dX9_ring_45 ?_
      refine s_iload_n (pc := 46) X rfl dX9_ring_46 ?_
      refine s_callV0 (pc := 47) (As := [.int r_2, .int r_3]) (st := []) X lk_RX9_146 (c_X0_startSwinging l D cy ad fu _ _ _) shX_2 rfl rfl rfl rfl ⟨by decide, by decide⟩ (Nat.le_of_ble_eq_true rfl) dX9_ring_47 (fun _ x_5 => ?_)
      refine s_aload_n (pc := 50) X rfl dX9_ring_50 ?_
      refine s_getR (pc := 51) X shX_0 rfl fl_RX9_42 dX9_ring_51 ?_
      refine s_iload_n (pc := 54) X rfl dX9_ring_54 ?_
      refine s_aload_n (pc := 55) X rfl dX9_ring_55 ?_
      refine s_getR (pc := 56) X shX_0 rfl fl_RX9_51 dX9_ring_56 ?_
      refine s_getI (pc := 59) X shX_6 rfl fl_RX9_150 dX9_ring_59 ?_
      refine s_callV0 (pc := 62) (As := [.int l1, .int (x_5 6 3)]) (st := []) X lk_RX9_153 (c_X1_make l D cy ad fu _ _ _) shX_5 rfl rfl rfl rfl ⟨by decide, by decide⟩ (Nat.le_of_ble_eq_true rfl) dX9_ring_62 (fun _ x_6 => ?_)
      refine s_iload (pc := 65) X rfl dX9_ring_65 ?_
      exact s_iret (pc := 67) X dX9_ring_67
  · refine s_iconst (pc := 11) X ic_m1 dX9_ring_11 ?_
    exact s_iret (pc := 12) X dX9_ring_12

-- X9_ticks
def L_X9_ticks_34 (fu : Nat) (l1 : Int32) : Nat → Int32 → Mem → (Mem → Res) → Res
  | 0, _, _, _ => none
  | n + 1, l2, x, K => (if l1 ≤ l2 then (K x) else (cl (F_X6_sendWhileAnyCan fu x) (fun _ x_1 => (cl (F_X0_swingLess fu x_1) (fun _ x_2 => (cl (F_X6_nextTick fu x_2) (fun _ x_3 => (L_X9_ticks_34 fu l1 n (l2 + 1) x_3 K))))))))
set_option maxRecDepth 100000 in
set_option maxHeartbeats 4000000 in
theorem tL_X9_ticks_34 {p : Program} {l : Launch} {e : Env} {s : State} {m : MethodId} {args : Array Value} {below : List Frame} {meth : Method} {c : Code} {D : va_G} {cy : ClassId} {ad : Nat → Nat} {A : Nat → Prop} {fu : Nat} (X : Cx p s m args meth c RX9 cX9_ticks 3 (some .int) D cy ad shX A) {l1 : Int32} {K : Mem → Res} (hK : ∀ (x : Mem), Sim p l e ({ frames := 6, cells := 0, slots := 0, locals := 240 } : Room) s m args below meth c 3 (some .int) D cy ad shX A 66 [some (.ref (ad 0)), none, none] [] x (K x)) : ∀ (n : Nat) (l2 : Int32) (x : Mem), Sim p l e ({ frames := 6, cells := 0, slots := 0, locals := 240 } : Room) s m args below meth c 3 (some .int) D cy ad shX A 34 [some (.ref (ad 0)), some (.int l1), some (.int l2)] [] x (L_X9_ticks_34 fu l1 n l2 x K) := by
  intro n
  induction n with
  | zero =>
    intro l2 x
    rw [L_X9_ticks_34]
    exact s_none
  | succ n ih =>
    intro l2 x
    rw [L_X9_ticks_34]
    refine s_iload_n (pc := 34) X rfl dX9_ticks_34 ?_
    refine s_iload_n (pc := 35) X rfl dX9_ticks_35 ?_
    refine s_icmp_ge (pc := 36) X 66 rfl dX9_ticks_36 ?_ ?_
    · refine s_mask [true, false, false] ?_
      exact hK _
    · refine s_aload_n (pc := 39) X rfl dX9_ticks_39 ?_
      refine s_getR (pc := 40) X shX_0 rfl fl_RX9_51 dX9_ticks_40 ?_
      refine s_callV0 (pc := 43) (As := []) (st := []) X lk_RX9_156 (c_X6_sendWhileAnyCan l D cy ad fu _) shX_6 rfl rfl rfl rfl ⟨by decide, by decide⟩ (Nat.le_of_ble_eq_true rfl) dX9_ticks_43 (fun _ x_1 => ?_)
      refine s_aload_n (pc := 46) X rfl dX9_ticks_46 ?_
      refine s_getR (pc := 47) X shX_0 rfl fl_RX9_19 dX9_ticks_47 ?_
      refine s_callV0 (pc := 50) (As := []) (st := []) X lk_RX9_159 (c_X0_swingLess l D cy ad fu _) shX_2 rfl rfl rfl rfl ⟨by decide, by decide⟩ (Nat.le_of_ble_eq_true rfl) dX9_ticks_50 (fun _ x_2 => ?_)
      refine s_aload_n (pc := 53) X rfl dX9_ticks_53 ?_
      refine s_getR (pc := 54) X shX_0 rfl fl_RX9_51 dX9_ticks_54 ?_
      refine s_callV0 (pc := 57) (As := []) (st := []) X lk_RX9_162 (c_X6_nextTick l D cy ad fu _) shX_6 rfl rfl rfl rfl ⟨by decide, by decide⟩ (Nat.le_of_ble_eq_true rfl) dX9_ticks_57 (fun _ x_3 => ?_)
      refine s_iinc (pc := 60) X [some (.ref (ad 0)), some (.int l1), some (.int (l2 + 1))] rfl (by decide) rfl ic_1 dX9_ticks_60 ?_
      refine s_goto (pc := 63) X 34 rfl dX9_ticks_63 ?_
      exact ih _ _

def F_X9_ticks (fu : Nat) (l1 : Int32) (x : Mem) : Res :=
  (if l1 < 1 then (some ((-1), x)) else (if l1 ≤ 200 then (if ((x 6 3) + l1) ≤ 5000 then (L_X9_ticks_34 fu l1 fu 0 x (fun x_4 => (some ((x_4 6 3), x_4)))) else (some ((-3), x))) else (some ((-1), x))))
set_option maxRecDepth 100000 in
set_option maxHeartbeats 4000000 in
theorem c_X9_ticks (l : Launch) (D : va_G) (cy : ClassId) (ad : Nat → Nat) (fu : Nat) (l1 : Int32) (x : Mem) : Ct l D cy ad shX yX9_ticks cX9_ticks 3 (some .int) 6 240 [.ref (ad 0), .int l1] x (F_X9_ticks fu l1 x) := by
  refine ct_of [some (.ref (ad 0)), some (.int l1), none] (by decide) (Nat.le_of_ble_eq_true rfl) rfl rfl ?_
  intro p e s m args below meth c A X
  have X : Cx p s m args meth c RX9 cX9_ticks 3 (some .int) D cy ad shX A := X
  unfold F_X9_ticks
  refine s_iload_n (pc := 0) X rfl dX9_ticks_0 ?_
  refine s_iconst (pc := 1) X ic_1 dX9_ticks_1 ?_
  refine s_icmp_lt (pc := 2) X 12 rfl dX9_ticks_2 ?_ ?_
  · refine s_iconst (pc := 12) X ic_m1 dX9_ticks_12 ?_
    exact s_iret (pc := 13) X dX9_ticks_13
  · refine s_iload_n (pc := 5) X rfl dX9_ticks_5 ?_
    refine s_sipush (pc := 6) X sp_200 dX9_ticks_6 ?_
    refine s_icmp_le (pc := 9) X 14 rfl dX9_ticks_9 ?_ ?_
    · refine s_aload_n (pc := 14) X rfl dX9_ticks_14 ?_
      refine s_getR (pc := 15) X shX_0 rfl fl_RX9_51 dX9_ticks_15 ?_
      refine s_getI (pc := 18) X shX_6 rfl fl_RX9_150 dX9_ticks_18 ?_
      refine s_iload_n (pc := 21) X rfl dX9_ticks_21 ?_
      refine s_iadd (pc := 22) X dX9_ticks_22 ?_
      refine s_sipush (pc := 23) X sp_5000 dX9_ticks_23 ?_
      refine s_icmp_le (pc := 26) X 32 rfl dX9_ticks_26 ?_ ?_
      · refine s_iconst (pc := 32) X ic_0 dX9_ticks_32 ?_
        refine s_istore_n (pc := 33) X [some (.ref (ad 0)), some (.int l1), some (.int 0)] rfl (by decide) dX9_ticks_33 ?_
        refine tL_X9_ticks_34 X (fun x_4 => ?_) fu _ _
        refine s_aload_n (pc := 66) X rfl dX9_ticks_66 ?_
        refine s_getR (pc := 67) X shX_0 rfl fl_RX9_51 dX9_ticks_67 ?_
        refine s_getI (pc := 70) X shX_6 rfl fl_RX9_150 dX9_ticks_70 ?_
        exact s_iret (pc := 73) X dX9_ticks_73
      · refine s_bipush (pc := 29) X bp_m3 dX9_ticks_29 ?_
        exact s_iret (pc := 31) X dX9_ticks_31
    · refine s_iconst (pc := 12) X ic_m1 dX9_ticks_12 ?_
      exact s_iret (pc := 13) X dX9_ticks_13

-- X9_takeBack
def F_X9_takeBack (fu : Nat) (l1 : Int32) (x : Mem) : Res :=
  (clp (F_X4_has fu l1 x) (fun r_1 => (if r_1 = 0 then (some ((-1), x)) else (clp (F_X1_isWaiting fu l1 x) (fun r_2 => (if r_2 = 0 then (some ((-2), x)) else (chk l1 12 (letv ((x 6 3) - (x 26 (l1 : Int32).toNatClampNeg)) (fun l2_3 => (cl (F_X1_drop fu l1 x) (fun _ x_4 => (some (l2_3, x_4)))))))))))))
set_option maxRecDepth 100000 in
set_option maxHeartbeats 4000000 in
theorem c_X9_takeBack (l : Launch) (D : va_G) (cy : ClassId) (ad : Nat → Nat) (fu : Nat) (l1 : Int32) (x : Mem) : Ct l D cy ad shX yX9_takeBack cX9_takeBack 3 (some .int) 3 120 [.ref (ad 0), .int l1] x (F_X9_takeBack fu l1 x) := by
  refine ct_of [some (.ref (ad 0)), some (.int l1), none] (by decide) (Nat.le_of_ble_eq_true rfl) rfl rfl ?_
  intro p e s m args below meth c A X
  have X : Cx p s m args meth c RX9 cX9_takeBack 3 (some .int) D cy ad shX A := X
  unfold F_X9_takeBack
  refine s_aload_n (pc := 0) X rfl dX9_takeBack_0 ?_
  refine s_getR (pc := 1) X shX_0 rfl fl_RX9_10 dX9_takeBack_1 ?_
  refine s_iload_n (pc := 4) X rfl dX9_takeBack_4 ?_
  refine s_callVp (pc := 5) (As := [.int l1]) (st := []) X lk_RX9_123 (c_X4_has l D cy ad fu _ _) shX_1 rfl rfl rfl rfl ⟨by decide, by decide⟩ (Nat.le_of_ble_eq_true rfl) dX9_takeBack_5 (fun r_1 => ?_)
  refine s_if_ne (pc := 8) X 13 rfl dX9_takeBack_8 ?_ ?_
  · refine s_aload_n (pc := 13) X rfl dX9_takeBack_13 ?_
    refine s_getR (pc := 14) X shX_0 rfl fl_RX9_42 dX9_takeBack_14 ?_
    refine s_iload_n (pc := 17) X rfl dX9_takeBack_17 ?_
    refine s_callVp (pc := 18) (As := [.int l1]) (st := []) X lk_RX9_165 (c_X1_isWaiting l D cy ad fu _ _) shX_5 rfl rfl rfl rfl ⟨by decide, by decide⟩ (Nat.le_of_ble_eq_true rfl) dX9_takeBack_18 (fun r_2 => ?_)
    refine s_if_ne (pc := 21) X 27 rfl dX9_takeBack_21 ?_ ?_
    · refine s_aload_n (pc := 27) X rfl dX9_takeBack_27 ?_
      refine s_getR (pc := 28) X shX_0 rfl fl_RX9_51 dX9_takeBack_28 ?_
      refine s_getI (pc := 31) X shX_6 rfl fl_RX9_150 dX9_takeBack_31 ?_
      refine s_aload_n (pc := 34) X rfl dX9_takeBack_34 ?_
      refine s_getR (pc := 35) X shX_0 rfl fl_RX9_42 dX9_takeBack_35 ?_
      refine s_getR (pc := 38) X shX_5 rfl fl_RX9_168 dX9_takeBack_38 ?_
      refine s_iload_n (pc := 41) X rfl dX9_takeBack_41 ?_
      refine s_iald (pc := 42) X shX_26 dX9_takeBack_42 ?_
      refine s_isub (pc := 43) X dX9_takeBack_43 ?_
      refine s_letv (fun l2_3 => ?_)
      refine s_istore_n (pc := 44) X [some (.ref (ad 0)), some (.int l1), some (.int l2_3)] rfl (by decide) dX9_takeBack_44 ?_
      refine s_aload_n (pc := 45) X rfl dX9_takeBack_45 ?_
      refine s_getR (pc := 46) X shX_0 rfl fl_RX9_42 dX9_takeBack_46 ?_
      refine s_iload_n (pc := 49) X rfl dX9_takeBack_49 ?_
      refine s_callV0 (pc := 50) (As := [.int l1]) (st := []) X lk_RX9_172 (c_X1_drop l D cy ad fu _ _) shX_5 rfl rfl rfl rfl ⟨by decide, by decide⟩ (Nat.le_of_ble_eq_true rfl) dX9_takeBack_50 (fun _ x_4 => ?_)
      refine s_iload_n (pc := 53) X rfl dX9_takeBack_53 ?_
      exact s_iret (pc := 54) X dX9_takeBack_54
    · refine s_bipush (pc := 24) X bp_m2 dX9_takeBack_24 ?_
      exact s_iret (pc := 26) X dX9_takeBack_26
  · refine s_iconst (pc := 11) X ic_m1 dX9_takeBack_11 ?_
    exact s_iret (pc := 12) X dX9_takeBack_12

-- X9_flags
def F_X9_flags (fu : Nat) (l1 : Int32) (x : Mem) : Res :=
  (clp (F_X9_within fu l1 ((1 : Int32) <<< ((x 1 0) &&& 31)) x) (fun r_1 => (if r_1 = 0 then (some ((-1), x)) else (letv ((x 5 5) &&& l1) (fun l2_2 => (letm (wr x 5 5 ((x 5 5) &&& (l1 ^^^ (-1)))) (fun x_3 => (some (l2_2, x_3)))))))))
set_option maxRecDepth 100000 in
set_option maxHeartbeats 4000000 in
theorem c_X9_flags (l : Launch) (D : va_G) (cy : ClassId) (ad : Nat → Nat) (fu : Nat) (l1 : Int32) (x : Mem) : Ct l D cy ad shX yX9_flags cX9_flags 3 (some .int) 2 80 [.ref (ad 0), .int l1] x (F_X9_flags fu l1 x) := by
  refine ct_of [some (.ref (ad 0)), some (.int l1), none] (by decide) (Nat.le_of_ble_eq_true rfl) rfl rfl ?_
  intro p e s m args below meth c A X
  have X : Cx p s m args meth c RX9 cX9_flags 3 (some .int) D cy ad shX A := X
  unfold F_X9_flags
  refine s_iload_n (pc := 0) X rfl dX9_flags_0 ?_
  refine s_iconst (pc := 1) X ic_1 dX9_flags_1 ?_
  refine s_aload_n (pc := 2) X rfl dX9_flags_2 ?_
  refine s_getR (pc := 3) X shX_0 rfl fl_RX9_10 dX9_flags_3 ?_
  refine s_getI (pc := 6) X shX_1 rfl fl_RX9_103 dX9_flags_6 ?_
  refine s_ishl (pc := 9) X dX9_flags_9 ?_
  refine s_callSp (pc := 10) (As := [.int l1, .int ((1 : Int32) <<< ((x 1 0) &&& 31))]) (st := []) X lk_RX9_78 (c_X9_within l D cy ad fu _ _ _) rfl rfl ⟨by decide, by decide⟩ (Nat.le_of_ble_eq_true rfl) dX9_flags_10 (fun r_1 => ?_)
  refine s_if_ne (pc := 13) X 18 rfl dX9_flags_13 ?_ ?_
  · refine s_aload_n (pc := 18) X rfl dX9_flags_18 ?_
    refine s_getR (pc := 19) X shX_0 rfl fl_RX9_42 dX9_flags_19 ?_
    refine s_getI (pc := 22) X shX_5 rfl fl_RX9_176 dX9_flags_22 ?_
    refine s_iload_n (pc := 25) X rfl dX9_flags_25 ?_
    refine s_iand (pc := 26) X dX9_flags_26 ?_
    refine s_letv (fun l2_2 => ?_)
    refine s_istore_n (pc := 27) X [some (.ref (ad 0)), some (.int l1), some (.int l2_2)] rfl (by decide) dX9_flags_27 ?_
    refine s_aload_n (pc := 28) X rfl dX9_flags_28 ?_
    refine s_getR (pc := 29) X shX_0 rfl fl_RX9_42 dX9_flags_29 ?_
    refine s_dup (pc := 32) X rfl dX9_flags_32 ?_
    refine s_getI (pc := 33) X shX_5 rfl fl_RX9_176 dX9_flags_33 ?_
    refine s_iload_n (pc := 36) X rfl dX9_flags_36 ?_
    refine s_iconst (pc := 37) X ic_m1 dX9_flags_37 ?_
    refine s_ixor (pc := 38) X dX9_flags_38 ?_
    refine s_iand (pc := 39) X dX9_flags_39 ?_
    refine s_put (pc := 40) X shX_5 rfl fp_RX9_176 dX9_flags_40 ?_
    refine s_letm (fun x_3 => ?_)
    refine s_iload_n (pc := 43) X rfl dX9_flags_43 ?_
    exact s_iret (pc := 44) X dX9_flags_44
  · refine s_iconst (pc := 16) X ic_m1 dX9_flags_16 ?_
    exact s_iret (pc := 17) X dX9_flags_17

-- X9_about
def F_X9_about (fu : Nat) (l1 : Int32) (l2 : Int32) (x : Mem) : Option Int32 :=
  (clp (F_X4_has fu l1 x) (fun r_1 => (if r_1 = 0 then (some (-1)) else (if l2 = 0 then (chk l1 12 (some (x 25 (l1 : Int32).toNatClampNeg))) else (if l2 = 1 then (some (((x 5 5) >>> (l1 &&& 31)) &&& 1)) else (if l2 = 2 then (chk l1 12 (some (x 27 (l1 : Int32).toNatClampNeg))) else (if l2 = 3 then (chk l1 12 (some (x 28 (l1 : Int32).toNatClampNeg))) else (if l2 = 4 then (chk l1 12 (some (x 29 (l1 : Int32).toNatClampNeg))) else (some (-1))))))))))
set_option maxRecDepth 100000 in
set_option maxHeartbeats 4000000 in
theorem c_X9_about (l : Launch) (D : va_G) (cy : ClassId) (ad : Nat → Nat) (fu : Nat) (l1 : Int32) (l2 : Int32) (x : Mem) : Ct l D cy ad shX yX9_about cX9_about 3 (some .int) 3 120 [.ref (ad 0), .int l1, .int l2] x (pr (F_X9_about fu l1 l2 x) x) := by
  refine ct_of [some (.ref (ad 0)), some (.int l1), some (.int l2)] (by decide) (Nat.le_of_ble_eq_true rfl) rfl rfl ?_
  intro p e s m args below meth c A X
  have X : Cx p s m args meth c RX9 cX9_about 3 (some .int) D cy ad shX A := X
  unfold F_X9_about
  refine s_aload_n (pc := 0) X rfl dX9_about_0 ?_
  refine s_getR (pc := 1) X shX_0 rfl fl_RX9_10 dX9_about_1 ?_
  refine s_iload_n (pc := 4) X rfl dX9_about_4 ?_
  refine p_callV (pc := 5) (As := [.int l1]) (st := []) X lk_RX9_123 (c_X4_has l D cy ad fu _ _) shX_1 rfl rfl rfl rfl ⟨by decide, by decide⟩ (Nat.le_of_ble_eq_true rfl) dX9_about_5 (fun r_1 => ?_)
  refine p_if_ne (pc := 8) X 13 rfl dX9_about_8 ?_ ?_
  · refine s_iload_n (pc := 13) X rfl dX9_about_13 ?_
    refine p_ite (fun e14_0 => ?_) (fun e14_0 => ?_)
    · refine s_tabI (pc := 14) X 48 (by rw [e14_0]; decide) (by rw [e14_0]; decide) (by rw [e14_0]; rfl) rfl dX9_about_14 ?_
      refine s_aload_n (pc := 48) X rfl dX9_about_48 ?_
      refine s_getR (pc := 49) X shX_0 rfl fl_RX9_42 dX9_about_49 ?_
      refine s_getR (pc := 52) X shX_5 rfl fl_RX9_179 dX9_about_52 ?_
      refine s_iload_n (pc := 55) X rfl dX9_about_55 ?_
      refine p_iald (pc := 56) X shX_25 dX9_about_56 ?_
      exact p_iret (pc := 57) X dX9_about_57
    · refine p_ite (fun e14_1 => ?_) (fun e14_1 => ?_)
      · refine s_tabI (pc := 14) X 58 (by rw [e14_1]; decide) (by rw [e14_1]; decide) (by rw [e14_1]; rfl) rfl dX9_about_14 ?_
        refine s_aload_n (pc := 58) X rfl dX9_about_58 ?_
        refine s_getR (pc := 59) X shX_0 rfl fl_RX9_42 dX9_about_59 ?_
        refine s_getI (pc := 62) X shX_5 rfl fl_RX9_176 dX9_about_62 ?_
        refine s_iload_n (pc := 65) X rfl dX9_about_65 ?_
        refine s_ishr (pc := 66) X dX9_about_66 ?_
        refine s_iconst (pc := 67) X ic_1 dX9_about_67 ?_
        refine s_iand (pc := 68) X dX9_about_68 ?_
        exact p_iret (pc := 69) X dX9_about_69
      · refine p_ite (fun e14_2 => ?_) (fun e14_2 => ?_)
        · refine s_tabI (pc := 14) X 70 (by rw [e14_2]; decide) (by rw [e14_2]; decide) (by rw [e14_2]; rfl) rfl dX9_about_14 ?_
          refine s_aload_n (pc := 70) X rfl dX9_about_70 ?_
          refine s_getR (pc := 71) X shX_0 rfl fl_RX9_42 dX9_about_71 ?_
          refine s_getR (pc := 74) X shX_5 rfl fl_RX9_182 dX9_about_74 ?_
          refine s_iload_n (pc := 77) X rfl dX9_about_77 ?_
          refine p_iald (pc := 78) X shX_27 dX9_about_78 ?_
          exact p_iret (pc := 79) X dX9_about_79
        · refine p_ite (fun e14_3 => ?_) (fun e14_3 => ?_)
          · refine s_tabI (pc := 14) X 80 (by rw [e14_3]; decide) (by rw [e14_3]; decide) (by rw [e14_3]; rfl) rfl dX9_about_14 ?_
            refine s_aload_n (pc := 80) X rfl dX9_about_80 ?_
            refine s_getR (pc := 81) X shX_0 rfl fl_RX9_42 dX9_about_81 ?_
            refine s_getR (pc := 84) X shX_5 rfl fl_RX9_185 dX9_about_84 ?_
            refine s_iload_n (pc := 87) X rfl dX9_about_87 ?_
            refine p_iald (pc := 88) X shX_28 dX9_about_88 ?_
            exact p_iret (pc := 89) X dX9_about_89
          · refine p_ite (fun e14_4 => ?_) (fun e14_4 => ?_)
            · refine s_tabI (pc := 14) X 90 (by rw [e14_4]; decide) (by rw [e14_4]; decide) (by rw [e14_4]; rfl) rfl dX9_about_14 ?_
              refine s_aload_n (pc := 90) X rfl dX9_about_90 ?_
              refine s_getR (pc := 91) X shX_0 rfl fl_RX9_42 dX9_about_91 ?_
              refine s_getR (pc := 94) X shX_5 rfl fl_RX9_188 dX9_about_94 ?_
              refine s_iload_n (pc := 97) X rfl dX9_about_97 ?_
              refine p_iald (pc := 98) X shX_29 dX9_about_98 ?_
              exact p_iret (pc := 99) X dX9_about_99
            · have hT : (l2 : Int32).toInt < (0 : Int) ∨ (4 : Int) < (l2 : Int32).toInt := tabO _ 4 (by decide) (fun k hk => by rcases (show k = 0 ∨ k = 1 ∨ k = 2 ∨ k = 3 ∨ k = 4 by omega) with rfl | rfl | rfl | rfl | rfl <;> first | exact e14_0 | exact e14_1 | exact e14_2 | exact e14_3 | exact e14_4)
              refine s_tabO (pc := 14) X 100 hT rfl dX9_about_14 ?_
              refine s_iconst (pc := 100) X ic_m1 dX9_about_100 ?_
              exact p_iret (pc := 101) X dX9_about_101
  · refine s_iconst (pc := 11) X ic_m1 dX9_about_11 ?_
    exact p_iret (pc := 12) X dX9_about_12

-- X9_servantTold
def F_X9_servantTold (fu : Nat) (l1 : Int32) (l2 : Int32) (x : Mem) : Option Int32 :=
  (clp (F_X9_within fu l1 (x 4 0) x) (fun r_1 => (if r_1 = 0 then (some (-1)) else (if l2 = 0 then (chk l1 5 (some (x 19 (l1 : Int32).toNatClampNeg))) else (if l2 = 1 then (chk l1 5 (some (x 20 (l1 : Int32).toNatClampNeg))) else (if l2 = 2 then (chk l1 5 (some (x 22 (l1 : Int32).toNatClampNeg))) else (if l2 = 3 then (clp (F_X5_isFree fu l1 x) (fun r_2 => (if r_2 = 0 then (chk l1 5 (some ((x 23 (l1 : Int32).toNatClampNeg) - (x 6 3)))) else (some 0)))) else (if l2 = 4 then (chk l1 5 (some (x 24 (l1 : Int32).toNatClampNeg))) else (some (-1))))))))))
set_option maxRecDepth 100000 in
set_option maxHeartbeats 4000000 in
theorem c_X9_servantTold (l : Launch) (D : va_G) (cy : ClassId) (ad : Nat → Nat) (fu : Nat) (l1 : Int32) (l2 : Int32) (x : Mem) : Ct l D cy ad shX yX9_servantTold cX9_servantTold 3 (some .int) 2 80 [.ref (ad 0), .int l1, .int l2] x (pr (F_X9_servantTold fu l1 l2 x) x) := by
  refine ct_of [some (.ref (ad 0)), some (.int l1), some (.int l2)] (by decide) (Nat.le_of_ble_eq_true rfl) rfl rfl ?_
  intro p e s m args below meth c A X
  have X : Cx p s m args meth c RX9 cX9_servantTold 3 (some .int) D cy ad shX A := X
  unfold F_X9_servantTold
  refine s_iload_n (pc := 0) X rfl dX9_servantTold_0 ?_
  refine s_aload_n (pc := 1) X rfl dX9_servantTold_1 ?_
  refine s_getR (pc := 2) X shX_0 rfl fl_RX9_35 dX9_servantTold_2 ?_
  refine s_getI (pc := 5) X shX_4 rfl fl_RX9_142 dX9_servantTold_5 ?_
  refine p_callS (pc := 8) (As := [.int l1, .int (x 4 0)]) (st := []) X lk_RX9_78 (c_X9_within l D cy ad fu _ _ _) rfl rfl ⟨by decide, by decide⟩ (Nat.le_of_ble_eq_true rfl) dX9_servantTold_8 (fun r_1 => ?_)
  refine p_if_ne (pc := 11) X 16 rfl dX9_servantTold_11 ?_ ?_
  · refine s_iload_n (pc := 16) X rfl dX9_servantTold_16 ?_
    refine p_ite (fun e17_0 => ?_) (fun e17_0 => ?_)
    · refine s_tabI (pc := 17) X 52 (by rw [e17_0]; decide) (by rw [e17_0]; decide) (by rw [e17_0]; rfl) rfl dX9_servantTold_17 ?_
      refine s_aload_n (pc := 52) X rfl dX9_servantTold_52 ?_
      refine s_getR (pc := 53) X shX_0 rfl fl_RX9_35 dX9_servantTold_53 ?_
      refine s_getR (pc := 56) X shX_4 rfl fl_RX9_191 dX9_servantTold_56 ?_
      refine s_iload_n (pc := 59) X rfl dX9_servantTold_59 ?_
      refine p_iald (pc := 60) X shX_19 dX9_servantTold_60 ?_
      exact p_iret (pc := 61) X dX9_servantTold_61
    · refine p_ite (fun e17_1 => ?_) (fun e17_1 => ?_)
      · refine s_tabI (pc := 17) X 62 (by rw [e17_1]; decide) (by rw [e17_1]; decide) (by rw [e17_1]; rfl) rfl dX9_servantTold_17 ?_
        refine s_aload_n (pc := 62) X rfl dX9_servantTold_62 ?_
        refine s_getR (pc := 63) X shX_0 rfl fl_RX9_35 dX9_servantTold_63 ?_
        refine s_getR (pc := 66) X shX_4 rfl fl_RX9_194 dX9_servantTold_66 ?_
        refine s_iload_n (pc := 69) X rfl dX9_servantTold_69 ?_
        refine p_iald (pc := 70) X shX_20 dX9_servantTold_70 ?_
        exact p_iret (pc := 71) X dX9_servantTold_71
      · refine p_ite (fun e17_2 => ?_) (fun e17_2 => ?_)
        · refine s_tabI (pc := 17) X 72 (by rw [e17_2]; decide) (by rw [e17_2]; decide) (by rw [e17_2]; rfl) rfl dX9_servantTold_17 ?_
          refine s_aload_n (pc := 72) X rfl dX9_servantTold_72 ?_
          refine s_getR (pc := 73) X shX_0 rfl fl_RX9_35 dX9_servantTold_73 ?_
          refine s_getR (pc := 76) X shX_4 rfl fl_RX9_197 dX9_servantTold_76 ?_
          refine s_iload_n (pc := 79) X rfl dX9_servantTold_79 ?_
          refine p_iald (pc := 80) X shX_22 dX9_servantTold_80 ?_
          exact p_iret (pc := 81) X dX9_servantTold_81
        · refine p_ite (fun e17_3 => ?_) (fun e17_3 => ?_)
          · refine s_tabI (pc := 17) X 82 (by rw [e17_3]; decide) (by rw [e17_3]; decide) (by rw [e17_3]; rfl) rfl dX9_servantTold_17 ?_
            refine s_aload_n (pc := 82) X rfl dX9_servantTold_82 ?_
            refine s_getR (pc := 83) X shX_0 rfl fl_RX9_35 dX9_servantTold_83 ?_
            refine s_iload_n (pc := 86) X rfl dX9_servantTold_86 ?_
            refine p_callV (pc := 87) (As := [.int l1]) (st := []) X lk_RX9_200 (c_X5_isFree l D cy ad fu _ _) shX_4 rfl rfl rfl rfl ⟨by decide, by decide⟩ (Nat.le_of_ble_eq_true rfl) dX9_servantTold_87 (fun r_2 => ?_)
            refine p_if_eq (pc := 90) X 97 rfl dX9_servantTold_90 ?_ ?_
            · refine s_aload_n (pc := 97) X rfl dX9_servantTold_97 ?_
              refine s_getR (pc := 98) X shX_0 rfl fl_RX9_35 dX9_servantTold_98 ?_
              refine s_getR (pc := 101) X shX_4 rfl fl_RX9_203 dX9_servantTold_101 ?_
              refine s_iload_n (pc := 104) X rfl dX9_servantTold_104 ?_
              refine p_iald (pc := 105) X shX_23 dX9_servantTold_105 ?_
              refine s_aload_n (pc := 106) X rfl dX9_servantTold_106 ?_
              refine s_getR (pc := 107) X shX_0 rfl fl_RX9_51 dX9_servantTold_107 ?_
              refine s_getI (pc := 110) X shX_6 rfl fl_RX9_150 dX9_servantTold_110 ?_
              refine s_isub (pc := 113) X dX9_servantTold_113 ?_
              exact p_iret (pc := 114) X dX9_servantTold_114
            · refine s_iconst (pc := 93) X ic_0 dX9_servantTold_93 ?_
              refine s_goto (pc := 94) X 114 rfl dX9_servantTold_94 ?_
              exact p_iret (pc := 114) X dX9_servantTold_114
          · refine p_ite (fun e17_4 => ?_) (fun e17_4 => ?_)
            · refine s_tabI (pc := 17) X 115 (by rw [e17_4]; decide) (by rw [e17_4]; decide) (by rw [e17_4]; rfl) rfl dX9_servantTold_17 ?_
              refine s_aload_n (pc := 115) X rfl dX9_servantTold_115 ?_
              refine s_getR (pc := 116) X shX_0 rfl fl_RX9_35 dX9_servantTold_116 ?_
              refine s_getR (pc := 119) X shX_4 rfl fl_RX9_206 dX9_servantTold_119 ?_
              refine s_iload_n (pc := 122) X rfl dX9_servantTold_122 ?_
              refine p_iald (pc := 123) X shX_24 dX9_servantTold_123 ?_
              exact p_iret (pc := 124) X dX9_servantTold_124
            · have hT : (l2 : Int32).toInt < (0 : Int) ∨ (4 : Int) < (l2 : Int32).toInt := tabO _ 4 (by decide) (fun k hk => by rcases (show k = 0 ∨ k = 1 ∨ k = 2 ∨ k = 3 ∨ k = 4 by omega) with rfl | rfl | rfl | rfl | rfl <;> first | exact e17_0 | exact e17_1 | exact e17_2 | exact e17_3 | exact e17_4)
              refine s_tabO (pc := 17) X 125 hT rfl dX9_servantTold_17 ?_
              refine s_iconst (pc := 125) X ic_m1 dX9_servantTold_125 ?_
              exact p_iret (pc := 126) X dX9_servantTold_126
  · refine s_iconst (pc := 14) X ic_m1 dX9_servantTold_14 ?_
    exact p_iret (pc := 15) X dX9_servantTold_15

-- X9_way
def F_X9_way (fu : Nat) (l1 : Int32) (l2 : Int32) (x : Mem) : Option Int32 :=
  (clp (F_X9_within fu l1 (x 4 0) x) (fun r_1 => (if r_1 = 0 then (some (-1)) else (clp (F_X4_has fu l2 x) (fun r_2 => (if r_2 = 0 then (some (-1)) else (chk l2 12 (chk l2 12 (clp (F_X5_wayTo fu l1 (x 10 (l2 : Int32).toNatClampNeg) (x 11 (l2 : Int32).toNatClampNeg) x) (fun r_3 => (some r_3)))))))))))
set_option maxRecDepth 100000 in
set_option maxHeartbeats 4000000 in
theorem c_X9_way (l : Launch) (D : va_G) (cy : ClassId) (ad : Nat → Nat) (fu : Nat) (l1 : Int32) (l2 : Int32) (x : Mem) : Ct l D cy ad shX yX9_way cX9_way 3 (some .int) 3 120 [.ref (ad 0), .int l1, .int l2] x (pr (F_X9_way fu l1 l2 x) x) := by
  refine ct_of [some (.ref (ad 0)), some (.int l1), some (.int l2)] (by decide) (Nat.le_of_ble_eq_true rfl) rfl rfl ?_
  intro p e s m args below meth c A X
  have X : Cx p s m args meth c RX9 cX9_way 3 (some .int) D cy ad shX A := X
  unfold F_X9_way
  refine s_iload_n (pc := 0) X rfl dX9_way_0 ?_
  refine s_aload_n (pc := 1) X rfl dX9_way_1 ?_
  refine s_getR (pc := 2) X shX_0 rfl fl_RX9_35 dX9_way_2 ?_
  refine s_getI (pc := 5) X shX_4 rfl fl_RX9_142 dX9_way_5 ?_
  refine p_callS (pc := 8) (As := [.int l1, .int (x 4 0)]) (st := []) X lk_RX9_78 (c_X9_within l D cy ad fu _ _ _) rfl rfl ⟨by decide, by decide⟩ (Nat.le_of_ble_eq_true rfl) dX9_way_8 (fun r_1 => ?_)
  refine p_if_eq (pc := 11) X 25 rfl dX9_way_11 ?_ ?_
  · refine s_iconst (pc := 25) X ic_m1 dX9_way_25 ?_
    exact p_iret (pc := 26) X dX9_way_26
  · refine s_aload_n (pc := 14) X rfl dX9_way_14 ?_
    refine s_getR (pc := 15) X shX_0 rfl fl_RX9_10 dX9_way_15 ?_
    refine s_iload_n (pc := 18) X rfl dX9_way_18 ?_
    refine p_callV (pc := 19) (As := [.int l2]) (st := []) X lk_RX9_123 (c_X4_has l D cy ad fu _ _) shX_1 rfl rfl rfl rfl ⟨by decide, by decide⟩ (Nat.le_of_ble_eq_true rfl) dX9_way_19 (fun r_2 => ?_)
    refine p_if_ne (pc := 22) X 27 rfl dX9_way_22 ?_ ?_
    · refine s_aload_n (pc := 27) X rfl dX9_way_27 ?_
      refine s_getR (pc := 28) X shX_0 rfl fl_RX9_35 dX9_way_28 ?_
      refine s_iload_n (pc := 31) X rfl dX9_way_31 ?_
      refine s_aload_n (pc := 32) X rfl dX9_way_32 ?_
      refine s_getR (pc := 33) X shX_0 rfl fl_RX9_10 dX9_way_33 ?_
      refine s_getR (pc := 36) X shX_1 rfl fl_RX9_207 dX9_way_36 ?_
      refine s_iload_n (pc := 39) X rfl dX9_way_39 ?_
      refine p_iald (pc := 40) X shX_10 dX9_way_40 ?_
      refine s_aload_n (pc := 41) X rfl dX9_way_41 ?_
      refine s_getR (pc := 42) X shX_0 rfl fl_RX9_10 dX9_way_42 ?_
      refine s_getR (pc := 45) X shX_1 rfl fl_RX9_208 dX9_way_45 ?_
      refine s_iload_n (pc := 48) X rfl dX9_way_48 ?_
      refine p_iald (pc := 49) X shX_11 dX9_way_49 ?_
      refine p_callV (pc := 50) (As := [.int l1, .int (x 10 (l2 : Int32).toNatClampNeg), .int (x 11 (l2 : Int32).toNatClampNeg)]) (st := []) X lk_RX9_209 (c_X5_wayTo l D cy ad fu _ _ _ _) shX_4 rfl rfl rfl rfl ⟨by decide, by decide⟩ (Nat.le_of_ble_eq_true rfl) dX9_way_50 (fun r_3 => ?_)
      exact p_iret (pc := 53) X dX9_way_53
    · refine s_iconst (pc := 25) X ic_m1 dX9_way_25 ?_
      exact p_iret (pc := 26) X dX9_way_26

-- X9_swings
def F_X9_swings (fu : Nat) (l1 : Int32) (x : Mem) : Option Int32 :=
  (if l1 = (-1) then (clp (F_X0_swinging fu x) (fun r_2 => (some r_2))) else (clp (F_X9_within fu l1 8 x) (fun r_1 => (if r_1 = 0 then (some (-1)) else (chk l1 8 (some (x 16 (l1 : Int32).toNatClampNeg)))))))
set_option maxRecDepth 100000 in
set_option maxHeartbeats 4000000 in
theorem c_X9_swings (l : Launch) (D : va_G) (cy : ClassId) (ad : Nat → Nat) (fu : Nat) (l1 : Int32) (x : Mem) : Ct l D cy ad shX yX9_swings cX9_swings 2 (some .int) 2 80 [.ref (ad 0), .int l1] x (pr (F_X9_swings fu l1 x) x) := by
  refine ct_of [some (.ref (ad 0)), some (.int l1)] (by decide) (Nat.le_of_ble_eq_true rfl) rfl rfl ?_
  intro p e s m args below meth c A X
  have X : Cx p s m args meth c RX9 cX9_swings 2 (some .int) D cy ad shX A := X
  unfold F_X9_swings
  refine s_iload_n (pc := 0) X rfl dX9_swings_0 ?_
  refine s_iconst (pc := 1) X ic_m1 dX9_swings_1 ?_
  refine p_icmp_ne (pc := 2) X 13 rfl dX9_swings_2 ?_ ?_
  · refine s_iload_n (pc := 13) X rfl dX9_swings_13 ?_
    refine s_bipush (pc := 14) X bp_8 dX9_swings_14 ?_
    refine p_callS (pc := 16) (As := [.int l1, .int 8]) (st := []) X lk_RX9_78 (c_X9_within l D cy ad fu _ _ _) rfl rfl ⟨by decide, by decide⟩ (Nat.le_of_ble_eq_true rfl) dX9_swings_16 (fun r_1 => ?_)
    refine p_if_ne (pc := 19) X 24 rfl dX9_swings_19 ?_ ?_
    · refine s_aload_n (pc := 24) X rfl dX9_swings_24 ?_
      refine s_getR (pc := 25) X shX_0 rfl fl_RX9_19 dX9_swings_25 ?_
      refine s_getR (pc := 28) X shX_2 rfl fl_RX9_215 dX9_swings_28 ?_
      refine s_iload_n (pc := 31) X rfl dX9_swings_31 ?_
      refine p_iald (pc := 32) X shX_16 dX9_swings_32 ?_
      exact p_iret (pc := 33) X dX9_swings_33
    · refine s_iconst (pc := 22) X ic_m1 dX9_swings_22 ?_
      exact p_iret (pc := 23) X dX9_swings_23
  · refine s_aload_n (pc := 5) X rfl dX9_swings_5 ?_
    refine s_getR (pc := 6) X shX_0 rfl fl_RX9_19 dX9_swings_6 ?_
    refine p_callV (pc := 9) (As := []) (st := []) X lk_RX9_212 (c_X0_swinging l D cy ad fu _) shX_2 rfl rfl rfl rfl ⟨by decide, by decide⟩ (Nat.le_of_ble_eq_true rfl) dX9_swings_9 (fun r_2 => ?_)
    exact p_iret (pc := 12) X dX9_swings_12
