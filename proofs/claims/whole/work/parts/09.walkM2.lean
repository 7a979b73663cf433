-- X10_shareOf
def L_X10_shareOf_7 (fu : Nat) (l1 : Int32) (x : Mem) : Nat → Int32 → Int32 → (Int32 → Option Int32) → Option Int32
  | 0, _, _, _ => none
  | n + 1, l3, l4, K => (if (x 0 34) ≤ l4 then (K l3) else (letv (l3 * 6) (fun l3_2 => (L_X10_shareOf_7 fu l1 x n l3_2 (l4 + 1) K))))
set_option maxRecDepth 100000 in
set_option maxHeartbeats 4000000 in
theorem tL_X10_shareOf_7 {p : Program} {l : Launch} {e : Env} {s : State} {m : MethodId} {args : Array Value} {below : List Frame} {meth : Method} {c : Code} {D : va_G} {cy : ClassId} {ad : Nat → Nat} {A : Nat → Prop} {fu : Nat} (X : Cx p s m args meth c RX10 cX10_shareOf 5 (some .int) D cy ad shM A) {l1 : Int32} {x : Mem} {K : Int32 → Option Int32} (hK : ∀ (l3 : Int32), Sim p l e ({ frames := 1, cells := 0, slots := 0, locals := 40 } : Room) s m args below meth c 5 (some .int) D cy ad shM A 27 [none, some (.int l1), none, some (.int l3), none] [] x (pr (K l3) x)) : ∀ (n : Nat) (l3 : Int32) (l4 : Int32), Sim p l e ({ frames := 1, cells := 0, slots := 0, locals := 40 } : Room) s m args below meth c 5 (some .int) D cy ad shM A 7 [some (.ref (ad 0)), some (.int l1), none, some (.int l3), some (.int l4)] [] x (pr (L_X10_shareOf_7 fu l1 x n l3 l4 K) x) := by
  intro n
  induction n with
  | zero =>
    intro l3 l4
    rw [L_X10_shareOf_7]
    exact p_none
  | succ n ih =>
    intro l3 l4
    rw [L_X10_shareOf_7]
    refine s_iload (pc := 7) X rfl dX10_shareOf_7 ?_
    refine s_aload_n (pc := 9) X rfl dX10_shareOf_9 ?_
    refine s_getI (pc := 10) X shM_0 rfl fl_RX10_184 dX10_shareOf_10 ?_
    refine p_icmp_ge (pc := 13) X 27 rfl dX10_shareOf_13 ?_ ?_
    · refine s_mask [false, true, false, true, false] ?_
      exact hK _
    · refine s_iload_n (pc := 16) X rfl dX10_shareOf_16 ?_
      refine s_bipush (pc := 17) X bp_6 dX10_shareOf_17 ?_
      refine s_imul (pc := 19) X dX10_shareOf_19 ?_
      refine p_letv (fun l3_2 => ?_)
      refine s_istore_n (pc := 20) X [some (.ref (ad 0)), some (.int l1), none, some (.int l3_2), some (.int l4)] rfl (by decide) dX10_shareOf_20 ?_
      refine s_iinc (pc := 21) X [some (.ref (ad 0)), some (.int l1), none, some (.int l3_2), some (.int (l4 + 1))] rfl (by decide) rfl ic_1 dX10_shareOf_21 ?_
      refine s_goto (pc := 24) X 7 rfl dX10_shareOf_24 ?_
      exact ih _ _

def F_X10_shareOf (fu : Nat) (l1 : Int32) (l2 : Int32) (x : Mem) : Option Int32 :=
  (letv (l2 + 1) (fun l4_1 => (L_X10_shareOf_7 fu l1 x fu 1 l4_1 (fun l3_3 => (nz l3_3 (nz 6 (some ((l1 / l3_3) - (l1 / l3_3) / 6 * 6))))))))
set_option maxRecDepth 100000 in
set_option maxHeartbeats 4000000 in
theorem c_X10_shareOf (l : Launch) (D : va_G) (cy : ClassId) (ad : Nat → Nat) (fu : Nat) (l1 : Int32) (l2 : Int32) (x : Mem) : Ct l D cy ad shM yX10_shareOf cX10_shareOf 5 (some .int) 1 40 [.ref (ad 0), .int l1, .int l2] x (pr (F_X10_shareOf fu l1 l2 x) x) := by
  refine ct_of [some (.ref (ad 0)), some (.int l1), some (.int l2), none, none] (by decide) (Nat.le_of_ble_eq_true rfl) rfl rfl ?_
  intro p e s m args below meth c A X
  have X : Cx p s m args meth c RX10 cX10_shareOf 5 (some .int) D cy ad shM A := X
  unfold F_X10_shareOf
  refine s_iconst (pc := 0) X ic_1 dX10_shareOf_0 ?_
  refine s_istore_n (pc := 1) X [some (.ref (ad 0)), some (.int l1), some (.int l2), some (.int 1), none] rfl (by decide) dX10_shareOf_1 ?_
  refine s_iload_n (pc := 2) X rfl dX10_shareOf_2 ?_
  refine s_iconst (pc := 3) X ic_1 dX10_shareOf_3 ?_
  refine s_iadd (pc := 4) X dX10_shareOf_4 ?_
  refine p_letv (fun l4_1 => ?_)
  refine s_istore (pc := 5) X [some (.ref (ad 0)), some (.int l1), some (.int l2), some (.int 1), some (.int l4_1)] rfl (by decide) dX10_shareOf_5 ?_
  refine s_mask [true, true, false, true, true] ?_
  refine tL_X10_shareOf_7 X (fun l3_3 => ?_) fu _ _
  refine s_iload_n (pc := 27) X rfl dX10_shareOf_27 ?_
  refine s_iload_n (pc := 28) X rfl dX10_shareOf_28 ?_
  refine p_idiv (pc := 29) X dX10_shareOf_29 ?_
  refine s_bipush (pc := 30) X bp_6 dX10_shareOf_30 ?_
  refine p_irem (pc := 32) X dX10_shareOf_32 ?_
  exact p_iret (pc := 33) X dX10_shareOf_33

-- X10_share
def L_X10_share_42 (fu : Nat) (l1 : Int32) (l2 : Int32) (x : Mem) : Nat → Int32 → (Res) → Res
  | 0, _, _ => none
  | n + 1, l3, K => (if (x 0 34) ≤ l3 then K else (chk l3 4 (if (x 26 (l3 : Int32).toNatClampNeg) = l1 then (clp (F_X10_shareOf fu l2 l3 x) (fun r_4 => (if (5 : Int32) ≤ r_4 then (L_X10_share_42 fu l1 l2 x n (l3 + 1) K) else (clp (F_X10_shareOf fu l2 l3 x) (fun r_5 => (some (r_5, x))))))) else (L_X10_share_42 fu l1 l2 x n (l3 + 1) K))))
set_option maxRecDepth 100000 in
set_option maxHeartbeats 4000000 in
theorem tL_X10_share_42 {p : Program} {l : Launch} {e : Env} {s : State} {m : MethodId} {args : Array Value} {below : List Frame} {meth : Method} {c : Code} {D : va_G} {cy : ClassId} {ad : Nat → Nat} {A : Nat → Prop} {fu : Nat} (X : Cx p s m args meth c RX10 cX10_share 4 (some .int) D cy ad shM A) {l1 : Int32} {l2 : Int32} {x : Mem} {K : Res} (hK : Sim p l e ({ frames := 5, cells := 0, slots := 0, locals := 200 } : Room) s m args below meth c 4 (some .int) D cy ad shM A 83 [none, none, none, none] [] x K) : ∀ (n : Nat) (l3 : Int32), Sim p l e ({ frames := 5, cells := 0, slots := 0, locals := 200 } : Room) s m args below meth c 4 (some .int) D cy ad shM A 42 [some (.ref (ad 0)), some (.int l1), some (.int l2), some (.int l3)] [] x (L_X10_share_42 fu l1 l2 x n l3 K) := by
  intro n
  induction n with
  | zero =>
    intro l3
    rw [L_X10_share_42]
    exact s_none
  | succ n ih =>
    intro l3
    rw [L_X10_share_42]
    refine s_iload_n (pc := 42) X rfl dX10_share_42 ?_
    refine s_aload_n (pc := 43) X rfl dX10_share_43 ?_
    refine s_getI (pc := 44) X shM_0 rfl fl_RX10_184 dX10_share_44 ?_
    refine s_icmp_ge (pc := 47) X 83 rfl dX10_share_47 ?_ ?_
    · refine s_mask [false, false, false, false] ?_
      exact hK
    · refine s_aload_n (pc := 50) X rfl dX10_share_50 ?_
      refine s_getR (pc := 51) X shM_0 rfl fl_RX10_85 dX10_share_51 ?_
      refine s_iload_n (pc := 54) X rfl dX10_share_54 ?_
      refine s_iald (pc := 55) X shM_26 dX10_share_55 ?_
      refine s_iload_n (pc := 56) X rfl dX10_share_56 ?_
      refine s_icmp_ne (pc := 57) X 77 rfl dX10_share_57 ?_ ?_
      · refine s_iinc (pc := 77) X [some (.ref (ad 0)), some (.int l1), some (.int l2), some (.int (l3 + 1))] rfl (by decide) rfl ic_1 dX10_share_77 ?_
        refine s_goto (pc := 80) X 42 rfl dX10_share_80 ?_
        exact ih _
      · refine s_aload_n (pc := 60) X rfl dX10_share_60 ?_
        refine s_iload_n (pc := 61) X rfl dX10_share_61 ?_
        refine s_iload_n (pc := 62) X rfl dX10_share_62 ?_
        refine s_callVp (pc := 63) (As := [.int l2, .int l3]) (st := []) X lk_RX10_201 (c_X10_shareOf l D cy ad fu _ _ _) shM_0 rfl rfl rfl rfl ⟨by decide, by decide⟩ (Nat.le_of_ble_eq_true rfl) dX10_share_63 (fun r_4 => ?_)
        refine s_iconst (pc := 66) X ic_5 dX10_share_66 ?_
        refine s_icmp_ge (pc := 67) X 77 rfl dX10_share_67 ?_ ?_
        · refine s_iinc (pc := 77) X [some (.ref (ad 0)), some (.int l1), some (.int l2), some (.int (l3 + 1))] rfl (by decide) rfl ic_1 dX10_share_77 ?_
          refine s_goto (pc := 80) X 42 rfl dX10_share_80 ?_
          exact ih _
        · refine s_aload_n (pc := 70) X rfl dX10_share_70 ?_
          refine s_iload_n (pc := 71) X rfl dX10_share_71 ?_
          refine s_iload_n (pc := 72) X rfl dX10_share_72 ?_
          refine s_callVp (pc := 73) (As := [.int l2, .int l3]) (st := []) X lk_RX10_201 (c_X10_shareOf l D cy ad fu _ _ _) shM_0 rfl rfl rfl rfl ⟨by decide, by decide⟩ (Nat.le_of_ble_eq_true rfl) dX10_share_73 (fun r_5 => ?_)
          exact s_iret (pc := 76) X dX10_share_76

def F_X10_share (fu : Nat) (l1 : Int32) (x : Mem) : Res :=
  (if l1 = (-1) then (clp (F_X10_waitingNow fu x) (fun r_1 => (if r_1 ≤ 4 then (cl (F_X10_shares fu x) (fun r_2 x_3 => (if 0 ≤ (l1 : Int32) then (L_X10_share_42 fu l1 r_2 x_3 fu 0 (some ((-4), x_3))) else (some ((x_3 0 35), x_3))))) else (some ((-2), x))))) else (clp (F_X10_isPull fu l1 x) (fun r_6 => (if r_6 = 0 then (some ((-1), x)) else (clp (F_X10_waitingNow fu x) (fun r_7 => (if r_7 ≤ 4 then (cl (F_X10_shares fu x) (fun r_8 x_9 => (if 0 ≤ (l1 : Int32) then (L_X10_share_42 fu l1 r_8 x_9 fu 0 (some ((-4), x_9))) else (some ((x_9 0 35), x_9))))) else (some ((-2), x)))))))))
set_option maxRecDepth 100000 in
set_option maxHeartbeats 4000000 in
theorem c_X10_share (l : Launch) (D : va_G) (cy : ClassId) (ad : Nat → Nat) (fu : Nat) (l1 : Int32) (x : Mem) : Ct l D cy ad shM yX10_share cX10_share 4 (some .int) 5 200 [.ref (ad 0), .int l1] x (F_X10_share fu l1 x) := by
  refine ct_of [some (.ref (ad 0)), some (.int l1), none, none] (by decide) (Nat.le_of_ble_eq_true rfl) rfl rfl ?_
  intro p e s m args below meth c A X
  have X : Cx p s m args meth c RX10 cX10_share 4 (some .int) D cy ad shM A := X
  unfold F_X10_share
  refine s_iload_n (pc := 0) X rfl dX10_share_0 ?_
  refine s_iconst (pc := 1) X ic_m1 dX10_share_1 ?_
  refine s_icmp_eq (pc := 2) X 15 rfl dX10_share_2 ?_ ?_
  · refine s_aload_n (pc := 15) X rfl dX10_share_15 ?_
    refine s_callVp (pc := 16) (As := []) (st := []) X lk_RX10_194 (c_X10_waitingNow l D cy ad fu _) shM_0 rfl rfl rfl rfl ⟨by decide, by decide⟩ (Nat.le_of_ble_eq_true rfl) dX10_share_16 (fun r_1 => ?_)
    refine s_iconst (pc := 19) X ic_4 dX10_share_19 ?_
    refine s_icmp_le (pc := 20) X 26 rfl dX10_share_20 ?_ ?_
    · refine s_aload_n (pc := 26) X rfl dX10_share_26 ?_
      refine s_callV (pc := 27) (As := []) (st := []) X lk_RX10_198 (c_X10_shares l D cy ad fu _) shM_0 rfl rfl rfl rfl ⟨by decide, by decide⟩ (Nat.le_of_ble_eq_true rfl) dX10_share_27 (fun r_2 x_3 => ?_)
      refine s_istore_n (pc := 30) X [some (.ref (ad 0)), some (.int l1), some (.int r_2), none] rfl (by decide) dX10_share_30 ?_
      refine s_iload_n (pc := 31) X rfl dX10_share_31 ?_
      refine s_if_ge (pc := 32) X 40 rfl dX10_share_32 ?_ ?_
      · refine s_iconst (pc := 40) X ic_0 dX10_share_40 ?_
        refine s_istore_n (pc := 41) X [some (.ref (ad 0)), some (.int l1), some (.int r_2), some (.int 0)] rfl (by decide) dX10_share_41 ?_
        refine tL_X10_share_42 X ?_ fu _
        refine s_bipush (pc := 83) X bp_m4 dX10_share_83 ?_
        exact s_iret (pc := 85) X dX10_share_85
      · refine s_aload_n (pc := 35) X rfl dX10_share_35 ?_
        refine s_getI (pc := 36) X shM_0 rfl fl_RX10_188 dX10_share_36 ?_
        exact s_iret (pc := 39) X dX10_share_39
    · refine s_bipush (pc := 23) X bp_m2 dX10_share_23 ?_
      exact s_iret (pc := 25) X dX10_share_25
  · refine s_aload_n (pc := 5) X rfl dX10_share_5 ?_
    refine s_iload_n (pc := 6) X rfl dX10_share_6 ?_
    refine s_callVp (pc := 7) (As := [.int l1]) (st := []) X lk_RX10_128 (c_X10_isPull l D cy ad fu _ _) shM_0 rfl rfl rfl rfl ⟨by decide, by decide⟩ (Nat.le_of_ble_eq_true rfl) dX10_share_7 (fun r_6 => ?_)
    refine s_if_ne (pc := 10) X 15 rfl dX10_share_10 ?_ ?_
    · refine s_aload_n (pc := 15) X rfl dX10_share_15 ?_
      refine s_callVp (pc := 16) (As := []) (st := []) X lk_RX10_194 (c_X10_waitingNow l D cy ad fu _) shM_0 rfl rfl rfl rfl ⟨by decide, by decide⟩ (Nat.le_of_ble_eq_true rfl) dX10_share_16 (fun r_7 => ?_)
      refine s_iconst (pc := 19) X ic_4 dX10_share_19 ?_
      refine s_icmp_le (pc := 20) X 26 rfl dX10_share_20 ?_ ?_
      · refine s_aload_n (pc := 26) X rfl dX10_share_26 ?_
        refine s_callV (pc := 27) (As := []) (st := []) X lk_RX10_198 (c_X10_shares l D cy ad fu _) shM_0 rfl rfl rfl rfl ⟨by decide, by decide⟩ (Nat.le_of_ble_eq_true rfl) dX10_share_27 (fun r_8 x_9 => ?_)
        refine s_istore_n (pc := 30) X [some (.ref (ad 0)), some (.int l1), some (.int r_8), none] rfl (by decide) dX10_share_30 ?_
        refine s_iload_n (pc := 31) X rfl dX10_share_31 ?_
        refine s_if_ge (pc := 32) X 40 rfl dX10_share_32 ?_ ?_
        · refine s_iconst (pc := 40) X ic_0 dX10_share_40 ?_
          refine s_istore_n (pc := 41) X [some (.ref (ad 0)), some (.int l1), some (.int r_8), some (.int 0)] rfl (by decide) dX10_share_41 ?_
          refine tL_X10_share_42 X ?_ fu _
          refine s_bipush (pc := 83) X bp_m4 dX10_share_83 ?_
          exact s_iret (pc := 85) X dX10_share_85
        · refine s_aload_n (pc := 35) X rfl dX10_share_35 ?_
          refine s_getI (pc := 36) X shM_0 rfl fl_RX10_188 dX10_share_36 ?_
          exact s_iret (pc := 39) X dX10_share_39
      · refine s_bipush (pc := 23) X bp_m2 dX10_share_23 ?_
        exact s_iret (pc := 25) X dX10_share_25
    · refine s_iconst (pc := 13) X ic_m1 dX10_share_13 ?_
      exact s_iret (pc := 14) X dX10_share_14

-- X10_send
def L_X10_send_20 (fu : Nat) (l1 : Int32) : Nat → Int32 → Int32 → Mem → (Int32 → Mem → Res) → Res
  | 0, _, _, _, _ => none
  | n + 1, l2, l3, x, K => (if (x 0 34) ≤ l3 then (K l2 x) else (clp (F_X10_shareOf fu l1 l3 x) (fun r_4 => (if (5 : Int32) ≤ r_4 then (L_X10_send_20 fu l1 n l2 (l3 + 1) x K) else (chk l3 4 (cl (F_X10_goes fu r_4 (x 26 (l3 : Int32).toNatClampNeg) x) (fun _ x_5 => (L_X10_send_20 fu l1 n (l2 + 1) (l3 + 1) x_5 K))))))))
set_option maxRecDepth 100000 in
set_option maxHeartbeats 4000000 in
theorem tL_X10_send_20 {p : Program} {l : Launch} {e : Env} {s : State} {m : MethodId} {args : Array Value} {below : List Frame} {meth : Method} {c : Code} {D : va_G} {cy : ClassId} {ad : Nat → Nat} {A : Nat → Prop} {fu : Nat} (X : Cx p s m args meth c RX10 cX10_send 5 (some .int) D cy ad shM A) {l1 : Int32} {K : Int32 → Mem → Res} (hK : ∀ (l2 : Int32) (x : Mem), Sim p l e ({ frames := 5, cells := 0, slots := 0, locals := 200 } : Room) s m args below meth c 5 (some .int) D cy ad shM A 63 [none, none, some (.int l2), none, none] [] x (K l2 x)) : ∀ (n : Nat) (l2 : Int32) (l3 : Int32) (x : Mem), Sim p l e ({ frames := 5, cells := 0, slots := 0, locals := 200 } : Room) s m args below meth c 5 (some .int) D cy ad shM A 20 [some (.ref (ad 0)), some (.int l1), some (.int l2), some (.int l3), none] [] x (L_X10_send_20 fu l1 n l2 l3 x K) := by
  intro n
  induction n with
  | zero =>
    intro l2 l3 x
    rw [L_X10_send_20]
    exact s_none
  | succ n ih =>
    intro l2 l3 x
    rw [L_X10_send_20]
    refine s_iload_n (pc := 20) X rfl dX10_send_20 ?_
    refine s_aload_n (pc := 21) X rfl dX10_send_21 ?_
    refine s_getI (pc := 22) X shM_0 rfl fl_RX10_184 dX10_send_22 ?_
    refine s_icmp_ge (pc := 25) X 63 rfl dX10_send_25 ?_ ?_
    · refine s_mask [false, false, true, false, false] ?_
      exact hK _ _
    · refine s_aload_n (pc := 28) X rfl dX10_send_28 ?_
      refine s_iload_n (pc := 29) X rfl dX10_send_29 ?_
      refine s_iload_n (pc := 30) X rfl dX10_send_30 ?_
      refine s_callVp (pc := 31) (As := [.int l1, .int l3]) (st := []) X lk_RX10_201 (c_X10_shareOf l D cy ad fu _ _ _) shM_0 rfl rfl rfl rfl ⟨by decide, by decide⟩ (Nat.le_of_ble_eq_true rfl) dX10_send_31 (fun r_4 => ?_)
      refine s_istore (pc := 34) X [some (.ref (ad 0)), some (.int l1), some (.int l2), some (.int l3), some (.int r_4)] rfl (by decide) dX10_send_34 ?_
      refine s_iload (pc := 36) X rfl dX10_send_36 ?_
      refine s_iconst (pc := 38) X ic_5 dX10_send_38 ?_
      refine s_icmp_ge (pc := 39) X 57 rfl dX10_send_39 ?_ ?_
      · refine s_iinc (pc := 57) X [some (.ref (ad 0)), some (.int l1), some (.int l2), some (.int (l3 + 1)), some (.int r_4)] rfl (by decide) rfl ic_1 dX10_send_57 ?_
        refine s_goto (pc := 60) X 20 rfl dX10_send_60 ?_
        refine s_mask [true, true, true, true, false] ?_
        exact ih _ _ _
      · refine s_aload_n (pc := 42) X rfl dX10_send_42 ?_
        refine s_iload (pc := 43) X rfl dX10_send_43 ?_
        refine s_aload_n (pc := 45) X rfl dX10_send_45 ?_
        refine s_getR (pc := 46) X shM_0 rfl fl_RX10_85 dX10_send_46 ?_
        refine s_iload_n (pc := 49) X rfl dX10_send_49 ?_
        refine s_iald (pc := 50) X shM_26 dX10_send_50 ?_
        refine s_callV0 (pc := 51) (As := [.int r_4, .int (x 26 (l3 : Int32).toNatClampNeg)]) (st := []) X lk_RX10_168 (c_X10_goes l D cy ad fu _ _ _) shM_0 rfl rfl rfl rfl ⟨by decide, by decide⟩ (Nat.le_of_ble_eq_true rfl) dX10_send_51 (fun _ x_5 => ?_)
        refine s_iinc (pc := 54) X [some (.ref (ad 0)), some (.int l1), some (.int (l2 + 1)), some (.int l3), some (.int r_4)] rfl (by decide) rfl ic_1 dX10_send_54 ?_
        refine s_iinc (pc := 57) X [some (.ref (ad 0)), some (.int l1), some (.int (l2 + 1)), some (.int (l3 + 1)), some (.int r_4)] rfl (by decide) rfl ic_1 dX10_send_57 ?_
        refine s_goto (pc := 60) X 20 rfl dX10_send_60 ?_
        refine s_mask [true, true, true, true, false] ?_
        exact ih _ _ _

def F_X10_send (fu : Nat) (x : Mem) : Res :=
  (clp (F_X10_waitingNow fu x) (fun r_1 => (if r_1 ≤ 4 then (cl (F_X10_shares fu x) (fun r_2 x_3 => (L_X10_send_20 fu r_2 fu 0 0 x_3 (fun l2_6 x_7 => (some (l2_6, x_7)))))) else (some ((-2), x)))))
set_option maxRecDepth 100000 in
set_option maxHeartbeats 4000000 in
theorem c_X10_send (l : Launch) (D : va_G) (cy : ClassId) (ad : Nat → Nat) (fu : Nat) (x : Mem) : Ct l D cy ad shM yX10_send cX10_send 5 (some .int) 5 200 [.ref (ad 0)] x (F_X10_send fu x) := by
  refine ct_of [some (.ref (ad 0)), none, none, none, none] (by decide) (Nat.le_of_ble_eq_true rfl) rfl rfl ?_
  intro p e s m args below meth c A X
  have X : Cx p s m args meth c RX10 cX10_send 5 (some .int) D cy ad shM A := X
  unfold F_X10_send
  refine s_aload_n (pc := 0) X rfl dX10_send_0 ?_
  refine s_callVp (pc := 1) (As := []) (st := []) X lk_RX10_194 (c_X10_waitingNow l D cy ad fu _) shM_0 rfl rfl rfl rfl ⟨by decide, by decide⟩ (Nat.le_of_ble_eq_true rfl) dX10_send_1 (fun r_1 => ?_)
  refine s_iconst (pc := 4) X ic_4 dX10_send_4 ?_
  refine s_icmp_le (pc := 5) X 11 rfl dX10_send_5 ?_ ?_
  · refine s_aload_n (pc := 11) X rfl dX10_send_11 ?_
    refine s_callV (pc := 12) (As := []) (st := []) X lk_RX10_198 (c_X10_shares l D cy ad fu _) shM_0 rfl rfl rfl rfl ⟨by decide, by decide⟩ (Nat.le_of_ble_eq_true rfl) dX10_send_12 (fun r_2 x_3 => ?_)
    refine s_istore_n (pc := 15) X [some (.ref (ad 0)), some (.int r_2), none, none, none] rfl (by decide) dX10_send_15 ?_
    refine s_iconst (pc := 16) X ic_0 dX10_send_16 ?_
    refine s_istore_n (pc := 17) X [some (.ref (ad 0)), some (.int r_2), some (.int 0), none, none] rfl (by decide) dX10_send_17 ?_
    refine s_iconst (pc := 18) X ic_0 dX10_send_18 ?_
    refine s_istore_n (pc := 19) X [some (.ref (ad 0)), some (.int r_2), some (.int 0), some (.int 0), none] rfl (by decide) dX10_send_19 ?_
    refine tL_X10_send_20 X (fun l2_6 x_7 => ?_) fu _ _ _
    refine s_iload_n (pc := 63) X rfl dX10_send_63 ?_
    exact s_iret (pc := 64) X dX10_send_64
  · refine s_bipush (pc := 8) X bp_m2 dX10_send_8 ?_
    exact s_iret (pc := 10) X dX10_send_10

-- X10_test
def F_X10_test (fu : Nat) (l1 : Int32) (l2 : Int32) (l3 : Int32) (x : Mem) : Res :=
  (clp (F_X10_isPull fu l1 x) (fun r_1 => (if r_1 = 0 then (some ((-1), x)) else (clp (F_X10_in fu l2 0 40 x) (fun r_2 => (if r_2 = 0 then (some ((-1), x)) else (clp (F_X10_in fu l3 (-1) 2 x) (fun r_3 => (if r_3 = 0 then (some ((-1), x)) else (if (x 0 28) = 12 then (some ((-3), x)) else (chk (x 0 28) 12 (letm (wr x 22 ((x 0 28) : Int32).toNatClampNeg l1) (fun x_4 => (chk (x_4 0 28) 12 (letm (wr x_4 23 ((x_4 0 28) : Int32).toNatClampNeg l2) (fun x_5 => (chk (x_5 0 28) 12 (letm (wr x_5 24 ((x_5 0 28) : Int32).toNatClampNeg l3) (fun x_6 => (letm (wr x_6 0 28 ((x_6 0 28) + 1)) (fun x_7 => (some ((x_7 0 28), x_7)))))))))))))))))))))))
set_option maxRecDepth 100000 in
set_option maxHeartbeats 4000000 in
theorem c_X10_test (l : Launch) (D : va_G) (cy : ClassId) (ad : Nat → Nat) (fu : Nat) (l1 : Int32) (l2 : Int32) (l3 : Int32) (x : Mem) : Ct l D cy ad shM yX10_test cX10_test 4 (some .int) 3 120 [.ref (ad 0), .int l1, .int l2, .int l3] x (F_X10_test fu l1 l2 l3 x) := by
  refine ct_of [some (.ref (ad 0)), some (.int l1), some (.int l2), some (.int l3)] (by decide) (Nat.le_of_ble_eq_true rfl) rfl rfl ?_
  intro p e s m args below meth c A X
  have X : Cx p s m args meth c RX10 cX10_test 4 (some .int) D cy ad shM A := X
  unfold F_X10_test
  refine s_aload_n (pc := 0) X rfl dX10_test_0 ?_
  refine s_iload_n (pc := 1) X rfl dX10_test_1 ?_
  refine s_callVp (pc := 2) (As := [.int l1]) (st := []) X lk_RX10_128 (c_X10_isPull l D cy ad fu _ _) shM_0 rfl rfl rfl rfl ⟨by decide, by decide⟩ (Nat.le_of_ble_eq_true rfl) dX10_test_2 (fun r_1 => ?_)
  refine s_if_eq (pc := 5) X 27 rfl dX10_test_5 ?_ ?_
  · refine s_iconst (pc := 27) X ic_m1 dX10_test_27 ?_
    exact s_iret (pc := 28) X dX10_test_28
  · refine s_iload_n (pc := 8) X rfl dX10_test_8 ?_
    refine s_iconst (pc := 9) X ic_0 dX10_test_9 ?_
    refine s_bipush (pc := 10) X bp_40 dX10_test_10 ?_
    refine s_callSp (pc := 12) (As := [.int l2, .int 0, .int 40]) (st := []) X lk_RX10_95 (c_X10_in l D cy ad fu _ _ _ _) rfl rfl ⟨by decide, by decide⟩ (Nat.le_of_ble_eq_true rfl) dX10_test_12 (fun r_2 => ?_)
    refine s_if_eq (pc := 15) X 27 rfl dX10_test_15 ?_ ?_
    · refine s_iconst (pc := 27) X ic_m1 dX10_test_27 ?_
      exact s_iret (pc := 28) X dX10_test_28
    · refine s_iload_n (pc := 18) X rfl dX10_test_18 ?_
      refine s_iconst (pc := 19) X ic_m1 dX10_test_19 ?_
      refine s_iconst (pc := 20) X ic_2 dX10_test_20 ?_
      refine s_callSp (pc := 21) (As := [.int l3, .int (-1), .int 2]) (st := []) X lk_RX10_95 (c_X10_in l D cy ad fu _ _ _ _) rfl rfl ⟨by decide, by decide⟩ (Nat.le_of_ble_eq_true rfl) dX10_test_21 (fun r_3 => ?_)
      refine s_if_ne (pc := 24) X 29 rfl dX10_test_24 ?_ ?_
      · refine s_aload_n (pc := 29) X rfl dX10_test_29 ?_
        refine s_getI (pc := 30) X shM_0 rfl fl_RX10_204 dX10_test_30 ?_
        refine s_bipush (pc := 33) X bp_12 dX10_test_33 ?_
        refine s_icmp_ne (pc := 35) X 41 rfl dX10_test_35 ?_ ?_
        · refine s_aload_n (pc := 41) X rfl dX10_test_41 ?_
          refine s_getR (pc := 42) X shM_0 rfl fl_RX10_73 dX10_test_42 ?_
          refine s_aload_n (pc := 45) X rfl dX10_test_45 ?_
          refine s_getI (pc := 46) X shM_0 rfl fl_RX10_204 dX10_test_46 ?_
          refine s_iload_n (pc := 49) X rfl dX10_test_49 ?_
          refine s_iast (pc := 50) X shM_22 dX10_test_50 ?_
          refine s_letm (fun x_4 => ?_)
          refine s_aload_n (pc := 51) X rfl dX10_test_51 ?_
          refine s_getR (pc := 52) X shM_0 rfl fl_RX10_76 dX10_test_52 ?_
          refine s_aload_n (pc := 55) X rfl dX10_test_55 ?_
          refine s_getI (pc := 56) X shM_0 rfl fl_RX10_204 dX10_test_56 ?_
          refine s_iload_n (pc := 59) X rfl dX10_test_59 ?_
          refine s_iast (pc := 60) X shM_23 dX10_test_60 ?_
          refine s_letm (fun x_5 => ?_)
          refine s_aload_n (pc := 61) X rfl dX10_test_61 ?_
          refine s_getR (pc := 62) X shM_0 rfl fl_RX10_79 dX10_test_62 ?_
          refine s_aload_n (pc := 65) X rfl dX10_test_65 ?_
          refine s_getI (pc := 66) X shM_0 rfl fl_RX10_204 dX10_test_66 ?_
          refine s_iload_n (pc := 69) X rfl dX10_test_69 ?_
          refine s_iast (pc := 70) X shM_24 dX10_test_70 ?_
          refine s_letm (fun x_6 => ?_)
          refine s_aload_n (pc := 71) X rfl dX10_test_71 ?_
          refine s_dup (pc := 72) X rfl dX10_test_72 ?_
          refine s_getI (pc := 73) X shM_0 rfl fl_RX10_204 dX10_test_73 ?_
          refine s_iconst (pc := 76) X ic_1 dX10_test_76 ?_
          refine s_iadd (pc := 77) X dX10_test_77 ?_
          refine s_put (pc := 78) X shM_0 rfl fp_RX10_204 dX10_test_78 ?_
          refine s_letm (fun x_7 => ?_)
          refine s_aload_n (pc := 81) X rfl dX10_test_81 ?_
          refine s_getI (pc := 82) X shM_0 rfl fl_RX10_204 dX10_test_82 ?_
          exact s_iret (pc := 85) X dX10_test_85
        · refine s_bipush (pc := 38) X bp_m3 dX10_test_38 ?_
          exact s_iret (pc := 40) X dX10_test_40
      · refine s_iconst (pc := 27) X ic_m1 dX10_test_27 ?_
        exact s_iret (pc := 28) X dX10_test_28

-- X10_noTests
def F_X10_noTests (fu : Nat) (x : Mem) : Res :=
  (letv (x 0 28) (fun l1_1 => (letm (wr x 0 28 0) (fun x_2 => (some (l1_1, x_2))))))
set_option maxRecDepth 100000 in
set_option maxHeartbeats 4000000 in
theorem c_X10_noTests (l : Launch) (D : va_G) (cy : ClassId) (ad : Nat → Nat) (fu : Nat) (x : Mem) : Ct l D cy ad shM yX10_noTests cX10_noTests 2 (some .int) 1 40 [.ref (ad 0)] x (F_X10_noTests fu x) := by
  refine ct_of [some (.ref (ad 0)), none] (by decide) (Nat.le_of_ble_eq_true rfl) rfl rfl ?_
  intro p e s m args below meth c A X
  have X : Cx p s m args meth c RX10 cX10_noTests 2 (some .int) D cy ad shM A := X
  unfold F_X10_noTests
  refine s_aload_n (pc := 0) X rfl dX10_noTests_0 ?_
  refine s_getI (pc := 1) X shM_0 rfl fl_RX10_204 dX10_noTests_1 ?_
  refine s_letv (fun l1_1 => ?_)
  refine s_istore_n (pc := 4) X [some (.ref (ad 0)), some (.int l1_1)] rfl (by decide) dX10_noTests_4 ?_
  refine s_aload_n (pc := 5) X rfl dX10_noTests_5 ?_
  refine s_iconst (pc := 6) X ic_0 dX10_noTests_6 ?_
  refine s_put (pc := 7) X shM_0 rfl fp_RX10_204 dX10_noTests_7 ?_
  refine s_letm (fun x_2 => ?_)
  refine s_iload_n (pc := 10) X rfl dX10_noTests_10 ?_
  exact s_iret (pc := 11) X dX10_noTests_11

-- X10_explains
def L_X10_explains_4 (fu : Nat) (l1 : Int32) (x : Mem) : Nat → Int32 → Int32 → (Int32 → Option Int32) → Option Int32
  | 0, _, _, _ => none
  | n + 1, l2, l3, K => (if (x 0 28) ≤ l3 then (K l2) else (if l2 = 0 then (L_X10_explains_4 fu l1 x n 0 (l3 + 1) K) else (chk l3 12 (if (x 24 (l3 : Int32).toNatClampNeg) < 0 then (L_X10_explains_4 fu l1 x n 1 (l3 + 1) K) else (chk l3 12 (chk l3 12 (clp (F_X10_ownBy fu (x 22 (l3 : Int32).toNatClampNeg) (x 23 (l3 : Int32).toNatClampNeg) l1 x) (fun r_1 => (chk l3 12 (if r_1 = (x 24 (l3 : Int32).toNatClampNeg) then (L_X10_explains_4 fu l1 x n 1 (l3 + 1) K) else (L_X10_explains_4 fu l1 x n 0 (l3 + 1) K)))))))))))
set_option maxRecDepth 100000 in
set_option maxHeartbeats 4000000 in
theorem tL_X10_explains_4 {p : Program} {l : Launch} {e : Env} {s : State} {m : MethodId} {args : Array Value} {below : List Frame} {meth : Method} {c : Code} {D : va_G} {cy : ClassId} {ad : Nat → Nat} {A : Nat → Prop} {fu : Nat} (X : Cx p s m args meth c RX10 cX10_explains 4 (some .boolean) D cy ad shM A) {l1 : Int32} {x : Mem} {K : Int32 → Option Int32} (hK : ∀ (l2 : Int32), Sim p l e ({ frames := 5, cells := 0, slots := 0, locals := 200 } : Room) s m args below meth c 4 (some .boolean) D cy ad shM A 63 [none, none, some (.int l2), none] [] x (pr (K l2) x)) : ∀ (n : Nat) (l2 : Int32) (l3 : Int32), Sim p l e ({ frames := 5, cells := 0, slots := 0, locals := 200 } : Room) s m args below meth c 4 (some .boolean) D cy ad shM A 4 [some (.ref (ad 0)), some (.int l1), some (.int l2), some (.int l3)] [] x (pr (L_X10_explains_4 fu l1 x n l2 l3 K) x) := by
  intro n
  induction n with
  | zero =>
    intro l2 l3
    rw [L_X10_explains_4]
    exact p_none
  | succ n ih =>
    intro l2 l3
    rw [L_X10_explains_4]
    refine s_iload_n (pc := 4) X rfl dX10_explains_4 ?_
    refine s_aload_n (pc := 5) X rfl dX10_explains_5 ?_
    refine s_getI (pc := 6) X shM_0 rfl fl_RX10_204 dX10_explains_6 ?_
    refine p_icmp_ge (pc := 9) X 63 rfl dX10_explains_9 ?_ ?_
    · refine s_mask [false, false, true, false] ?_
      exact hK _
    · refine s_iload_n (pc := 12) X rfl dX10_explains_12 ?_
      refine p_if_eq (pc := 13) X 55 rfl dX10_explains_13 ?_ ?_
      · refine s_iconst (pc := 55) X ic_0 dX10_explains_55 ?_
        refine s_istore_n (pc := 56) X [some (.ref (ad 0)), some (.int l1), some (.int 0), some (.int l3)] rfl (by decide) dX10_explains_56 ?_
        refine s_iinc (pc := 57) X [some (.ref (ad 0)), some (.int l1), some (.int 0), some (.int (l3 + 1))] rfl (by decide) rfl ic_1 dX10_explains_57 ?_
        refine s_goto (pc := 60) X 4 rfl dX10_explains_60 ?_
        exact ih _ _
      · refine s_aload_n (pc := 16) X rfl dX10_explains_16 ?_
        refine s_getR (pc := 17) X shM_0 rfl fl_RX10_79 dX10_explains_17 ?_
        refine s_iload_n (pc := 20) X rfl dX10_explains_20 ?_
        refine p_iald (pc := 21) X shM_24 dX10_explains_21 ?_
        refine p_if_lt (pc := 22) X 51 rfl dX10_explains_22 ?_ ?_
        · refine s_iconst (pc := 51) X ic_1 dX10_explains_51 ?_
          refine s_goto (pc := 52) X 56 rfl dX10_explains_52 ?_
          refine s_istore_n (pc := 56) X [some (.ref (ad 0)), some (.int l1), some (.int 1), some (.int l3)] rfl (by decide) dX10_explains_56 ?_
          refine s_iinc (pc := 57) X [some (.ref (ad 0)), some (.int l1), some (.int 1), some (.int (l3 + 1))] rfl (by decide) rfl ic_1 dX10_explains_57 ?_
          refine s_goto (pc := 60) X 4 rfl dX10_explains_60 ?_
          exact ih _ _
        · refine s_aload_n (pc := 25) X rfl dX10_explains_25 ?_
          refine s_aload_n (pc := 26) X rfl dX10_explains_26 ?_
          refine s_getR (pc := 27) X shM_0 rfl fl_RX10_73 dX10_explains_27 ?_
          refine s_iload_n (pc := 30) X rfl dX10_explains_30 ?_
          refine p_iald (pc := 31) X shM_22 dX10_explains_31 ?_
          refine s_aload_n (pc := 32) X rfl dX10_explains_32 ?_
          refine s_getR (pc := 33) X shM_0 rfl fl_RX10_76 dX10_explains_33 ?_
          refine s_iload_n (pc := 36) X rfl dX10_explains_36 ?_
          refine p_iald (pc := 37) X shM_23 dX10_explains_37 ?_
          refine s_iload_n (pc := 38) X rfl dX10_explains_38 ?_
          refine p_callV (pc := 39) (As := [.int (x 22 (l3 : Int32).toNatClampNeg), .int (x 23 (l3 : Int32).toNatClampNeg), .int l1]) (st := []) X lk_RX10_132 (c_X10_ownBy l D cy ad fu _ _ _ _) shM_0 rfl rfl rfl rfl ⟨by decide, by decide⟩ (Nat.le_of_ble_eq_true rfl) dX10_explains_39 (fun r_1 => ?_)
          refine s_aload_n (pc := 42) X rfl dX10_explains_42 ?_
          refine s_getR (pc := 43) X shM_0 rfl fl_RX10_79 dX10_explains_43 ?_
          refine s_iload_n (pc := 46) X rfl dX10_explains_46 ?_
          refine p_iald (pc := 47) X shM_24 dX10_explains_47 ?_
          refine p_icmp_ne (pc := 48) X 55 rfl dX10_explains_48 ?_ ?_
          · refine s_iconst (pc := 55) X ic_0 dX10_explains_55 ?_
            refine s_istore_n (pc := 56) X [some (.ref (ad 0)), some (.int l1), some (.int 0), some (.int l3)] rfl (by decide) dX10_explains_56 ?_
            refine s_iinc (pc := 57) X [some (.ref (ad 0)), some (.int l1), some (.int 0), some (.int (l3 + 1))] rfl (by decide) rfl ic_1 dX10_explains_57 ?_
            refine s_goto (pc := 60) X 4 rfl dX10_explains_60 ?_
            exact ih _ _
          · refine s_iconst (pc := 51) X ic_1 dX10_explains_51 ?_
            refine s_goto (pc := 52) X 56 rfl dX10_explains_52 ?_
            refine s_istore_n (pc := 56) X [some (.ref (ad 0)), some (.int l1), some (.int 1), some (.int l3)] rfl (by decide) dX10_explains_56 ?_
            refine s_iinc (pc := 57) X [some (.ref (ad 0)), some (.int l1), some (.int 1), some (.int (l3 + 1))] rfl (by decide) rfl ic_1 dX10_explains_57 ?_
            refine s_goto (pc := 60) X 4 rfl dX10_explains_60 ?_
            exact ih _ _

def F_X10_explains (fu : Nat) (l1 : Int32) (x : Mem) : Option Int32 :=
  (L_X10_explains_4 fu l1 x fu 1 0 (fun l2_2 => (retzp l2_2)))
set_option maxRecDepth 100000 in
set_option maxHeartbeats 4000000 in
theorem c_X10_explains (l : Launch) (D : va_G) (cy : ClassId) (ad : Nat → Nat) (fu : Nat) (l1 : Int32) (x : Mem) : Ct l D cy ad shM yX10_explains cX10_explains 4 (some .boolean) 5 200 [.ref (ad 0), .int l1] x (pr (F_X10_explains fu l1 x) x) := by
  refine ct_of [some (.ref (ad 0)), some (.int l1), none, none] (by decide) (Nat.le_of_ble_eq_true rfl) rfl rfl ?_
  intro p e s m args below meth c A X
  have X : Cx p s m args meth c RX10 cX10_explains 4 (some .boolean) D cy ad shM A := X
  unfold F_X10_explains
  refine s_iconst (pc := 0) X ic_1 dX10_explains_0 ?_
  refine s_istore_n (pc := 1) X [some (.ref (ad 0)), some (.int l1), some (.int 1), none] rfl (by decide) dX10_explains_1 ?_
  refine s_iconst (pc := 2) X ic_0 dX10_explains_2 ?_
  refine s_istore_n (pc := 3) X [some (.ref (ad 0)), some (.int l1), some (.int 1), some (.int 0)] rfl (by decide) dX10_explains_3 ?_
  refine tL_X10_explains_4 X (fun l2_2 => ?_) fu _ _
  refine s_iload_n (pc := 63) X rfl dX10_explains_63 ?_
  exact p_zret (pc := 64) X dX10_explains_64

-- X10_fault
def L_X10_fault_11 (fu : Nat) (l1 : Int32) (x : Mem) : Nat → Int32 → Int32 → (Int32 → Option Int32) → Option Int32
  | 0, _, _, _ => none
  | n + 1, l2, l3, K => (if (168 : Int32) ≤ l3 then (K l2) else (clp (F_X10_explains fu l3 x) (fun r_1 => (if r_1 = 0 then (L_X10_fault_11 fu l1 x n l2 (l3 + 1) K) else (if l2 = l1 then (some l3) else (L_X10_fault_11 fu l1 x n (l2 + 1) (l3 + 1) K))))))
set_option maxRecDepth 100000 in
set_option maxHeartbeats 4000000 in
theorem tL_X10_fault_11 {p : Program} {l : Launch} {e : Env} {s : State} {m : MethodId} {args : Array Value} {below : List Frame} {meth : Method} {c : Code} {D : va_G} {cy : ClassId} {ad : Nat → Nat} {A : Nat → Prop} {fu : Nat} (X : Cx p s m args meth c RX10 cX10_fault 4 (some .int) D cy ad shM A) {l1 : Int32} {x : Mem} {K : Int32 → Option Int32} (hK : ∀ (l2 : Int32), Sim p l e ({ frames := 6, cells := 0, slots := 0, locals := 240 } : Room) s m args below meth c 4 (some .int) D cy ad shM A 42 [none, some (.int l1), some (.int l2), none] [] x (pr (K l2) x)) : ∀ (n : Nat) (l2 : Int32) (l3 : Int32), Sim p l e ({ frames := 6, cells := 0, slots := 0, locals := 240 } : Room) s m args below meth c 4 (some .int) D cy ad shM A 11 [some (.ref (ad 0)), some (.int l1), some (.int l2), some (.int l3)] [] x (pr (L_X10_fault_11 fu l1 x n l2 l3 K) x) := by
  intro n
  induction n with
  | zero =>
    intro l2 l3
    rw [L_X10_fault_11]
    exact p_none
  | succ n ih =>
    intro l2 l3
    rw [L_X10_fault_11]
    refine s_iload_n (pc := 11) X rfl dX10_fault_11 ?_
    refine s_sipush (pc := 12) X sp_168 dX10_fault_12 ?_
    refine p_icmp_ge (pc := 15) X 42 rfl dX10_fault_15 ?_ ?_
    · refine s_mask [false, true, true, false] ?_
      exact hK _
    · refine s_aload_n (pc := 18) X rfl dX10_fault_18 ?_
      refine s_iload_n (pc := 19) X rfl dX10_fault_19 ?_
      refine p_callV (pc := 20) (As := [.int l3]) (st := []) X lk_RX10_207 (c_X10_explains l D cy ad fu _ _) shM_0 rfl rfl rfl rfl ⟨by decide, by decide⟩ (Nat.le_of_ble_eq_true rfl) dX10_fault_20 (fun r_1 => ?_)
      refine p_if_eq (pc := 23) X 36 rfl dX10_fault_23 ?_ ?_
      · refine s_iinc (pc := 36) X [some (.ref (ad 0)), some (.int l1), some (.int l2), some (.int (l3 + 1))] rfl (by decide) rfl ic_1 dX10_fault_36 ?_
        refine s_goto (pc := 39) X 11 rfl dX10_fault_39 ?_
        exact ih _ _
      · refine s_iload_n (pc := 26) X rfl dX10_fault_26 ?_
        refine s_iload_n (pc := 27) X rfl dX10_fault_27 ?_
        refine p_icmp_ne (pc := 28) X 33 rfl dX10_fault_28 ?_ ?_
        · refine s_iinc (pc := 33) X [some (.ref (ad 0)), some (.int l1), some (.int (l2 + 1)), some (.int l3)] rfl (by decide) rfl ic_1 dX10_fault_33 ?_
          refine s_iinc (pc := 36) X [some (.ref (ad 0)), some (.int l1), some (.int (l2 + 1)), some (.int (l3 + 1))] rfl (by decide) rfl ic_1 dX10_fault_36 ?_
          refine s_goto (pc := 39) X 11 rfl dX10_fault_39 ?_
          exact ih _ _
        · refine s_iload_n (pc := 31) X rfl dX10_fault_31 ?_
          exact p_iret (pc := 32) X dX10_fault_32

def F_X10_fault (fu : Nat) (l1 : Int32) (x : Mem) : Option Int32 :=
  (if (-1) ≤ l1 then (L_X10_fault_11 fu l1 x fu 0 0 (fun l2_2 => (if 0 ≤ (l1 : Int32) then (some (-4)) else (some l2_2)))) else (some (-1)))
set_option maxRecDepth 100000 in
set_option maxHeartbeats 4000000 in
theorem c_X10_fault (l : Launch) (D : va_G) (cy : ClassId) (ad : Nat → Nat) (fu : Nat) (l1 : Int32) (x : Mem) : Ct l D cy ad shM yX10_fault cX10_fault 4 (some .int) 6 240 [.ref (ad 0), .int l1] x (pr (F_X10_fault fu l1 x) x) := by
  refine ct_of [some (.ref (ad 0)), some (.int l1), none, none] (by decide) (Nat.le_of_ble_eq_true rfl) rfl rfl ?_
  intro p e s m args below meth c A X
  have X : Cx p s m args meth c RX10 cX10_fault 4 (some .int) D cy ad shM A := X
  unfold F_X10_fault
  refine s_iload_n (pc := 0) X rfl dX10_fault_0 ?_
  refine s_iconst (pc := 1) X ic_m1 dX10_fault_1 ?_
  refine p_icmp_ge (pc := 2) X 7 rfl dX10_fault_2 ?_ ?_
  · refine s_iconst (pc := 7) X ic_0 dX10_fault_7 ?_
    refine s_istore_n (pc := 8) X [some (.ref (ad 0)), some (.int l1), some (.int 0), none] rfl (by decide) dX10_fault_8 ?_
    refine s_iconst (pc := 9) X ic_0 dX10_fault_9 ?_
    refine s_istore_n (pc := 10) X [some (.ref (ad 0)), some (.int l1), some (.int 0), some (.int 0)] rfl (by decide) dX10_fault_10 ?_
    refine tL_X10_fault_11 X (fun l2_2 => ?_) fu _ _
    refine s_iload_n (pc := 42) X rfl dX10_fault_42 ?_
    refine p_if_ge (pc := 43) X 50 rfl dX10_fault_43 ?_ ?_
    · refine s_bipush (pc := 50) X bp_m4 dX10_fault_50 ?_
      exact p_iret (pc := 52) X dX10_fault_52
    · refine s_iload_n (pc := 46) X rfl dX10_fault_46 ?_
      refine s_goto (pc := 47) X 52 rfl dX10_fault_47 ?_
      exact p_iret (pc := 52) X dX10_fault_52
  · refine s_iconst (pc := 5) X ic_m1 dX10_fault_5 ?_
    exact p_iret (pc := 6) X dX10_fault_6

-- X10_nextTest
def L_X10_nextTest_41 (fu : Nat) (l1 : Int32) (l2 : Int32) (l3 : Int32) (x : Mem) : Nat → Int32 → Int32 → Int32 → Int32 → (Int32 → Int32 → Int32 → Option Int32) → Option Int32
  | 0, _, _, _, _, _ => none
  | n + 1, l4, l5, l6, l7, K => (if (168 : Int32) ≤ l7 then (K l4 l5 l6) else (clp (F_X10_explains fu l7 x) (fun r_2 => (jn (fun (k_3 : Int32 → Option Int32) => (if r_2 = 0 then (k_3 (-1)) else (clp (F_X10_ownBy fu l3 (x 0 3) l7 x) (fun r_4 => (k_3 r_4))))) (fun v_5 => (jn (fun (k_6 : Int32 → Option Int32) => (if v_5 = 0 then (k_6 1) else (k_6 0))) (fun v_7 => (letv (l4 + v_7) (fun l4_8 => (jn (fun (k_9 : Int32 → Option Int32) => (if v_5 = 1 then (k_9 1) else (k_9 0))) (fun v_10 => (letv (l5 + v_10) (fun l5_11 => (jn (fun (k_12 : Int32 → Option Int32) => (if v_5 = 2 then (k_12 1) else (k_12 0))) (fun v_13 => (letv (l6 + v_13) (fun l6_14 => (L_X10_nextTest_41 fu l1 l2 l3 x n l4_8 l5_11 l6_14 (l7 + 1) K))))))))))))))))))
set_option maxRecDepth 100000 in
set_option maxHeartbeats 4000000 in
theorem tL_X10_nextTest_41 {p : Program} {l : Launch} {e : Env} {s : State} {m : MethodId} {args : Array Value} {below : List Frame} {meth : Method} {c : Code} {D : va_G} {cy : ClassId} {ad : Nat → Nat} {A : Nat → Prop} {fu : Nat} (X : Cx p s m args meth c RX10 cX10_nextTest 9 (some .int) D cy ad shM A) {l1 : Int32} {l2 : Int32} {l3 : Int32} {x : Mem} {K : Int32 → Int32 → Int32 → Option Int32} (hK : ∀ (l4 : Int32) (l5 : Int32) (l6 : Int32), Sim p l e ({ frames := 7, cells := 0, slots := 0, locals := 280 } : Room) s m args below meth c 9 (some .int) D cy ad shM A 128 [some (.ref (ad 0)), some (.int l1), some (.int l2), some (.int l3), some (.int l4), some (.int l5), some (.int l6), none, none] [] x (pr (K l4 l5 l6) x)) : ∀ (n : Nat) (l4 : Int32) (l5 : Int32) (l6 : Int32) (l7 : Int32), Sim p l e ({ frames := 7, cells := 0, slots := 0, locals := 280 } : Room) s m args below meth c 9 (some .int) D cy ad shM A 41 [some (.ref (ad 0)), some (.int l1), some (.int l2), some (.int l3), some (.int l4), some (.int l5), some (.int l6), some (.int l7), none] [] x (pr (L_X10_nextTest_41 fu l1 l2 l3 x n l4 l5 l6 l7 K) x) := by
  intro n
  induction n with
  | zero =>
    intro l4 l5 l6 l7
    rw [L_X10_nextTest_41]
    exact p_none
  | succ n ih =>
    intro l4 l5 l6 l7
    rw [L_X10_nextTest_41]
    refine s_iload (pc := 41) X rfl dX10_nextTest_41 ?_
    refine s_sipush (pc := 43) X sp_168 dX10_nextTest_43 ?_
    refine p_icmp_ge (pc := 46) X 128 rfl dX10_nextTest_46 ?_ ?_
    · refine s_mask [true, true, true, true, true, true, true, false, false] ?_
      exact hK _ _ _
    · refine s_aload_n (pc := 49) X rfl dX10_nextTest_49 ?_
      refine s_iload (pc := 50) X rfl dX10_nextTest_50 ?_
      refine p_callV (pc := 52) (As := [.int l7]) (st := []) X lk_RX10_207 (c_X10_explains l D cy ad fu _ _) shM_0 rfl rfl rfl rfl ⟨by decide, by decide⟩ (Nat.le_of_ble_eq_true rfl) dX10_nextTest_52 (fun r_2 => ?_)
      refine p_jn (fun (k_3 : Int32 → Option Int32) => ∀ (v_5 : Int32), Sim p l e ({ frames := 7, cells := 0, slots := 0, locals := 280 } : Room) s m args below meth c 9 (some .int) D cy ad shM A 73 [some (.ref (ad 0)), some (.int l1), some (.int l2), some (.int l3), some (.int l4), some (.int l5), some (.int l6), some (.int l7), none] [.int v_5] x (pr (k_3 v_5) x)) ?_ (fun k_3 hk_3 => ?_)
      · intro v_5
        refine s_istore (pc := 73) X [some (.ref (ad 0)), some (.int l1), some (.int l2), some (.int l3), some (.int l4), some (.int l5), some (.int l6), some (.int l7), some (.int v_5)] rfl (by decide) dX10_nextTest_73 ?_
        refine s_iload (pc := 75) X rfl dX10_nextTest_75 ?_
        refine s_iload (pc := 77) X rfl dX10_nextTest_77 ?_
        refine p_jn (fun (k_6 : Int32 → Option Int32) => ∀ (v_7 : Int32), Sim p l e ({ frames := 7, cells := 0, slots := 0, locals := 280 } : Room) s m args below meth c 9 (some .int) D cy ad shM A 87 [some (.ref (ad 0)), some (.int l1), some (.int l2), some (.int l3), none, some (.int l5), some (.int l6), some (.int l7), some (.int v_5)] [.int v_7, .int l4] x (pr (k_6 v_7) x)) ?_ (fun k_6 hk_6 => ?_)
        · intro v_7
          refine s_iadd (pc := 87) X dX10_nextTest_87 ?_
          refine p_letv (fun l4_8 => ?_)
          refine s_istore (pc := 88) X [some (.ref (ad 0)), some (.int l1), some (.int l2), some (.int l3), some (.int l4_8), some (.int l5), some (.int l6), some (.int l7), some (.int v_5)] rfl (by decide) dX10_nextTest_88 ?_
          refine s_iload (pc := 90) X rfl dX10_nextTest_90 ?_
          refine s_iload (pc := 92) X rfl dX10_nextTest_92 ?_
          refine s_iconst (pc := 94) X ic_1 dX10_nextTest_94 ?_
          refine p_jn (fun (k_9 : Int32 → Option Int32) => ∀ (v_10 : Int32), Sim p l e ({ frames := 7, cells := 0, slots := 0, locals := 280 } : Room) s m args below meth c 9 (some .int) D cy ad shM A 103 [some (.ref (ad 0)), some (.int l1), some (.int l2), some (.int l3), some (.int l4_8), none, some (.int l6), some (.int l7), some (.int v_5)] [.int v_10, .int l5] x (pr (k_9 v_10) x)) ?_ (fun k_9 hk_9 => ?_)
          · intro v_10
            refine s_iadd (pc := 103) X dX10_nextTest_103 ?_
            refine p_letv (fun l5_11 => ?_)
            refine s_istore (pc := 104) X [some (.ref (ad 0)), some (.int l1), some (.int l2), some (.int l3), some (.int l4_8), some (.int l5_11), some (.int l6), some (.int l7), some (.int v_5)] rfl (by decide) dX10_nextTest_104 ?_
            refine s_iload (pc := 106) X rfl dX10_nextTest_106 ?_
            refine s_iload (pc := 108) X rfl dX10_nextTest_108 ?_
            refine s_iconst (pc := 110) X ic_2 dX10_nextTest_110 ?_
            refine p_jn (fun (k_12 : Int32 → Option Int32) => ∀ (v_13 : Int32), Sim p l e ({ frames := 7, cells := 0, slots := 0, locals := 280 } : Room) s m args below meth c 9 (some .int) D cy ad shM A 119 [some (.ref (ad 0)), some (.int l1), some (.int l2), some (.int l3), some (.int l4_8), some (.int l5_11), none, some (.int l7), none] [.int v_13, .int l6] x (pr (k_12 v_13) x)) ?_ (fun k_12 hk_12 => ?_)
            · intro v_13
              refine s_iadd (pc := 119) X dX10_nextTest_119 ?_
              refine p_letv (fun l6_14 => ?_)
              refine s_istore (pc := 120) X [some (.ref (ad 0)), some (.int l1), some (.int l2), some (.int l3), some (.int l4_8), some (.int l5_11), some (.int l6_14), some (.int l7), none] rfl (by decide) dX10_nextTest_120 ?_
              refine s_iinc (pc := 122) X [some (.ref (ad 0)), some (.int l1), some (.int l2), some (.int l3), some (.int l4_8), some (.int l5_11), some (.int l6_14), some (.int (l7 + 1)), none] rfl (by decide) rfl ic_1 dX10_nextTest_122 ?_
              refine s_goto (pc := 125) X 41 rfl dX10_nextTest_125 ?_
              exact ih _ _ _ _
            · refine p_icmp_ne (pc := 111) X 118 rfl dX10_nextTest_111 ?_ ?_
              · refine s_iconst (pc := 118) X ic_0 dX10_nextTest_118 ?_
                refine s_mask [true, true, true, true, true, true, false, true, false] ?_
                exact hk_12 _
              · refine s_iconst (pc := 114) X ic_1 dX10_nextTest_114 ?_
                refine s_goto (pc := 115) X 119 rfl dX10_nextTest_115 ?_
                refine s_mask [true, true, true, true, true, true, false, true, false] ?_
                exact hk_12 _
          · refine p_icmp_ne (pc := 95) X 102 rfl dX10_nextTest_95 ?_ ?_
            · refine s_iconst (pc := 102) X ic_0 dX10_nextTest_102 ?_
              refine s_mask [true, true, true, true, true, false, true, true, true] ?_
              exact hk_9 _
            · refine s_iconst (pc := 98) X ic_1 dX10_nextTest_98 ?_
              refine s_goto (pc := 99) X 103 rfl dX10_nextTest_99 ?_
              refine s_mask [true, true, true, true, true, false, true, true, true] ?_
              exact hk_9 _
        · refine p_if_ne (pc := 79) X 86 rfl dX10_nextTest_79 ?_ ?_
          · refine s_iconst (pc := 86) X ic_0 dX10_nextTest_86 ?_
            refine s_mask [true, true, true, true, false, true, true, true, true] ?_
            exact hk_6 _
          · refine s_iconst (pc := 82) X ic_1 dX10_nextTest_82 ?_
            refine s_goto (pc := 83) X 87 rfl dX10_nextTest_83 ?_
            refine s_mask [true, true, true, true, false, true, true, true, true] ?_
            exact hk_6 _
      · refine p_if_eq (pc := 55) X 72 rfl dX10_nextTest_55 ?_ ?_
        · refine s_iconst (pc := 72) X ic_m1 dX10_nextTest_72 ?_
          exact hk_3 _
        · refine s_aload_n (pc := 58) X rfl dX10_nextTest_58 ?_
          refine s_iload_n (pc := 59) X rfl dX10_nextTest_59 ?_
          refine s_aload_n (pc := 60) X rfl dX10_nextTest_60 ?_
          refine s_getI (pc := 61) X shM_0 rfl fl_RX10_99 dX10_nextTest_61 ?_
          refine s_iload (pc := 64) X rfl dX10_nextTest_64 ?_
          refine p_callV (pc := 66) (As := [.int l3, .int (x 0 3), .int l7]) (st := []) X lk_RX10_132 (c_X10_ownBy l D cy ad fu _ _ _ _) shM_0 rfl rfl rfl rfl ⟨by decide, by decide⟩ (Nat.le_of_ble_eq_true rfl) dX10_nextTest_66 (fun r_4 => ?_)
          refine s_goto (pc := 69) X 73 rfl dX10_nextTest_69 ?_
          exact hk_3 _

def L_X10_nextTest_21 (fu : Nat) (x : Mem) : Nat → Int32 → Int32 → Int32 → (Int32 → Option Int32) → Option Int32
  | 0, _, _, _, _ => none
  | n + 1, l1, l2, l3, K => (if (x 0 4) ≤ l3 then (K l1) else (L_X10_nextTest_41 fu l1 l2 l3 x fu 0 0 0 0 (fun l4_15 l5_16 l6_17 => (jn (fun (k_18 : Int32 → Option Int32) => (if l4_15 ≤ l5_16 then (k_18 l5_16) else (k_18 l4_15))) (fun v_19 => (jn (fun (k_20 : Int32 → Option Int32) => (if l6_17 ≤ v_19 then (k_20 v_19) else (k_20 l6_17))) (fun v_21 => (jn (fun (k_22 : Int32 → Option Int32) => (if l2 ≤ v_21 then (k_22 l1) else (k_22 l3))) (fun v_23 => (if l2 ≤ v_21 then (L_X10_nextTest_21 fu x n v_23 l2 (l3 + 1) K) else (L_X10_nextTest_21 fu x n v_23 v_21 (l3 + 1) K)))))))))))
set_option maxRecDepth 100000 in
set_option maxHeartbeats 4000000 in
theorem tL_X10_nextTest_21 {p : Program} {l : Launch} {e : Env} {s : State} {m : MethodId} {args : Array Value} {below : List Frame} {meth : Method} {c : Code} {D : va_G} {cy : ClassId} {ad : Nat → Nat} {A : Nat → Prop} {fu : Nat} (X : Cx p s m args meth c RX10 cX10_nextTest 9 (some .int) D cy ad shM A) {x : Mem} {K : Int32 → Option Int32} (hK : ∀ (l1 : Int32), Sim p l e ({ frames := 7, cells := 0, slots := 0, locals := 280 } : Room) s m args below meth c 9 (some .int) D cy ad shM A 191 [none, some (.int l1), none, none, none, none, none, none, none] [] x (pr (K l1) x)) : ∀ (n : Nat) (l1 : Int32) (l2 : Int32) (l3 : Int32), Sim p l e ({ frames := 7, cells := 0, slots := 0, locals := 280 } : Room) s m args below meth c 9 (some .int) D cy ad shM A 21 [some (.ref (ad 0)), some (.int l1), some (.int l2), some (.int l3), none, none, none, none, none] [] x (pr (L_X10_nextTest_21 fu x n l1 l2 l3 K) x) := by
  intro n
  induction n with
  | zero =>
    intro l1 l2 l3
    rw [L_X10_nextTest_21]
    exact p_none
  | succ n ih =>
    intro l1 l2 l3
    rw [L_X10_nextTest_21]
    refine s_iload_n (pc := 21) X rfl dX10_nextTest_21 ?_
    refine s_aload_n (pc := 22) X rfl dX10_nextTest_22 ?_
    refine s_getI (pc := 23) X shM_0 rfl fl_RX10_91 dX10_nextTest_23 ?_
    refine p_icmp_ge (pc := 26) X 191 rfl dX10_nextTest_26 ?_ ?_
    · refine s_mask [false, true, false, false, false, false, false, false, false] ?_
      exact hK _
    · refine s_iconst (pc := 29) X ic_0 dX10_nextTest_29 ?_
      refine s_istore (pc := 30) X [some (.ref (ad 0)), some (.int l1), some (.int l2), some (.int l3), some (.int 0), none, none, none, none] rfl (by decide) dX10_nextTest_30 ?_
      refine s_iconst (pc := 32) X ic_0 dX10_nextTest_32 ?_
      refine s_istore (pc := 33) X [some (.ref (ad 0)), some (.int l1), some (.int l2), some (.int l3), some (.int 0), some (.int 0), none, none, none] rfl (by decide) dX10_nextTest_33 ?_
      refine s_iconst (pc := 35) X ic_0 dX10_nextTest_35 ?_
      refine s_istore (pc := 36) X [some (.ref (ad 0)), some (.int l1), some (.int l2), some (.int l3), some (.int 0), some (.int 0), some (.int 0), none, none] rfl (by decide) dX10_nextTest_36 ?_
      refine s_iconst (pc := 38) X ic_0 dX10_nextTest_38 ?_
      refine s_istore (pc := 39) X [some (.ref (ad 0)), some (.int l1), some (.int l2), some (.int l3), some (.int 0), some (.int 0), some (.int 0), some (.int 0), none] rfl (by decide) dX10_nextTest_39 ?_
      refine tL_X10_nextTest_41 X (fun l4_15 l5_16 l6_17 => ?_) fu _ _ _ _
      refine s_iload (pc := 128) X rfl dX10_nextTest_128 ?_
      refine s_iload (pc := 130) X rfl dX10_nextTest_130 ?_
      refine p_jn (fun (k_18 : Int32 → Option Int32) => ∀ (v_19 : Int32), Sim p l e ({ frames := 7, cells := 0, slots := 0, locals := 280 } : Room) s m args below meth c 9 (some .int) D cy ad shM A 142 [some (.ref (ad 0)), some (.int l1), some (.int l2), some (.int l3), none, none, some (.int l6_17), none, none] [.int v_19] x (pr (k_18 v_19) x)) ?_ (fun k_18 hk_18 => ?_)
      · intro v_19
        refine s_istore (pc := 142) X [some (.ref (ad 0)), some (.int l1), some (.int l2), some (.int l3), none, none, some (.int l6_17), some (.int v_19), none] rfl (by decide) dX10_nextTest_142 ?_
        refine s_iload (pc := 144) X rfl dX10_nextTest_144 ?_
        refine s_iload (pc := 146) X rfl dX10_nextTest_146 ?_
        refine p_jn (fun (k_20 : Int32 → Option Int32) => ∀ (v_21 : Int32), Sim p l e ({ frames := 7, cells := 0, slots := 0, locals := 280 } : Room) s m args below meth c 9 (some .int) D cy ad shM A 158 [some (.ref (ad 0)), some (.int l1), some (.int l2), some (.int l3), none, none, none, none, none] [.int v_21] x (pr (k_20 v_21) x)) ?_ (fun k_20 hk_20 => ?_)
        · intro v_21
          refine s_istore (pc := 158) X [some (.ref (ad 0)), some (.int l1), some (.int l2), some (.int l3), none, none, none, some (.int v_21), none] rfl (by decide) dX10_nextTest_158 ?_
          refine s_iload (pc := 160) X rfl dX10_nextTest_160 ?_
          refine s_iload_n (pc := 162) X rfl dX10_nextTest_162 ?_
          refine p_jn (fun (k_22 : Int32 → Option Int32) => ∀ (v_23 : Int32), Sim p l e ({ frames := 7, cells := 0, slots := 0, locals := 280 } : Room) s m args below meth c 9 (some .int) D cy ad shM A 171 [some (.ref (ad 0)), none, some (.int l2), some (.int l3), none, none, none, some (.int v_21), none] [.int v_23] x (pr (k_22 v_23) x)) ?_ (fun k_22 hk_22 => ?_)
          · intro v_23
            refine s_istore_n (pc := 171) X [some (.ref (ad 0)), some (.int v_23), some (.int l2), some (.int l3), none, none, none, some (.int v_21), none] rfl (by decide) dX10_nextTest_171 ?_
            refine s_iload (pc := 172) X rfl dX10_nextTest_172 ?_
            refine s_iload_n (pc := 174) X rfl dX10_nextTest_174 ?_
            refine p_icmp_ge (pc := 175) X 183 rfl dX10_nextTest_175 ?_ ?_
            · refine s_iload_n (pc := 183) X rfl dX10_nextTest_183 ?_
              refine s_istore_n (pc := 184) X [some (.ref (ad 0)), some (.int v_23), some (.int l2), some (.int l3), none, none, none, some (.int v_21), none] rfl (by decide) dX10_nextTest_184 ?_
              refine s_iinc (pc := 185) X [some (.ref (ad 0)), some (.int v_23), some (.int l2), some (.int (l3 + 1)), none, none, none, some (.int v_21), none] rfl (by decide) rfl ic_1 dX10_nextTest_185 ?_
              refine s_goto (pc := 188) X 21 rfl dX10_nextTest_188 ?_
              refine s_mask [true, true, true, true, false, false, false, false, false] ?_
              exact ih _ _ _
            · refine s_iload (pc := 178) X rfl dX10_nextTest_178 ?_
              refine s_goto (pc := 180) X 184 rfl dX10_nextTest_180 ?_
              refine s_istore_n (pc := 184) X [some (.ref (ad 0)), some (.int v_23), some (.int v_21), some (.int l3), none, none, none, some (.int v_21), none] rfl (by decide) dX10_nextTest_184 ?_
              refine s_iinc (pc := 185) X [some (.ref (ad 0)), some (.int v_23), some (.int v_21), some (.int (l3 + 1)), none, none, none, some (.int v_21), none] rfl (by decide) rfl ic_1 dX10_nextTest_185 ?_
              refine s_goto (pc := 188) X 21 rfl dX10_nextTest_188 ?_
              refine s_mask [true, true, true, true, false, false, false, false, false] ?_
              exact ih _ _ _
          · refine p_icmp_ge (pc := 163) X 170 rfl dX10_nextTest_163 ?_ ?_
            · refine s_iload_n (pc := 170) X rfl dX10_nextTest_170 ?_
              refine s_mask [true, false, true, true, false, false, false, true, false] ?_
              exact hk_22 _
            · refine s_iload_n (pc := 166) X rfl dX10_nextTest_166 ?_
              refine s_goto (pc := 167) X 171 rfl dX10_nextTest_167 ?_
              refine s_mask [true, false, true, true, false, false, false, true, false] ?_
              exact hk_22 _
        · refine p_icmp_le (pc := 148) X 156 rfl dX10_nextTest_148 ?_ ?_
          · refine s_iload (pc := 156) X rfl dX10_nextTest_156 ?_
            refine s_mask [true, true, true, true, false, false, false, false, false] ?_
            exact hk_20 _
          · refine s_iload (pc := 151) X rfl dX10_nextTest_151 ?_
            refine s_goto (pc := 153) X 158 rfl dX10_nextTest_153 ?_
            refine s_mask [true, true, true, true, false, false, false, false, false] ?_
            exact hk_20 _
      · refine p_icmp_le (pc := 132) X 140 rfl dX10_nextTest_132 ?_ ?_
        · refine s_iload (pc := 140) X rfl dX10_nextTest_140 ?_
          refine s_mask [true, true, true, true, false, false, true, false, false] ?_
          exact hk_18 _
        · refine s_iload (pc := 135) X rfl dX10_nextTest_135 ?_
          refine s_goto (pc := 137) X 142 rfl dX10_nextTest_137 ?_
          refine s_mask [true, true, true, true, false, false, true, false, false] ?_
          exact hk_18 _

def F_X10_nextTest (fu : Nat) (x : Mem) : Option Int32 :=
  (clp (F_X10_fault fu (-1) x) (fun r_1 => (if (2 : Int32) ≤ r_1 then (L_X10_nextTest_21 fu x fu (-4) 9999 0 (fun l1_24 => (some l1_24))) else (some (-4)))))
set_option maxRecDepth 100000 in
set_option maxHeartbeats 4000000 in
theorem c_X10_nextTest (l : Launch) (D : va_G) (cy : ClassId) (ad : Nat → Nat) (fu : Nat) (x : Mem) : Ct l D cy ad shM yX10_nextTest cX10_nextTest 9 (some .int) 7 280 [.ref (ad 0)] x (pr (F_X10_nextTest fu x) x) := by
  refine ct_of [some (.ref (ad 0)), none, none, none, none, none, none, none, none] (by decide) (Nat.le_of_ble_eq_true rfl) rfl rfl ?_
  intro p e s m args below meth c A X
  have X : Cx p s m args meth c RX10 cX10_nextTest 9 (some .int) D cy ad shM A := X
  unfold F_X10_nextTest
  refine s_aload_n (pc := 0) X rfl dX10_nextTest_0 ?_
  refine s_iconst (pc := 1) X ic_m1 dX10_nextTest_1 ?_
  refine p_callV (pc := 2) (As := [.int (-1)]) (st := []) X lk_RX10_210 (c_X10_fault l D cy ad fu _ _) shM_0 rfl rfl rfl rfl ⟨by decide, by decide⟩ (Nat.le_of_ble_eq_true rfl) dX10_nextTest_2 (fun r_1 => ?_)
  refine s_iconst (pc := 5) X ic_2 dX10_nextTest_5 ?_
  refine p_icmp_ge (pc := 6) X 12 rfl dX10_nextTest_6 ?_ ?_
  · refine s_bipush (pc := 12) X bp_m4 dX10_nextTest_12 ?_
    refine s_istore_n (pc := 14) X [some (.ref (ad 0)), some (.int (-4)), none, none, none, none, none, none, none] rfl (by decide) dX10_nextTest_14 ?_
    refine s_sipush (pc := 15) X sp_9999 dX10_nextTest_15 ?_
    refine s_istore_n (pc := 18) X [some (.ref (ad 0)), some (.int (-4)), some (.int 9999), none, none, none, none, none, none] rfl (by decide) dX10_nextTest_18 ?_
    refine s_iconst (pc := 19) X ic_0 dX10_nextTest_19 ?_
    refine s_istore_n (pc := 20) X [some (.ref (ad 0)), some (.int (-4)), some (.int 9999), some (.int 0), none, none, none, none, none] rfl (by decide) dX10_nextTest_20 ?_
    refine tL_X10_nextTest_21 X (fun l1_24 => ?_) fu _ _ _
    refine s_iload_n (pc := 191) X rfl dX10_nextTest_191 ?_
    exact p_iret (pc := 192) X dX10_nextTest_192
  · refine s_bipush (pc := 9) X bp_m4 dX10_nextTest_9 ?_
    exact p_iret (pc := 11) X dX10_nextTest_11

-- X10_edge
def F_X10_edge (fu : Nat) (l0 : Int32) (l1 : Int32) (x : Mem) : Option Int32 :=
  (jn (fun (k_1 : Int32 → Option Int32) => (if l1 ≤ l0 then (k_1 l1) else (k_1 l0))) (fun v_2 => (jn (fun (k_3 : Int32 → Option Int32) => (if l1 ≤ l0 then (k_3 l0) else (k_3 l1))) (fun v_4 => (if (v_4 - v_2) = 6 then (some (24 + v_2)) else (if (v_4 - v_2) = 1 then (nz 6 (if (5 : Int32) ≤ (v_2 - v_2 / 6 * 6) then (some (-1)) else (some v_2))) else (some (-1))))))))
set_option maxRecDepth 100000 in
set_option maxHeartbeats 4000000 in
theorem c_X10_edge (l : Launch) (D : va_G) (cy : ClassId) (ad : Nat → Nat) (fu : Nat) (l0 : Int32) (l1 : Int32) (x : Mem) : Ct l D cy ad shM yX10_edge cX10_edge 4 (some .int) 1 40 [.int l0, .int l1] x (pr (F_X10_edge fu l0 l1 x) x) := by
  refine ct_of [some (.int l0), some (.int l1), none, none] (by decide) (Nat.le_of_ble_eq_true rfl) rfl rfl ?_
  intro p e s m args below meth c A X
  have X : Cx p s m args meth c RX10 cX10_edge 4 (some .int) D cy ad shM A := X
  unfold F_X10_edge
  refine s_iload_n (pc := 0) X rfl dX10_edge_0 ?_
  refine s_iload_n (pc := 1) X rfl dX10_edge_1 ?_
  refine p_jn (fun (k_1 : Int32 → Option Int32) => ∀ (v_2 : Int32), Sim p l e ({ frames := 1, cells := 0, slots := 0, locals := 40 } : Room) s m args below meth c 4 (some .int) D cy ad shM A 10 [some (.int l0), some (.int l1), none, none] [.int v_2] x (pr (k_1 v_2) x)) ?_ (fun k_1 hk_1 => ?_)
  · intro v_2
    refine s_istore_n (pc := 10) X [some (.int l0), some (.int l1), some (.int v_2), none] rfl (by decide) dX10_edge_10 ?_
    refine s_iload_n (pc := 11) X rfl dX10_edge_11 ?_
    refine s_iload_n (pc := 12) X rfl dX10_edge_12 ?_
    refine p_jn (fun (k_3 : Int32 → Option Int32) => ∀ (v_4 : Int32), Sim p l e ({ frames := 1, cells := 0, slots := 0, locals := 40 } : Room) s m args below meth c 4 (some .int) D cy ad shM A 21 [none, none, some (.int v_2), none] [.int v_4] x (pr (k_3 v_4) x)) ?_ (fun k_3 hk_3 => ?_)
    · intro v_4
      refine s_istore_n (pc := 21) X [none, none, some (.int v_2), some (.int v_4)] rfl (by decide) dX10_edge_21 ?_
      refine s_iload_n (pc := 22) X rfl dX10_edge_22 ?_
      refine s_iload_n (pc := 23) X rfl dX10_edge_23 ?_
      refine s_isub (pc := 24) X dX10_edge_24 ?_
      refine s_bipush (pc := 25) X bp_6 dX10_edge_25 ?_
      refine p_icmp_ne (pc := 27) X 35 rfl dX10_edge_27 ?_ ?_
      · refine s_iload_n (pc := 35) X rfl dX10_edge_35 ?_
        refine s_iload_n (pc := 36) X rfl dX10_edge_36 ?_
        refine s_isub (pc := 37) X dX10_edge_37 ?_
        refine s_iconst (pc := 38) X ic_1 dX10_edge_38 ?_
        refine p_icmp_ne (pc := 39) X 54 rfl dX10_edge_39 ?_ ?_
        · refine s_iconst (pc := 54) X ic_m1 dX10_edge_54 ?_
          exact p_iret (pc := 55) X dX10_edge_55
        · refine s_iload_n (pc := 42) X rfl dX10_edge_42 ?_
          refine s_bipush (pc := 43) X bp_6 dX10_edge_43 ?_
          refine p_irem (pc := 45) X dX10_edge_45 ?_
          refine s_iconst (pc := 46) X ic_5 dX10_edge_46 ?_
          refine p_icmp_ge (pc := 47) X 54 rfl dX10_edge_47 ?_ ?_
          · refine s_iconst (pc := 54) X ic_m1 dX10_edge_54 ?_
            exact p_iret (pc := 55) X dX10_edge_55
          · refine s_iload_n (pc := 50) X rfl dX10_edge_50 ?_
            refine s_goto (pc := 51) X 55 rfl dX10_edge_51 ?_
            exact p_iret (pc := 55) X dX10_edge_55
      · refine s_bipush (pc := 30) X bp_24 dX10_edge_30 ?_
        refine s_iload_n (pc := 32) X rfl dX10_edge_32 ?_
        refine s_iadd (pc := 33) X dX10_edge_33 ?_
        exact p_iret (pc := 34) X dX10_edge_34
    · refine p_icmp_ge (pc := 13) X 20 rfl dX10_edge_13 ?_ ?_
      · refine s_iload_n (pc := 20) X rfl dX10_edge_20 ?_
        refine s_mask [false, false, true, false] ?_
        exact hk_3 _
      · refine s_iload_n (pc := 16) X rfl dX10_edge_16 ?_
        refine s_goto (pc := 17) X 21 rfl dX10_edge_17 ?_
        refine s_mask [false, false, true, false] ?_
        exact hk_3 _
  · refine p_icmp_ge (pc := 2) X 9 rfl dX10_edge_2 ?_ ?_
    · refine s_iload_n (pc := 9) X rfl dX10_edge_9 ?_
      exact hk_1 _
    · refine s_iload_n (pc := 5) X rfl dX10_edge_5 ?_
      refine s_goto (pc := 6) X 10 rfl dX10_edge_6 ?_
      exact hk_1 _

-- X10_frame
def F_X10_frame (fu : Nat) (l1 : Int32) (l2 : Int32) (l3 : Int32) (x : Mem) : Res :=
  (clp (F_X10_in fu l1 0 23 x) (fun r_1 => (if r_1 = 0 then (some ((-1), x)) else (clp (F_X10_in fu l2 0 23 x) (fun r_2 => (if r_2 = 0 then (some ((-1), x)) else (clp (F_X10_edge fu l1 l2 x) (fun r_3 => (if r_3 < 0 then (some ((-1), x)) else (clp (F_X10_in fu l3 0 2 x) (fun r_4 => (if r_4 = 0 then (some ((-1), x)) else (clp (F_X10_edge fu l1 l2 x) (fun r_5 => (chk r_5 48 (letv (x 25 (r_5 : Int32).toNatClampNeg) (fun l4_6 => (clp (F_X10_edge fu l1 l2 x) (fun r_7 => (chk r_7 48 (letm (wr x 25 (r_7 : Int32).toNatClampNeg l3) (fun x_8 => (some (l4_6, x_8))))))))))))))))))))))))
set_option maxRecDepth 100000 in
set_option maxHeartbeats 4000000 in
theorem c_X10_frame (l : Launch) (D : va_G) (cy : ClassId) (ad : Nat → Nat) (fu : Nat) (l1 : Int32) (l2 : Int32) (l3 : Int32) (x : Mem) : Ct l D cy ad shM yX10_frame cX10_frame 5 (some .int) 2 80 [.ref (ad 0), .int l1, .int l2, .int l3] x (F_X10_frame fu l1 l2 l3 x) := by
  refine ct_of [some (.ref (ad 0)), some (.int l1), some (.int l2), some (.int l3), none] (by decide) (Nat.le_of_ble_eq_true rfl) rfl rfl ?_
  intro p e s m args below meth c A X
  have X : Cx p s m args meth c RX10 cX10_frame 5 (some .int) D cy ad shM A := X
  unfold F_X10_frame
  refine s_iload_n (pc := 0) X rfl dX10_frame_0 ?_
  refine s_iconst (pc := 1) X ic_0 dX10_frame_1 ?_
  refine s_bipush (pc := 2) X bp_23 dX10_frame_2 ?_
  refine s_callSp (pc := 4) (As := [.int l1, .int 0, .int 23]) (st := []) X lk_RX10_95 (c_X10_in l D cy ad fu _ _ _ _) rfl rfl ⟨by decide, by decide⟩ (Nat.le_of_ble_eq_true rfl) dX10_frame_4 (fun r_1 => ?_)
  refine s_if_eq (pc := 7) X 37 rfl dX10_frame_7 ?_ ?_
  · refine s_iconst (pc := 37) X ic_m1 dX10_frame_37 ?_
    exact s_iret (pc := 38) X dX10_frame_38
  · refine s_iload_n (pc := 10) X rfl dX10_frame_10 ?_
    refine s_iconst (pc := 11) X ic_0 dX10_frame_11 ?_
    refine s_bipush (pc := 12) X bp_23 dX10_frame_12 ?_
    refine s_callSp (pc := 14) (As := [.int l2, .int 0, .int 23]) (st := []) X lk_RX10_95 (c_X10_in l D cy ad fu _ _ _ _) rfl rfl ⟨by decide, by decide⟩ (Nat.le_of_ble_eq_true rfl) dX10_frame_14 (fun r_2 => ?_)
    refine s_if_eq (pc := 17) X 37 rfl dX10_frame_17 ?_ ?_
    · refine s_iconst (pc := 37) X ic_m1 dX10_frame_37 ?_
      exact s_iret (pc := 38) X dX10_frame_38
    · refine s_iload_n (pc := 20) X rfl dX10_frame_20 ?_
      refine s_iload_n (pc := 21) X rfl dX10_frame_21 ?_
      refine s_callSp (pc := 22) (As := [.int l1, .int l2]) (st := []) X lk_RX10_213 (c_X10_edge l D cy ad fu _ _ _) rfl rfl ⟨by decide, by decide⟩ (Nat.le_of_ble_eq_true rfl) dX10_frame_22 (fun r_3 => ?_)
      refine s_if_lt (pc := 25) X 37 rfl dX10_frame_25 ?_ ?_
      · refine s_iconst (pc := 37) X ic_m1 dX10_frame_37 ?_
        exact s_iret (pc := 38) X dX10_frame_38
      · refine s_iload_n (pc := 28) X rfl dX10_frame_28 ?_
        refine s_iconst (pc := 29) X ic_0 dX10_frame_29 ?_
        refine s_iconst (pc := 30) X ic_2 dX10_frame_30 ?_
        refine s_callSp (pc := 31) (As := [.int l3, .int 0, .int 2]) (st := []) X lk_RX10_95 (c_X10_in l D cy ad fu _ _ _ _) rfl rfl ⟨by decide, by decide⟩ (Nat.le_of_ble_eq_true rfl) dX10_frame_31 (fun r_4 => ?_)
        refine s_if_ne (pc := 34) X 39 rfl dX10_frame_34 ?_ ?_
        · refine s_aload_n (pc := 39) X rfl dX10_frame_39 ?_
          refine s_getR (pc := 40) X shM_0 rfl fl_RX10_82 dX10_frame_40 ?_
          refine s_iload_n (pc := 43) X rfl dX10_frame_43 ?_
          refine s_iload_n (pc := 44) X rfl dX10_frame_44 ?_
          refine s_callSp (pc := 45) (As := [.int l1, .int l2]) (st := [.ref (ad 25)]) X lk_RX10_213 (c_X10_edge l D cy ad fu _ _ _) rfl rfl ⟨by decide, by decide⟩ (Nat.le_of_ble_eq_true rfl) dX10_frame_45 (fun r_5 => ?_)
          refine s_iald (pc := 48) X shM_25 dX10_frame_48 ?_
          refine s_letv (fun l4_6 => ?_)
          refine s_istore (pc := 49) X [some (.ref (ad 0)), some (.int l1), some (.int l2), some (.int l3), some (.int l4_6)] rfl (by decide) dX10_frame_49 ?_
          refine s_aload_n (pc := 51) X rfl dX10_frame_51 ?_
          refine s_getR (pc := 52) X shM_0 rfl fl_RX10_82 dX10_frame_52 ?_
          refine s_iload_n (pc := 55) X rfl dX10_frame_55 ?_
          refine s_iload_n (pc := 56) X rfl dX10_frame_56 ?_
          refine s_callSp (pc := 57) (As := [.int l1, .int l2]) (st := [.ref (ad 25)]) X lk_RX10_213 (c_X10_edge l D cy ad fu _ _ _) rfl rfl ⟨by decide, by decide⟩ (Nat.le_of_ble_eq_true rfl) dX10_frame_57 (fun r_7 => ?_)
          refine s_iload_n (pc := 60) X rfl dX10_frame_60 ?_
          refine s_iast (pc := 61) X shM_25 dX10_frame_61 ?_
          refine s_letm (fun x_8 => ?_)
          refine s_iload (pc := 62) X rfl dX10_frame_62 ?_
          exact s_iret (pc := 64) X dX10_frame_64
        · refine s_iconst (pc := 37) X ic_m1 dX10_frame_37 ?_
          exact s_iret (pc := 38) X dX10_frame_38

-- X10_spreads
def L_X10_spreads_19 (fu : Nat) (l1 : Int32) (l3 : Int32) : Nat → Int32 → Int32 → Mem → (Int32 → Mem → Res) → Res
  | 0, _, _, _, _ => none
  | n + 1, l2, l4, x, K => (if (24 : Int32) ≤ l4 then (K l2 x) else (clp (F_X10_edge fu l3 l4 x) (fun r_1 => (if r_1 < 0 then (L_X10_spreads_19 fu l1 l3 n l2 (l4 + 1) x K) else (chk r_1 48 (if (x 25 (r_1 : Int32).toNatClampNeg) = 1 then (L_X10_spreads_19 fu l1 l3 n l2 (l4 + 1) x K) else (chk ((24 * l1) + l3) 768 (chk r_1 48 (jn (fun (k_2 : Int32 → Res) => (if (x 25 (r_1 : Int32).toNatClampNeg) = 2 then (k_2 0) else (k_2 1))) (fun v_3 => (letv ((x 27 (((24 * l1) + l3) : Int32).toNatClampNeg) + v_3) (fun l6_4 => (chk ((24 * l1) + l4) 768 (if (x 27 (((24 * l1) + l4) : Int32).toNatClampNeg) ≤ l6_4 then (L_X10_spreads_19 fu l1 l3 n l2 (l4 + 1) x K) else (chk ((24 * l1) + l4) 768 (letm (wr x 27 (((24 * l1) + l4) : Int32).toNatClampNeg l6_4) (fun x_5 => (L_X10_spreads_19 fu l1 l3 n 1 (l4 + 1) x_5 K))))))))))))))))))
set_option maxRecDepth 100000 in
set_option maxHeartbeats 4000000 in
theorem tL_X10_spreads_19 {p : Program} {l : Launch} {e : Env} {s : State} {m : MethodId} {args : Array Value} {below : List Frame} {meth : Method} {c : Code} {D : va_G} {cy : ClassId} {ad : Nat → Nat} {A : Nat → Prop} {fu : Nat} (X : Cx p s m args meth c RX10 cX10_spreads 7 none D cy ad shM A) {l1 : Int32} {l3 : Int32} {K : Int32 → Mem → Res} (hK : ∀ (l2 : Int32) (x : Mem), Sim p l e ({ frames := 2, cells := 0, slots := 0, locals := 80 } : Room) s m args below meth c 7 none D cy ad shM A 119 [some (.ref (ad 0)), some (.int l1), some (.int l2), some (.int l3), none, none, none] [] x (K l2 x)) : ∀ (n : Nat) (l2 : Int32) (l4 : Int32) (x : Mem), Sim p l e ({ frames := 2, cells := 0, slots := 0, locals := 80 } : Room) s m args below meth c 7 none D cy ad shM A 19 [some (.ref (ad 0)), some (.int l1), some (.int l2), some (.int l3), some (.int l4), none, none] [] x (L_X10_spreads_19 fu l1 l3 n l2 l4 x K) := by
  intro n
  induction n with
  | zero =>
    intro l2 l4 x
    rw [L_X10_spreads_19]
    exact s_none
  | succ n ih =>
    intro l2 l4 x
    rw [L_X10_spreads_19]
    refine s_iload (pc := 19) X rfl dX10_spreads_19 ?_
    refine s_bipush (pc := 21) X bp_24 dX10_spreads_21 ?_
    refine s_icmp_ge (pc := 23) X 119 rfl dX10_spreads_23 ?_ ?_
    · refine s_mask [true, true, true, true, false, false, false] ?_
      exact hK _ _
    · refine s_iload_n (pc := 26) X rfl dX10_spreads_26 ?_
      refine s_iload (pc := 27) X rfl dX10_spreads_27 ?_
      refine s_callSp (pc := 29) (As := [.int l3, .int l4]) (st := []) X lk_RX10_213 (c_X10_edge l D cy ad fu _ _ _) rfl rfl ⟨by decide, by decide⟩ (Nat.le_of_ble_eq_true rfl) dX10_spreads_29 (fun r_1 => ?_)
      refine s_istore (pc := 32) X [some (.ref (ad 0)), some (.int l1), some (.int l2), some (.int l3), some (.int l4), some (.int r_1), none] rfl (by decide) dX10_spreads_32 ?_
      refine s_iload (pc := 34) X rfl dX10_spreads_34 ?_
      refine s_if_lt (pc := 36) X 113 rfl dX10_spreads_36 ?_ ?_
      · refine s_iinc (pc := 113) X [some (.ref (ad 0)), some (.int l1), some (.int l2), some (.int l3), some (.int (l4 + 1)), some (.int r_1), none] rfl (by decide) rfl ic_1 dX10_spreads_113 ?_
        refine s_goto (pc := 116) X 19 rfl dX10_spreads_116 ?_
        refine s_mask [true, true, true, true, true, false, false] ?_
        exact ih _ _ _
      · refine s_aload_n (pc := 39) X rfl dX10_spreads_39 ?_
        refine s_getR (pc := 40) X shM_0 rfl fl_RX10_82 dX10_spreads_40 ?_
        refine s_iload (pc := 43) X rfl dX10_spreads_43 ?_
        refine s_iald (pc := 45) X shM_25 dX10_spreads_45 ?_
        refine s_iconst (pc := 46) X ic_1 dX10_spreads_46 ?_
        refine s_icmp_eq (pc := 47) X 113 rfl dX10_spreads_47 ?_ ?_
        · refine s_iinc (pc := 113) X [some (.ref (ad 0)), some (.int l1), some (.int l2), some (.int l3), some (.int (l4 + 1)), some (.int r_1), none] rfl (by decide) rfl ic_1 dX10_spreads_113 ?_
          refine s_goto (pc := 116) X 19 rfl dX10_spreads_116 ?_
          refine s_mask [true, true, true, true, true, false, false] ?_
          exact ih _ _ _
        · refine s_aload_n (pc := 50) X rfl dX10_spreads_50 ?_
          refine s_getR (pc := 51) X shM_0 rfl fl_RX10_88 dX10_spreads_51 ?_
          refine s_bipush (pc := 54) X bp_24 dX10_spreads_54 ?_
          refine s_iload_n (pc := 56) X rfl dX10_spreads_56 ?_
          refine s_imul (pc := 57) X dX10_spreads_57 ?_
          refine s_iload_n (pc := 58) X rfl dX10_spreads_58 ?_
          refine s_iadd (pc := 59) X dX10_spreads_59 ?_
          refine s_iald (pc := 60) X shM_27 dX10_spreads_60 ?_
          refine s_aload_n (pc := 61) X rfl dX10_spreads_61 ?_
          refine s_getR (pc := 62) X shM_0 rfl fl_RX10_82 dX10_spreads_62 ?_
          refine s_iload (pc := 65) X rfl dX10_spreads_65 ?_
          refine s_iald (pc := 67) X shM_25 dX10_spreads_67 ?_
          refine s_iconst (pc := 68) X ic_2 dX10_spreads_68 ?_
          refine s_jn (fun (k_2 : Int32 → Res) => ∀ (v_3 : Int32), Sim p l e ({ frames := 2, cells := 0, slots := 0, locals := 80 } : Room) s m args below meth c 7 none D cy ad shM A 77 [some (.ref (ad 0)), some (.int l1), some (.int l2), some (.int l3), some (.int l4), none, none] [.int v_3, .int (x 27 (((24 * l1) + l3) : Int32).toNatClampNeg)] x (k_2 v_3)) ?_ (fun k_2 hk_2 => ?_)
          · intro v_3
            refine s_iadd (pc := 77) X dX10_spreads_77 ?_
            refine s_letv (fun l6_4 => ?_)
            refine s_istore (pc := 78) X [some (.ref (ad 0)), some (.int l1), some (.int l2), some (.int l3), some (.int l4), none, some (.int l6_4)] rfl (by decide) dX10_spreads_78 ?_
            refine s_iload (pc := 80) X rfl dX10_spreads_80 ?_
            refine s_aload_n (pc := 82) X rfl dX10_spreads_82 ?_
            refine s_getR (pc := 83) X shM_0 rfl fl_RX10_88 dX10_spreads_83 ?_
            refine s_bipush (pc := 86) X bp_24 dX10_spreads_86 ?_
            refine s_iload_n (pc := 88) X rfl dX10_spreads_88 ?_
            refine s_imul (pc := 89) X dX10_spreads_89 ?_
            refine s_iload (pc := 90) X rfl dX10_spreads_90 ?_
            refine s_iadd (pc := 92) X dX10_spreads_92 ?_
            refine s_iald (pc := 93) X shM_27 dX10_spreads_93 ?_
            refine s_icmp_ge (pc := 94) X 113 rfl dX10_spreads_94 ?_ ?_
            · refine s_iinc (pc := 113) X [some (.ref (ad 0)), some (.int l1), some (.int l2), some (.int l3), some (.int (l4 + 1)), none, some (.int l6_4)] rfl (by decide) rfl ic_1 dX10_spreads_113 ?_
              refine s_goto (pc := 116) X 19 rfl dX10_spreads_116 ?_
              refine s_mask [true, true, true, true, true, false, false] ?_
              exact ih _ _ _
            · refine s_aload_n (pc := 97) X rfl dX10_spreads_97 ?_
              refine s_getR (pc := 98) X shM_0 rfl fl_RX10_88 dX10_spreads_98 ?_
              refine s_bipush (pc := 101) X bp_24 dX10_spreads_101 ?_
              refine s_iload_n (pc := 103) X rfl dX10_spreads_103 ?_
              refine s_imul (pc := 104) X dX10_spreads_104 ?_
              refine s_iload (pc := 105) X rfl dX10_spreads_105 ?_
              refine s_iadd (pc := 107) X dX10_spreads_107 ?_
              refine s_iload (pc := 108) X rfl dX10_spreads_108 ?_
              refine s_iast (pc := 110) X shM_27 dX10_spreads_110 ?_
              refine s_letm (fun x_5 => ?_)
              refine s_iconst (pc := 111) X ic_1 dX10_spreads_111 ?_
              refine s_istore_n (pc := 112) X [some (.ref (ad 0)), some (.int l1), some (.int 1), some (.int l3), some (.int l4), none, some (.int l6_4)] rfl (by decide) dX10_spreads_112 ?_
              refine s_iinc (pc := 113) X [some (.ref (ad 0)), some (.int l1), some (.int 1), some (.int l3), some (.int (l4 + 1)), none, some (.int l6_4)] rfl (by decide) rfl ic_1 dX10_spreads_113 ?_
              refine s_goto (pc := 116) X 19 rfl dX10_spreads_116 ?_
              refine s_mask [true, true, true, true, true, false, false] ?_
              exact ih _ _ _
          · refine s_icmp_ne (pc := 69) X 76 rfl dX10_spreads_69 ?_ ?_
            · refine s_iconst (pc := 76) X ic_1 dX10_spreads_76 ?_
              refine s_mask [true, true, true, true, true, false, false] ?_
              exact hk_2 _
            · refine s_iconst (pc := 72) X ic_0 dX10_spreads_72 ?_
              refine s_goto (pc := 73) X 77 rfl dX10_spreads_73 ?_
              refine s_mask [true, true, true, true, true, false, false] ?_
              exact hk_2 _

def L_X10_spreads_10 (fu : Nat) (l1 : Int32) : Nat → Int32 → Int32 → Mem → (Int32 → Mem → Res) → Res
  | 0, _, _, _, _ => none
  | n + 1, l2, l3, x, K => (if (24 : Int32) ≤ l3 then (K l2 x) else (L_X10_spreads_19 fu l1 l3 fu l2 0 x (fun l2_6 x_7 => (L_X10_spreads_10 fu l1 n l2_6 (l3 + 1) x_7 K))))
set_option maxRecDepth 100000 in
set_option maxHeartbeats 4000000 in
theorem tL_X10_spreads_10 {p : Program} {l : Launch} {e : Env} {s : State} {m : MethodId} {args : Array Value} {below : List Frame} {meth : Method} {c : Code} {D : va_G} {cy : ClassId} {ad : Nat → Nat} {A : Nat → Prop} {fu : Nat} (X : Cx p s m args meth c RX10 cX10_spreads 7 none D cy ad shM A) {l1 : Int32} {K : Int32 → Mem → Res} (hK : ∀ (l2 : Int32) (x : Mem), Sim p l e ({ frames := 2, cells := 0, slots := 0, locals := 80 } : Room) s m args below meth c 7 none D cy ad shM A 125 [some (.ref (ad 0)), some (.int l1), some (.int l2), none, none, none, none] [] x (K l2 x)) : ∀ (n : Nat) (l2 : Int32) (l3 : Int32) (x : Mem), Sim p l e ({ frames := 2, cells := 0, slots := 0, locals := 80 } : Room) s m args below meth c 7 none D cy ad shM A 10 [some (.ref (ad 0)), some (.int l1), some (.int l2), some (.int l3), none, none, none] [] x (L_X10_spreads_10 fu l1 n l2 l3 x K) := by
  intro n
  induction n with
  | zero =>
    intro l2 l3 x
    rw [L_X10_spreads_10]
    exact s_none
  | succ n ih =>
    intro l2 l3 x
    rw [L_X10_spreads_10]
    refine s_iload_n (pc := 10) X rfl dX10_spreads_10 ?_
    refine s_bipush (pc := 11) X bp_24 dX10_spreads_11 ?_
    refine s_icmp_ge (pc := 13) X 125 rfl dX10_spreads_13 ?_ ?_
    · refine s_mask [true, true, true, false, false, false, false] ?_
      exact hK _ _
    · refine s_iconst (pc := 16) X ic_0 dX10_spreads_16 ?_
      refine s_istore (pc := 17) X [some (.ref (ad 0)), some (.int l1), some (.int l2), some (.int l3), some (.int 0), none, none] rfl (by decide) dX10_spreads_17 ?_
      refine tL_X10_spreads_19 X (fun l2_6 x_7 => ?_) fu _ _ _
      refine s_iinc (pc := 119) X [some (.ref (ad 0)), some (.int l1), some (.int l2_6), some (.int (l3 + 1)), none, none, none] rfl (by decide) rfl ic_1 dX10_spreads_119 ?_
      refine s_goto (pc := 122) X 10 rfl dX10_spreads_122 ?_
      exact ih _ _ _

def L_X10_spreads_2 (fu : Nat) (l1 : Int32) : Nat → Int32 → Mem → (Mem → Res) → Res
  | 0, _, _, _ => none
  | n + 1, l2, x, K => (if l2 = 0 then (K x) else (L_X10_spreads_10 fu l1 fu 0 0 x (fun l2_8 x_9 => (L_X10_spreads_2 fu l1 n l2_8 x_9 K))))
set_option maxRecDepth 100000 in
set_option maxHeartbeats 4000000 in
theorem tL_X10_spreads_2 {p : Program} {l : Launch} {e : Env} {s : State} {m : MethodId} {args : Array Value} {below : List Frame} {meth : Method} {c : Code} {D : va_G} {cy : ClassId} {ad : Nat → Nat} {A : Nat → Prop} {fu : Nat} (X : Cx p s m args meth c RX10 cX10_spreads 7 none D cy ad shM A) {l1 : Int32} {K : Mem → Res} (hK : ∀ (x : Mem), Sim p l e ({ frames := 2, cells := 0, slots := 0, locals := 80 } : Room) s m args below meth c 7 none D cy ad shM A 128 [none, none, none, none, none, none, none] [] x (K x)) : ∀ (n : Nat) (l2 : Int32) (x : Mem), Sim p l e ({ frames := 2, cells := 0, slots := 0, locals := 80 } : Room) s m args below meth c 7 none D cy ad shM A 2 [some (.ref (ad 0)), some (.int l1), some (.int l2), none, none, none, none] [] x (L_X10_spreads_2 fu l1 n l2 x K) := by
  intro n
  induction n with
  | zero =>
    intro l2 x
    rw [L_X10_spreads_2]
    exact s_none
  | succ n ih =>
    intro l2 x
    rw [L_X10_spreads_2]
    refine s_iload_n (pc := 2) X rfl dX10_spreads_2 ?_
    refine s_if_eq (pc := 3) X 128 rfl dX10_spreads_3 ?_ ?_
    · refine s_mask [false, false, false, false, false, false, false] ?_
      exact hK _
    · refine s_iconst (pc := 6) X ic_0 dX10_spreads_6 ?_
      refine s_istore_n (pc := 7) X [some (.ref (ad 0)), some (.int l1), some (.int 0), none, none, none, none] rfl (by decide) dX10_spreads_7 ?_
      refine s_iconst (pc := 8) X ic_0 dX10_spreads_8 ?_
      refine s_istore_n (pc := 9) X [some (.ref (ad 0)), some (.int l1), some (.int 0), some (.int 0), none, none, none] rfl (by decide) dX10_spreads_9 ?_
      refine tL_X10_spreads_10 X (fun l2_8 x_9 => ?_) fu _ _ _
      refine s_goto (pc := 125) X 2 rfl dX10_spreads_125 ?_
      exact ih _ _

def F_X10_spreads (fu : Nat) (l1 : Int32) (x : Mem) : Res :=
  (L_X10_spreads_2 fu l1 fu 1 x (fun x_10 => (some (0, x_10))))
set_option maxRecDepth 100000 in
set_option maxHeartbeats 4000000 in
theorem c_X10_spreads (l : Launch) (D : va_G) (cy : ClassId) (ad : Nat → Nat) (fu : Nat) (l1 : Int32) (x : Mem) : Ct l D cy ad shM yX10_spreads cX10_spreads 7 none 2 80 [.ref (ad 0), .int l1] x (F_X10_spreads fu l1 x) := by
  refine ct_of [some (.ref (ad 0)), some (.int l1), none, none, none, none, none] (by decide) (Nat.le_of_ble_eq_true rfl) rfl rfl ?_
  intro p e s m args below meth c A X
  have X : Cx p s m args meth c RX10 cX10_spreads 7 none D cy ad shM A := X
  unfold F_X10_spreads
  refine s_iconst (pc := 0) X ic_1 dX10_spreads_0 ?_
  refine s_istore_n (pc := 1) X [some (.ref (ad 0)), some (.int l1), some (.int 1), none, none, none, none] rfl (by decide) dX10_spreads_1 ?_
  refine tL_X10_spreads_2 X (fun x_10 => ?_) fu _ _
  exact s_vret (pc := 128) X dX10_spreads_128

-- X10_wires
def L_X10_wires_27 (fu : Nat) (l1 : Int32) (l2 : Int32) : Nat → Int32 → Mem → (Mem → Res) → Res
  | 0, _, _, _ => none
  | n + 1, l3, x, K => (if (768 : Int32) ≤ l3 then (K x) else (chk l3 768 (letm (wr x 27 (l3 : Int32).toNatClampNeg 9999) (fun x_4 => (L_X10_wires_27 fu l1 l2 n (l3 + 1) x_4 K)))))
set_option maxRecDepth 100000 in
set_option maxHeartbeats 4000000 in
theorem tL_X10_wires_27 {p : Program} {l : Launch} {e : Env} {s : State} {m : MethodId} {args : Array Value} {below : List Frame} {meth : Method} {c : Code} {D : va_G} {cy : ClassId} {ad : Nat → Nat} {A : Nat → Prop} {fu : Nat} (X : Cx p s m args meth c RX10 cX10_wires 8 (some .int) D cy ad shM A) {l1 : Int32} {l2 : Int32} {K : Mem → Res} (hK : ∀ (x : Mem), Sim p l e ({ frames := 3, cells := 0, slots := 0, locals := 120 } : Room) s m args below meth c 8 (some .int) D cy ad shM A 49 [some (.ref (ad 0)), some (.int l1), some (.int l2), none, none, none, none, none] [] x (K x)) : ∀ (n : Nat) (l3 : Int32) (x : Mem), Sim p l e ({ frames := 3, cells := 0, slots := 0, locals := 120 } : Room) s m args below meth c 8 (some .int) D cy ad shM A 27 [some (.ref (ad 0)), some (.int l1), some (.int l2), some (.int l3), none, none, none, none] [] x (L_X10_wires_27 fu l1 l2 n l3 x K) := by
  intro n
  induction n with
  | zero =>
    intro l3 x
    rw [L_X10_wires_27]
    exact s_none
  | succ n ih =>
    intro l3 x
    rw [L_X10_wires_27]
    refine s_iload_n (pc := 27) X rfl dX10_wires_27 ?_
    refine s_sipush (pc := 28) X sp_768 dX10_wires_28 ?_
    refine s_icmp_ge (pc := 31) X 49 rfl dX10_wires_31 ?_ ?_
    · refine s_mask [true, true, true, false, false, false, false, false] ?_
      exact hK _
    · refine s_aload_n (pc := 34) X rfl dX10_wires_34 ?_
      refine s_getR (pc := 35) X shM_0 rfl fl_RX10_88 dX10_wires_35 ?_
      refine s_iload_n (pc := 38) X rfl dX10_wires_38 ?_
      refine s_sipush (pc := 39) X sp_9999 dX10_wires_39 ?_
      refine s_iast (pc := 42) X shM_27 dX10_wires_42 ?_
      refine s_letm (fun x_4 => ?_)
      refine s_iinc (pc := 43) X [some (.ref (ad 0)), some (.int l1), some (.int l2), some (.int (l3 + 1)), none, none, none, none] rfl (by decide) rfl ic_1 dX10_wires_43 ?_
      refine s_goto (pc := 46) X 27 rfl dX10_wires_46 ?_
      exact ih _ _

def L_X10_wires_54 (fu : Nat) (l1 : Int32) (l2 : Int32) : Nat → Int32 → Int32 → Mem → (Mem → Res) → Res
  | 0, _, _, _, _ => none
  | n + 1, l3, l4, x, K => (if (24 : Int32) ≤ l4 then (K x) else (if (((l1 : Int32) >>> (l4 &&& 31)) &&& 1) = 1 then (chk ((24 * ((1 : Int32) <<< (l3 &&& 31))) + l4) 768 (letm (wr x 27 (((24 * ((1 : Int32) <<< (l3 &&& 31))) + l4) : Int32).toNatClampNeg 0) (fun x_6 => (L_X10_wires_54 fu l1 l2 n (l3 + 1) (l4 + 1) x_6 K)))) else (L_X10_wires_54 fu l1 l2 n l3 (l4 + 1) x K)))
set_option maxRecDepth 100000 in
set_option maxHeartbeats 4000000 in
theorem tL_X10_wires_54 {p : Program} {l : Launch} {e : Env} {s : State} {m : MethodId} {args : Array Value} {below : List Frame} {meth : Method} {c : Code} {D : va_G} {cy : ClassId} {ad : Nat → Nat} {A : Nat → Prop} {fu : Nat} (X : Cx p s m args meth c RX10 cX10_wires 8 (some .int) D cy ad shM A) {l1 : Int32} {l2 : Int32} {K : Mem → Res} (hK : ∀ (x : Mem), Sim p l e ({ frames := 3, cells := 0, slots := 0, locals := 120 } : Room) s m args below meth c 8 (some .int) D cy ad shM A 95 [some (.ref (ad 0)), none, some (.int l2), none, none, none, none, none] [] x (K x)) : ∀ (n : Nat) (l3 : Int32) (l4 : Int32) (x : Mem), Sim p l e ({ frames := 3, cells := 0, slots := 0, locals := 120 } : Room) s m args below meth c 8 (some .int) D cy ad shM A 54 [some (.ref (ad 0)), some (.int l1), some (.int l2), some (.int l3), some (.int l4), none, none, none] [] x (L_X10_wires_54 fu l1 l2 n l3 l4 x K) := by
  intro n
  induction n with
  | zero =>
    intro l3 l4 x
    rw [L_X10_wires_54]
    exact s_none
  | succ n ih =>
    intro l3 l4 x
    rw [L_X10_wires_54]
    refine s_iload (pc := 54) X rfl dX10_wires_54 ?_
    refine s_bipush (pc := 56) X bp_24 dX10_wires_56 ?_
    refine s_icmp_ge (pc := 58) X 95 rfl dX10_wires_58 ?_ ?_
    · refine s_mask [true, false, true, false, false, false, false, false] ?_
      exact hK _
    · refine s_iload_n (pc := 61) X rfl dX10_wires_61 ?_
      refine s_iload (pc := 62) X rfl dX10_wires_62 ?_
      refine s_ishr (pc := 64) X dX10_wires_64 ?_
      refine s_iconst (pc := 65) X ic_1 dX10_wires_65 ?_
      refine s_iand (pc := 66) X dX10_wires_66 ?_
      refine s_iconst (pc := 67) X ic_1 dX10_wires_67 ?_
      refine s_icmp_ne (pc := 68) X 89 rfl dX10_wires_68 ?_ ?_
      · refine s_iinc (pc := 89) X [some (.ref (ad 0)), some (.int l1), some (.int l2), some (.int l3), some (.int (l4 + 1)), none, none, none] rfl (by decide) rfl ic_1 dX10_wires_89 ?_
        refine s_goto (pc := 92) X 54 rfl dX10_wires_92 ?_
        exact ih _ _ _
      · refine s_aload_n (pc := 71) X rfl dX10_wires_71 ?_
        refine s_getR (pc := 72) X shM_0 rfl fl_RX10_88 dX10_wires_72 ?_
        refine s_bipush (pc := 75) X bp_24 dX10_wires_75 ?_
        refine s_iconst (pc := 77) X ic_1 dX10_wires_77 ?_
        refine s_iload_n (pc := 78) X rfl dX10_wires_78 ?_
        refine s_ishl (pc := 79) X dX10_wires_79 ?_
        refine s_imul (pc := 80) X dX10_wires_80 ?_
        refine s_iload (pc := 81) X rfl dX10_wires_81 ?_
        refine s_iadd (pc := 83) X dX10_wires_83 ?_
        refine s_iconst (pc := 84) X ic_0 dX10_wires_84 ?_
        refine s_iast (pc := 85) X shM_27 dX10_wires_85 ?_
        refine s_letm (fun x_6 => ?_)
        refine s_iinc (pc := 86) X [some (.ref (ad 0)), some (.int l1), some (.int l2), some (.int (l3 + 1)), some (.int l4), none, none, none] rfl (by decide) rfl ic_1 dX10_wires_86 ?_
        refine s_iinc (pc := 89) X [some (.ref (ad 0)), some (.int l1), some (.int l2), some (.int (l3 + 1)), some (.int (l4 + 1)), none, none, none] rfl (by decide) rfl ic_1 dX10_wires_89 ?_
        refine s_goto (pc := 92) X 54 rfl dX10_wires_92 ?_
        exact ih _ _ _

def L_X10_wires_123 (fu : Nat) (l2 : Int32) (l4 : Int32) (l5 : Int32) : Nat → Int32 → Mem → (Mem → Res) → Res
  | 0, _, _, _ => none
  | n + 1, l6, x, K => (if (24 : Int32) ≤ l6 then (K x) else (chk ((24 * l5) + l6) 768 (chk ((24 * (l4 &&& (l5 ^^^ (-1)))) + l6) 768 (letv ((x 27 (((24 * l5) + l6) : Int32).toNatClampNeg) + (x 27 (((24 * (l4 &&& (l5 ^^^ (-1)))) + l6) : Int32).toNatClampNeg)) (fun l7_9 => (chk ((24 * l4) + l6) 768 (if (x 27 (((24 * l4) + l6) : Int32).toNatClampNeg) ≤ l7_9 then (chk ((24 * l4) + l6) 768 (chk ((24 * l4) + l6) 768 (letm (wr x 27 (((24 * l4) + l6) : Int32).toNatClampNeg (x 27 (((24 * l4) + l6) : Int32).toNatClampNeg)) (fun x_10 => (L_X10_wires_123 fu l2 l4 l5 n (l6 + 1) x_10 K))))) else (chk ((24 * l4) + l6) 768 (letm (wr x 27 (((24 * l4) + l6) : Int32).toNatClampNeg l7_9) (fun x_11 => (L_X10_wires_123 fu l2 l4 l5 n (l6 + 1) x_11 K)))))))))))
set_option maxRecDepth 100000 in
set_option maxHeartbeats 4000000 in
theorem tL_X10_wires_123 {p : Program} {l : Launch} {e : Env} {s : State} {m : MethodId} {args : Array Value} {below : List Frame} {meth : Method} {c : Code} {D : va_G} {cy : ClassId} {ad : Nat → Nat} {A : Nat → Prop} {fu : Nat} (X : Cx p s m args meth c RX10 cX10_wires 8 (some .int) D cy ad shM A) {l2 : Int32} {l4 : Int32} {l5 : Int32} {K : Mem → Res} (hK : ∀ (x : Mem), Sim p l e ({ frames := 3, cells := 0, slots := 0, locals := 120 } : Room) s m args below meth c 8 (some .int) D cy ad shM A 219 [some (.ref (ad 0)), none, some (.int l2), none, some (.int l4), some (.int l5), none, none] [] x (K x)) : ∀ (n : Nat) (l6 : Int32) (x : Mem), Sim p l e ({ frames := 3, cells := 0, slots := 0, locals := 120 } : Room) s m args below meth c 8 (some .int) D cy ad shM A 123 [some (.ref (ad 0)), none, some (.int l2), none, some (.int l4), some (.int l5), some (.int l6), none] [] x (L_X10_wires_123 fu l2 l4 l5 n l6 x K) := by
  intro n
  induction n with
  | zero =>
    intro l6 x
    rw [L_X10_wires_123]
    exact s_none
  | succ n ih =>
    intro l6 x
    rw [L_X10_wires_123]
    refine s_iload (pc := 123) X rfl dX10_wires_123 ?_
    refine s_bipush (pc := 125) X bp_24 dX10_wires_125 ?_
    refine s_icmp_ge (pc := 127) X 219 rfl dX10_wires_127 ?_ ?_
    · refine s_mask [true, false, true, false, true, true, false, false] ?_
      exact hK _
    · refine s_aload_n (pc := 130) X rfl dX10_wires_130 ?_
      refine s_getR (pc := 131) X shM_0 rfl fl_RX10_88 dX10_wires_131 ?_
      refine s_bipush (pc := 134) X bp_24 dX10_wires_134 ?_
      refine s_iload (pc := 136) X rfl dX10_wires_136 ?_
      refine s_imul (pc := 138) X dX10_wires_138 ?_
      refine s_iload (pc := 139) X rfl dX10_wires_139 ?_
      refine s_iadd (pc := 141) X dX10_wires_141 ?_
      refine s_iald (pc := 142) X shM_27 dX10_wires_142 ?_
      refine s_aload_n (pc := 143) X rfl dX10_wires_143 ?_
      refine s_getR (pc := 144) X shM_0 rfl fl_RX10_88 dX10_wires_144 ?_
      refine s_bipush (pc := 147) X bp_24 dX10_wires_147 ?_
      refine s_iload (pc := 149) X rfl dX10_wires_149 ?_
      refine s_iload (pc := 151) X rfl dX10_wires_151 ?_
      refine s_iconst (pc := 153) X ic_m1 dX10_wires_153 ?_
      refine s_ixor (pc := 154) X dX10_wires_154 ?_
      refine s_iand (pc := 155) X dX10_wires_155 ?_
      refine s_imul (pc := 156) X dX10_wires_156 ?_
      refine s_iload (pc := 157) X rfl dX10_wires_157 ?_
      refine s_iadd (pc := 159) X dX10_wires_159 ?_
      refine s_iald (pc := 160) X shM_27 dX10_wires_160 ?_
      refine s_iadd (pc := 161) X dX10_wires_161 ?_
      refine s_letv (fun l7_9 => ?_)
      refine s_istore (pc := 162) X [some (.ref (ad 0)), none, some (.int l2), none, some (.int l4), some (.int l5), some (.int l6), some (.int l7_9)] rfl (by decide) dX10_wires_162 ?_
      refine s_aload_n (pc := 164) X rfl dX10_wires_164 ?_
      refine s_getR (pc := 165) X shM_0 rfl fl_RX10_88 dX10_wires_165 ?_
      refine s_bipush (pc := 168) X bp_24 dX10_wires_168 ?_
      refine s_iload (pc := 170) X rfl dX10_wires_170 ?_
      refine s_imul (pc := 172) X dX10_wires_172 ?_
      refine s_iload (pc := 173) X rfl dX10_wires_173 ?_
      refine s_iadd (pc := 175) X dX10_wires_175 ?_
      refine s_iload (pc := 176) X rfl dX10_wires_176 ?_
      refine s_aload_n (pc := 178) X rfl dX10_wires_178 ?_
      refine s_getR (pc := 179) X shM_0 rfl fl_RX10_88 dX10_wires_179 ?_
      refine s_bipush (pc := 182) X bp_24 dX10_wires_182 ?_
      refine s_iload (pc := 184) X rfl dX10_wires_184 ?_
      refine s_imul (pc := 186) X dX10_wires_186 ?_
      refine s_iload (pc := 187) X rfl dX10_wires_187 ?_
      refine s_iadd (pc := 189) X dX10_wires_189 ?_
      refine s_iald (pc := 190) X shM_27 dX10_wires_190 ?_
      refine s_icmp_ge (pc := 191) X 199 rfl dX10_wires_191 ?_ ?_
      · refine s_aload_n (pc := 199) X rfl dX10_wires_199 ?_
        refine s_getR (pc := 200) X shM_0 rfl fl_RX10_88 dX10_wires_200 ?_
        refine s_bipush (pc := 203) X bp_24 dX10_wires_203 ?_
        refine s_iload (pc := 205) X rfl dX10_wires_205 ?_
        refine s_imul (pc := 207) X dX10_wires_207 ?_
        refine s_iload (pc := 208) X rfl dX10_wires_208 ?_
        refine s_iadd (pc := 210) X dX10_wires_210 ?_
        refine s_iald (pc := 211) X shM_27 dX10_wires_211 ?_
        refine s_iast (pc := 212) X shM_27 dX10_wires_212 ?_
        refine s_letm (fun x_10 => ?_)
        refine s_iinc (pc := 213) X [some (.ref (ad 0)), none, some (.int l2), none, some (.int l4), some (.int l5), some (.int (l6 + 1)), some (.int l7_9)] rfl (by decide) rfl ic_1 dX10_wires_213 ?_
        refine s_goto (pc := 216) X 123 rfl dX10_wires_216 ?_
        refine s_mask [true, false, true, false, true, true, true, false] ?_
        exact ih _ _
      · refine s_iload (pc := 194) X rfl dX10_wires_194 ?_
        refine s_goto (pc := 196) X 212 rfl dX10_wires_196 ?_
        refine s_iast (pc := 212) X shM_27 dX10_wires_212 ?_
        refine s_letm (fun x_11 => ?_)
        refine s_iinc (pc := 213) X [some (.ref (ad 0)), none, some (.int l2), none, some (.int l4), some (.int l5), some (.int (l6 + 1)), some (.int l7_9)] rfl (by decide) rfl ic_1 dX10_wires_213 ?_
        refine s_goto (pc := 216) X 123 rfl dX10_wires_216 ?_
        refine s_mask [true, false, true, false, true, true, true, false] ?_
        exact ih _ _

def L_X10_wires_115 (fu : Nat) (l2 : Int32) (l4 : Int32) : Nat → Int32 → Mem → (Mem → Res) → Res
  | 0, _, _, _ => none
  | n + 1, l5, x, K => (if l5 ≤ 0 then (K x) else (L_X10_wires_123 fu l2 l4 l5 fu 0 x (fun x_12 => (letv ((l5 - 1) &&& l4) (fun l5_13 => (L_X10_wires_115 fu l2 l4 n l5_13 x_12 K))))))
set_option maxRecDepth 100000 in
set_option maxHeartbeats 4000000 in
theorem tL_X10_wires_115 {p : Program} {l : Launch} {e : Env} {s : State} {m : MethodId} {args : Array Value} {below : List Frame} {meth : Method} {c : Code} {D : va_G} {cy : ClassId} {ad : Nat → Nat} {A : Nat → Prop} {fu : Nat} (X : Cx p s m args meth c RX10 cX10_wires 8 (some .int) D cy ad shM A) {l2 : Int32} {l4 : Int32} {K : Mem → Res} (hK : ∀ (x : Mem), Sim p l e ({ frames := 3, cells := 0, slots := 0, locals := 120 } : Room) s m args below meth c 8 (some .int) D cy ad shM A 231 [some (.ref (ad 0)), none, some (.int l2), none, some (.int l4), none, none, none] [] x (K x)) : ∀ (n : Nat) (l5 : Int32) (x : Mem), Sim p l e ({ frames := 3, cells := 0, slots := 0, locals := 120 } : Room) s m args below meth c 8 (some .int) D cy ad shM A 115 [some (.ref (ad 0)), none, some (.int l2), none, some (.int l4), some (.int l5), none, none] [] x (L_X10_wires_115 fu l2 l4 n l5 x K) := by
  intro n
  induction n with
  | zero =>
    intro l5 x
    rw [L_X10_wires_115]
    exact s_none
  | succ n ih =>
    intro l5 x
    rw [L_X10_wires_115]
    refine s_iload (pc := 115) X rfl dX10_wires_115 ?_
    refine s_if_le (pc := 117) X 231 rfl dX10_wires_117 ?_ ?_
    · refine s_mask [true, false, true, false, true, false, false, false] ?_
      exact hK _
    · refine s_iconst (pc := 120) X ic_0 dX10_wires_120 ?_
      refine s_istore (pc := 121) X [some (.ref (ad 0)), none, some (.int l2), none, some (.int l4), some (.int l5), some (.int 0), none] rfl (by decide) dX10_wires_121 ?_
      refine tL_X10_wires_123 X (fun x_12 => ?_) fu _ _
      refine s_iload (pc := 219) X rfl dX10_wires_219 ?_
      refine s_iconst (pc := 221) X ic_1 dX10_wires_221 ?_
      refine s_isub (pc := 222) X dX10_wires_222 ?_
      refine s_iload (pc := 223) X rfl dX10_wires_223 ?_
      refine s_iand (pc := 225) X dX10_wires_225 ?_
      refine s_letv (fun l5_13 => ?_)
      refine s_istore (pc := 226) X [some (.ref (ad 0)), none, some (.int l2), none, some (.int l4), some (.int l5_13), none, none] rfl (by decide) dX10_wires_226 ?_
      refine s_goto (pc := 228) X 115 rfl dX10_wires_228 ?_
      exact ih _ _

def L_X10_wires_98 (fu : Nat) (l2 : Int32) : Nat → Int32 → Mem → (Mem → Res) → Res
  | 0, _, _, _ => none
  | n + 1, l4, x, K => (if ((1 : Int32) <<< (l2 &&& 31)) ≤ l4 then (K x) else (letv ((l4 - 1) &&& l4) (fun l5_8 => (L_X10_wires_115 fu l2 l4 fu l5_8 x (fun x_14 => (cl (F_X10_spreads fu l4 x_14) (fun _ x_15 => (L_X10_wires_98 fu l2 n (l4 + 1) x_15 K))))))))
set_option maxRecDepth 100000 in
set_option maxHeartbeats 4000000 in
theorem tL_X10_wires_98 {p : Program} {l : Launch} {e : Env} {s : State} {m : MethodId} {args : Array Value} {below : List Frame} {meth : Method} {c : Code} {D : va_G} {cy : ClassId} {ad : Nat → Nat} {A : Nat → Prop} {fu : Nat} (X : Cx p s m args meth c RX10 cX10_wires 8 (some .int) D cy ad shM A) {l2 : Int32} {K : Mem → Res} (hK : ∀ (x : Mem), Sim p l e ({ frames := 3, cells := 0, slots := 0, locals := 120 } : Room) s m args below meth c 8 (some .int) D cy ad shM A 243 [some (.ref (ad 0)), none, some (.int l2), none, none, none, none, none] [] x (K x)) : ∀ (n : Nat) (l4 : Int32) (x : Mem), Sim p l e ({ frames := 3, cells := 0, slots := 0, locals := 120 } : Room) s m args below meth c 8 (some .int) D cy ad shM A 98 [some (.ref (ad 0)), none, some (.int l2), none, some (.int l4), none, none, none] [] x (L_X10_wires_98 fu l2 n l4 x K) := by
  intro n
  induction n with
  | zero =>
    intro l4 x
    rw [L_X10_wires_98]
    exact s_none
  | succ n ih =>
    intro l4 x
    rw [L_X10_wires_98]
    refine s_iload (pc := 98) X rfl dX10_wires_98 ?_
    refine s_iconst (pc := 100) X ic_1 dX10_wires_100 ?_
    refine s_iload_n (pc := 101) X rfl dX10_wires_101 ?_
    refine s_ishl (pc := 102) X dX10_wires_102 ?_
    refine s_icmp_ge (pc := 103) X 243 rfl dX10_wires_103 ?_ ?_
    · refine s_mask [true, false, true, false, false, false, false, false] ?_
      exact hK _
    · refine s_iload (pc := 106) X rfl dX10_wires_106 ?_
      refine s_iconst (pc := 108) X ic_1 dX10_wires_108 ?_
      refine s_isub (pc := 109) X dX10_wires_109 ?_
      refine s_iload (pc := 110) X rfl dX10_wires_110 ?_
      refine s_iand (pc := 112) X dX10_wires_112 ?_
      refine s_letv (fun l5_8 => ?_)
      refine s_istore (pc := 113) X [some (.ref (ad 0)), none, some (.int l2), none, some (.int l4), some (.int l5_8), none, none] rfl (by decide) dX10_wires_113 ?_
      refine tL_X10_wires_115 X (fun x_14 => ?_) fu _ _
      refine s_aload_n (pc := 231) X rfl dX10_wires_231 ?_
      refine s_iload (pc := 232) X rfl dX10_wires_232 ?_
      refine s_callV0 (pc := 234) (As := [.int l4]) (st := []) X lk_RX10_217 (c_X10_spreads l D cy ad fu _ _) shM_0 rfl rfl rfl rfl ⟨by decide, by decide⟩ (Nat.le_of_ble_eq_true rfl) dX10_wires_234 (fun _ x_15 => ?_)
      refine s_iinc (pc := 237) X [some (.ref (ad 0)), none, some (.int l2), none, some (.int (l4 + 1)), none, none, none] rfl (by decide) rfl ic_1 dX10_wires_237 ?_
      refine s_goto (pc := 240) X 98 rfl dX10_wires_240 ?_
      exact ih _ _

def L_X10_wires_251 (fu : Nat) (l2 : Int32) (x : Mem) : Nat → Int32 → Int32 → (Int32 → Res) → Res
  | 0, _, _, _ => none
  | n + 1, l4, l5, K => (if (24 : Int32) ≤ l5 then (K l4) else (chk ((24 * (((1 : Int32) <<< (l2 &&& 31)) - 1)) + l5) 768 (letv (x 27 (((24 * (((1 : Int32) <<< (l2 &&& 31)) - 1)) + l5) : Int32).toNatClampNeg) (fun l6_17 => (if l4 ≤ l6_17 then (L_X10_wires_251 fu l2 x n l4 (l5 + 1) K) else (L_X10_wires_251 fu l2 x n l6_17 (l5 + 1) K))))))
set_option maxRecDepth 100000 in
set_option maxHeartbeats 4000000 in
theorem tL_X10_wires_251 {p : Program} {l : Launch} {e : Env} {s : State} {m : MethodId} {args : Array Value} {below : List Frame} {meth : Method} {c : Code} {D : va_G} {cy : ClassId} {ad : Nat → Nat} {A : Nat → Prop} {fu : Nat} (X : Cx p s m args meth c RX10 cX10_wires 8 (some .int) D cy ad shM A) {l2 : Int32} {x : Mem} {K : Int32 → Res} (hK : ∀ (l4 : Int32), Sim p l e ({ frames := 3, cells := 0, slots := 0, locals := 120 } : Room) s m args below meth c 8 (some .int) D cy ad shM A 298 [none, none, none, none, some (.int l4), none, none, none] [] x (K l4)) : ∀ (n : Nat) (l4 : Int32) (l5 : Int32), Sim p l e ({ frames := 3, cells := 0, slots := 0, locals := 120 } : Room) s m args below meth c 8 (some .int) D cy ad shM A 251 [some (.ref (ad 0)), none, some (.int l2), none, some (.int l4), some (.int l5), none, none] [] x (L_X10_wires_251 fu l2 x n l4 l5 K) := by
  intro n
  induction n with
  | zero =>
    intro l4 l5
    rw [L_X10_wires_251]
    exact s_none
  | succ n ih =>
    intro l4 l5
    rw [L_X10_wires_251]
    refine s_iload (pc := 251) X rfl dX10_wires_251 ?_
    refine s_bipush (pc := 253) X bp_24 dX10_wires_253 ?_
    refine s_icmp_ge (pc := 255) X 298 rfl dX10_wires_255 ?_ ?_
    · refine s_mask [false, false, false, false, true, false, false, false] ?_
      exact hK _
    · refine s_aload_n (pc := 258) X rfl dX10_wires_258 ?_
      refine s_getR (pc := 259) X shM_0 rfl fl_RX10_88 dX10_wires_259 ?_
      refine s_bipush (pc := 262) X bp_24 dX10_wires_262 ?_
      refine s_iconst (pc := 264) X ic_1 dX10_wires_264 ?_
      refine s_iload_n (pc := 265) X rfl dX10_wires_265 ?_
      refine s_ishl (pc := 266) X dX10_wires_266 ?_
      refine s_iconst (pc := 267) X ic_1 dX10_wires_267 ?_
      refine s_isub (pc := 268) X dX10_wires_268 ?_
      refine s_imul (pc := 269) X dX10_wires_269 ?_
      refine s_iload (pc := 270) X rfl dX10_wires_270 ?_
      refine s_iadd (pc := 272) X dX10_wires_272 ?_
      refine s_iald (pc := 273) X shM_27 dX10_wires_273 ?_
      refine s_letv (fun l6_17 => ?_)
      refine s_istore (pc := 274) X [some (.ref (ad 0)), none, some (.int l2), none, some (.int l4), some (.int l5), some (.int l6_17), none] rfl (by decide) dX10_wires_274 ?_
      refine s_iload (pc := 276) X rfl dX10_wires_276 ?_
      refine s_iload (pc := 278) X rfl dX10_wires_278 ?_
      refine s_icmp_ge (pc := 280) X 288 rfl dX10_wires_280 ?_ ?_
      · refine s_iload (pc := 288) X rfl dX10_wires_288 ?_
        refine s_istore (pc := 290) X [some (.ref (ad 0)), none, some (.int l2), none, some (.int l4), some (.int l5), some (.int l6_17), none] rfl (by decide) dX10_wires_290 ?_
        refine s_iinc (pc := 292) X [some (.ref (ad 0)), none, some (.int l2), none, some (.int l4), some (.int (l5 + 1)), some (.int l6_17), none] rfl (by decide) rfl ic_1 dX10_wires_292 ?_
        refine s_goto (pc := 295) X 251 rfl dX10_wires_295 ?_
        refine s_mask [true, false, true, false, true, true, false, false] ?_
        exact ih _ _
      · refine s_iload (pc := 283) X rfl dX10_wires_283 ?_
        refine s_goto (pc := 285) X 290 rfl dX10_wires_285 ?_
        refine s_istore (pc := 290) X [some (.ref (ad 0)), none, some (.int l2), none, some (.int l6_17), some (.int l5), some (.int l6_17), none] rfl (by decide) dX10_wires_290 ?_
        refine s_iinc (pc := 292) X [some (.ref (ad 0)), none, some (.int l2), none, some (.int l6_17), some (.int (l5 + 1)), some (.int l6_17), none] rfl (by decide) rfl ic_1 dX10_wires_292 ?_
        refine s_goto (pc := 295) X 251 rfl dX10_wires_295 ?_
        refine s_mask [true, false, true, false, true, true, false, false] ?_
        exact ih _ _

def F_X10_wires (fu : Nat) (l1 : Int32) (x : Mem) : Res :=
  (clp (F_X10_in fu l1 1 16777215 x) (fun r_1 => (if r_1 = 0 then (some ((-1), x)) else (clp (F_X10_bits fu l1 x) (fun r_2 => (if r_2 ≤ 5 then (clp (F_X10_bits fu l1 x) (fun r_3 => (L_X10_wires_27 fu l1 r_3 fu 0 x (fun x_5 => (L_X10_wires_54 fu l1 r_3 fu 0 0 x_5 (fun x_7 => (L_X10_wires_98 fu r_3 fu 1 x_7 (fun x_16 => (L_X10_wires_251 fu r_3 x_16 fu 9999 0 (fun l4_18 => (if l4_18 = 9999 then (some ((-4), x_16)) else (some (l4_18, x_16))))))))))))) else (some ((-1), x))))))))
set_option maxRecDepth 100000 in
set_option maxHeartbeats 4000000 in
theorem c_X10_wires (l : Launch) (D : va_G) (cy : ClassId) (ad : Nat → Nat) (fu : Nat) (l1 : Int32) (x : Mem) : Ct l D cy ad shM yX10_wires cX10_wires 8 (some .int) 3 120 [.ref (ad 0), .int l1] x (F_X10_wires fu l1 x) := by
  refine ct_of [some (.ref (ad 0)), some (.int l1), none, none, none, none, none, none] (by decide) (Nat.le_of_ble_eq_true rfl) rfl rfl ?_
  intro p e s m args below meth c A X
  have X : Cx p s m args meth c RX10 cX10_wires 8 (some .int) D cy ad shM A := X
  unfold F_X10_wires
  refine s_iload_n (pc := 0) X rfl dX10_wires_0 ?_
  refine s_iconst (pc := 1) X ic_1 dX10_wires_1 ?_
  refine s_ldc (pc := 2) X k_RX10_216 dX10_wires_2 ?_
  refine s_callSp (pc := 4) (As := [.int l1, .int 1, .int 16777215]) (st := []) X lk_RX10_95 (c_X10_in l D cy ad fu _ _ _ _) rfl rfl ⟨by decide, by decide⟩ (Nat.le_of_ble_eq_true rfl) dX10_wires_4 (fun r_1 => ?_)
  refine s_if_eq (pc := 7) X 18 rfl dX10_wires_7 ?_ ?_
  · refine s_iconst (pc := 18) X ic_m1 dX10_wires_18 ?_
    exact s_iret (pc := 19) X dX10_wires_19
  · refine s_iload_n (pc := 10) X rfl dX10_wires_10 ?_
    refine s_callSp (pc := 11) (As := [.int l1]) (st := []) X lk_RX10_103 (c_X10_bits l D cy ad fu _ _) rfl rfl ⟨by decide, by decide⟩ (Nat.le_of_ble_eq_true rfl) dX10_wires_11 (fun r_2 => ?_)
    refine s_iconst (pc := 14) X ic_5 dX10_wires_14 ?_
    refine s_icmp_le (pc := 15) X 20 rfl dX10_wires_15 ?_ ?_
    · refine s_iload_n (pc := 20) X rfl dX10_wires_20 ?_
      refine s_callSp (pc := 21) (As := [.int l1]) (st := []) X lk_RX10_103 (c_X10_bits l D cy ad fu _ _) rfl rfl ⟨by decide, by decide⟩ (Nat.le_of_ble_eq_true rfl) dX10_wires_21 (fun r_3 => ?_)
      refine s_istore_n (pc := 24) X [some (.ref (ad 0)), some (.int l1), some (.int r_3), none, none, none, none, none] rfl (by decide) dX10_wires_24 ?_
      refine s_iconst (pc := 25) X ic_0 dX10_wires_25 ?_
      refine s_istore_n (pc := 26) X [some (.ref (ad 0)), some (.int l1), some (.int r_3), some (.int 0), none, none, none, none] rfl (by decide) dX10_wires_26 ?_
      refine tL_X10_wires_27 X (fun x_5 => ?_) fu _ _
      refine s_iconst (pc := 49) X ic_0 dX10_wires_49 ?_
      refine s_istore_n (pc := 50) X [some (.ref (ad 0)), some (.int l1), some (.int r_3), some (.int 0), none, none, none, none] rfl (by decide) dX10_wires_50 ?_
      refine s_iconst (pc := 51) X ic_0 dX10_wires_51 ?_
      refine s_istore (pc := 52) X [some (.ref (ad 0)), some (.int l1), some (.int r_3), some (.int 0), some (.int 0), none, none, none] rfl (by decide) dX10_wires_52 ?_
      refine tL_X10_wires_54 X (fun x_7 => ?_) fu _ _ _
      refine s_iconst (pc := 95) X ic_1 dX10_wires_95 ?_
      refine s_istore (pc := 96) X [some (.ref (ad 0)), none, some (.int r_3), none, some (.int 1), none, none, none] rfl (by decide) dX10_wires_96 ?_
      refine tL_X10_wires_98 X (fun x_16 => ?_) fu _ _
      refine s_sipush (pc := 243) X sp_9999 dX10_wires_243 ?_
      refine s_istore (pc := 246) X [some (.ref (ad 0)), none, some (.int r_3), none, some (.int 9999), none, none, none] rfl (by decide) dX10_wires_246 ?_
      refine s_iconst (pc := 248) X ic_0 dX10_wires_248 ?_
      refine s_istore (pc := 249) X [some (.ref (ad 0)), none, some (.int r_3), none, some (.int 9999), some (.int 0), none, none] rfl (by decide) dX10_wires_249 ?_
      refine tL_X10_wires_251 X (fun l4_18 => ?_) fu _ _
      refine s_iload (pc := 298) X rfl dX10_wires_298 ?_
      refine s_sipush (pc := 300) X sp_9999 dX10_wires_300 ?_
      refine s_icmp_ne (pc := 303) X 311 rfl dX10_wires_303 ?_ ?_
      · refine s_iload (pc := 311) X rfl dX10_wires_311 ?_
        exact s_iret (pc := 313) X dX10_wires_313
      · refine s_bipush (pc := 306) X bp_m4 dX10_wires_306 ?_
        refine s_goto (pc := 308) X 313 rfl dX10_wires_308 ?_
        exact s_iret (pc := 313) X dX10_wires_313
    · refine s_iconst (pc := 18) X ic_m1 dX10_wires_18 ?_
      exact s_iret (pc := 19) X dX10_wires_19

-- X10_count
def L_X10_count_7 (fu : Nat) (l1 : Int32) (l3 : Int32) (x : Mem) : Nat → Int32 → Int32 → (Int32 → Option Int32) → Option Int32
  | 0, _, _, _ => none
  | n + 1, l2, l4, K => (if (x 0 4) ≤ l4 then (K l2) else (clp (F_X10_isOnErrand fu l4 x) (fun r_1 => (jn (fun (k_2 : Int32 → Option Int32) => (if r_1 = 0 then (k_2 0) else (k_2 1))) (fun v_3 => (letv (l2 + v_3) (fun l2_4 => (L_X10_count_7 fu l1 l3 x n l2_4 (l4 + 1) K))))))))
set_option maxRecDepth 100000 in
set_option maxHeartbeats 4000000 in
theorem tL_X10_count_7 {p : Program} {l : Launch} {e : Env} {s : State} {m : MethodId} {args : Array Value} {below : List Frame} {meth : Method} {c : Code} {D : va_G} {cy : ClassId} {ad : Nat → Nat} {A : Nat → Prop} {fu : Nat} (X : Cx p s m args meth c RX10 cX10_count 5 (some .int) D cy ad shM A) {l1 : Int32} {l3 : Int32} {x : Mem} {K : Int32 → Option Int32} (hK : ∀ (l2 : Int32), Sim p l e ({ frames := 2, cells := 0, slots := 0, locals := 80 } : Room) s m args below meth c 5 (some .int) D cy ad shM A 39 [some (.ref (ad 0)), some (.int l1), some (.int l2), some (.int l3), none] [] x (pr (K l2) x)) : ∀ (n : Nat) (l2 : Int32) (l4 : Int32), Sim p l e ({ frames := 2, cells := 0, slots := 0, locals := 80 } : Room) s m args below meth c 5 (some .int) D cy ad shM A 7 [some (.ref (ad 0)), some (.int l1), some (.int l2), some (.int l3), some (.int l4)] [] x (pr (L_X10_count_7 fu l1 l3 x n l2 l4 K) x) := by
  intro n
  induction n with
  | zero =>
    intro l2 l4
    rw [L_X10_count_7]
    exact p_none
  | succ n ih =>
    intro l2 l4
    rw [L_X10_count_7]
    refine s_iload (pc := 7) X rfl dX10_count_7 ?_
    refine s_aload_n (pc := 9) X rfl dX10_count_9 ?_
    refine s_getI (pc := 10) X shM_0 rfl fl_RX10_91 dX10_count_10 ?_
    refine p_icmp_ge (pc := 13) X 39 rfl dX10_count_13 ?_ ?_
    · refine s_mask [true, true, true, true, false] ?_
      exact hK _
    · refine s_iload_n (pc := 16) X rfl dX10_count_16 ?_
      refine s_aload_n (pc := 17) X rfl dX10_count_17 ?_
      refine s_iload (pc := 18) X rfl dX10_count_18 ?_
      refine p_callV (pc := 20) (As := [.int l4]) (st := [.int l2]) X lk_RX10_156 (c_X10_isOnErrand l D cy ad fu _ _) shM_0 rfl rfl rfl rfl ⟨by decide, by decide⟩ (Nat.le_of_ble_eq_true rfl) dX10_count_20 (fun r_1 => ?_)
      refine p_jn (fun (k_2 : Int32 → Option Int32) => ∀ (v_3 : Int32), Sim p l e ({ frames := 2, cells := 0, slots := 0, locals := 80 } : Room) s m args below meth c 5 (some .int) D cy ad shM A 31 [some (.ref (ad 0)), some (.int l1), none, some (.int l3), some (.int l4)] [.int v_3, .int l2] x (pr (k_2 v_3) x)) ?_ (fun k_2 hk_2 => ?_)
      · intro v_3
        refine s_iadd (pc := 31) X dX10_count_31 ?_
        refine p_letv (fun l2_4 => ?_)
        refine s_istore_n (pc := 32) X [some (.ref (ad 0)), some (.int l1), some (.int l2_4), some (.int l3), some (.int l4)] rfl (by decide) dX10_count_32 ?_
        refine s_iinc (pc := 33) X [some (.ref (ad 0)), some (.int l1), some (.int l2_4), some (.int l3), some (.int (l4 + 1))] rfl (by decide) rfl ic_1 dX10_count_33 ?_
        refine s_goto (pc := 36) X 7 rfl dX10_count_36 ?_
        exact ih _ _
      · refine p_if_eq (pc := 23) X 30 rfl dX10_count_23 ?_ ?_
        · refine s_iconst (pc := 30) X ic_0 dX10_count_30 ?_
          refine s_mask [true, true, false, true, true] ?_
          exact hk_2 _
        · refine s_iconst (pc := 26) X ic_1 dX10_count_26 ?_
          refine s_goto (pc := 27) X 31 rfl dX10_count_27 ?_
          refine s_mask [true, true, false, true, true] ?_
          exact hk_2 _

def L_X10_count_42 (fu : Nat) (l1 : Int32) (l2 : Int32) (x : Mem) : Nat → Int32 → Int32 → (Int32 → Option Int32) → Option Int32
  | 0, _, _, _ => none
  | n + 1, l3, l4, K => (if (48 : Int32) ≤ l4 then (K l3) else (chk l4 48 (jn (fun (k_6 : Int32 → Option Int32) => (if (x 25 (l4 : Int32).toNatClampNeg) = 2 then (k_6 1) else (k_6 0))) (fun v_7 => (letv (l3 + v_7) (fun l3_8 => (L_X10_count_42 fu l1 l2 x n l3_8 (l4 + 1) K)))))))
set_option maxRecDepth 100000 in
set_option maxHeartbeats 4000000 in
theorem tL_X10_count_42 {p : Program} {l : Launch} {e : Env} {s : State} {m : MethodId} {args : Array Value} {below : List Frame} {meth : Method} {c : Code} {D : va_G} {cy : ClassId} {ad : Nat → Nat} {A : Nat → Prop} {fu : Nat} (X : Cx p s m args meth c RX10 cX10_count 5 (some .int) D cy ad shM A) {l1 : Int32} {l2 : Int32} {x : Mem} {K : Int32 → Option Int32} (hK : ∀ (l3 : Int32), Sim p l e ({ frames := 2, cells := 0, slots := 0, locals := 80 } : Room) s m args below meth c 5 (some .int) D cy ad shM A 74 [some (.ref (ad 0)), some (.int l1), some (.int l2), some (.int l3), none] [] x (pr (K l3) x)) : ∀ (n : Nat) (l3 : Int32) (l4 : Int32), Sim p l e ({ frames := 2, cells := 0, slots := 0, locals := 80 } : Room) s m args below meth c 5 (some .int) D cy ad shM A 42 [some (.ref (ad 0)), some (.int l1), some (.int l2), some (.int l3), some (.int l4)] [] x (pr (L_X10_count_42 fu l1 l2 x n l3 l4 K) x) := by
  intro n
  induction n with
  | zero =>
    intro l3 l4
    rw [L_X10_count_42]
    exact p_none
  | succ n ih =>
    intro l3 l4
    rw [L_X10_count_42]
    refine s_iload (pc := 42) X rfl dX10_count_42 ?_
    refine s_bipush (pc := 44) X bp_48 dX10_count_44 ?_
    refine p_icmp_ge (pc := 46) X 74 rfl dX10_count_46 ?_ ?_
    · refine s_mask [true, true, true, true, false] ?_
      exact hK _
    · refine s_iload_n (pc := 49) X rfl dX10_count_49 ?_
      refine s_aload_n (pc := 50) X rfl dX10_count_50 ?_
      refine s_getR (pc := 51) X shM_0 rfl fl_RX10_82 dX10_count_51 ?_
      refine s_iload (pc := 54) X rfl dX10_count_54 ?_
      refine p_iald (pc := 56) X shM_25 dX10_count_56 ?_
      refine s_iconst (pc := 57) X ic_2 dX10_count_57 ?_
      refine p_jn (fun (k_6 : Int32 → Option Int32) => ∀ (v_7 : Int32), Sim p l e ({ frames := 2, cells := 0, slots := 0, locals := 80 } : Room) s m args below meth c 5 (some .int) D cy ad shM A 66 [some (.ref (ad 0)), some (.int l1), some (.int l2), none, some (.int l4)] [.int v_7, .int l3] x (pr (k_6 v_7) x)) ?_ (fun k_6 hk_6 => ?_)
      · intro v_7
        refine s_iadd (pc := 66) X dX10_count_66 ?_
        refine p_letv (fun l3_8 => ?_)
        refine s_istore_n (pc := 67) X [some (.ref (ad 0)), some (.int l1), some (.int l2), some (.int l3_8), some (.int l4)] rfl (by decide) dX10_count_67 ?_
        refine s_iinc (pc := 68) X [some (.ref (ad 0)), some (.int l1), some (.int l2), some (.int l3_8), some (.int (l4 + 1))] rfl (by decide) rfl ic_1 dX10_count_68 ?_
        refine s_goto (pc := 71) X 42 rfl dX10_count_71 ?_
        exact ih _ _
      · refine p_icmp_ne (pc := 58) X 65 rfl dX10_count_58 ?_ ?_
        · refine s_iconst (pc := 65) X ic_0 dX10_count_65 ?_
          refine s_mask [true, true, true, false, true] ?_
          exact hk_6 _
        · refine s_iconst (pc := 61) X ic_1 dX10_count_61 ?_
          refine s_goto (pc := 62) X 66 rfl dX10_count_62 ?_
          refine s_mask [true, true, true, false, true] ?_
          exact hk_6 _

def F_X10_count (fu : Nat) (l1 : Int32) (x : Mem) : Option Int32 :=
  (L_X10_count_7 fu l1 0 x fu 0 0 (fun l2_5 => (L_X10_count_42 fu l1 l2_5 x fu 0 0 (fun l3_9 => (if l1 = 0 then (some (x 0 4)) else (if l1 = 1 then (some (x 0 19)) else (if l1 = 2 then (some (x 0 26)) else (if l1 = 3 then (clp (F_X10_waitingNow fu x) (fun r_11 => (some r_11))) else (if l1 = 4 then (some l2_5) else (if l1 = 5 then (clp (F_X10_bits fu (x 0 14) x) (fun r_10 => (some r_10))) else (if l1 = 6 then (some (x 0 28)) else (if l1 = 7 then (some l3_9) else (if l1 = 8 then (some (x 0 18)) else (some (-1)))))))))))))))
set_option maxRecDepth 100000 in
set_option maxHeartbeats 4000000 in
theorem c_X10_count (l : Launch) (D : va_G) (cy : ClassId) (ad : Nat → Nat) (fu : Nat) (l1 : Int32) (x : Mem) : Ct l D cy ad shM yX10_count cX10_count 5 (some .int) 2 80 [.ref (ad 0), .int l1] x (pr (F_X10_count fu l1 x) x) := by
  refine ct_of [some (.ref (ad 0)), some (.int l1), none, none, none] (by decide) (Nat.le_of_ble_eq_true rfl) rfl rfl ?_
  intro p e s m args below meth c A X
  have X : Cx p s m args meth c RX10 cX10_count 5 (some .int) D cy ad shM A := X
  unfold F_X10_count
  refine s_iconst (pc := 0) X ic_0 dX10_count_0 ?_
  refine s_istore_n (pc := 1) X [some (.ref (ad 0)), some (.int l1), some (.int 0), none, none] rfl (by decide) dX10_count_1 ?_
  refine s_iconst (pc := 2) X ic_0 dX10_count_2 ?_
  refine s_istore_n (pc := 3) X [some (.ref (ad 0)), some (.int l1), some (.int 0), some (.int 0), none] rfl (by decide) dX10_count_3 ?_
  refine s_iconst (pc := 4) X ic_0 dX10_count_4 ?_
  refine s_istore (pc := 5) X [some (.ref (ad 0)), some (.int l1), some (.int 0), some (.int 0), some (.int 0)] rfl (by decide) dX10_count_5 ?_
  refine tL_X10_count_7 X (fun l2_5 => ?_) fu _ _
  refine s_iconst (pc := 39) X ic_0 dX10_count_39 ?_
  refine s_istore (pc := 40) X [some (.ref (ad 0)), some (.int l1), some (.int l2_5), some (.int 0), some (.int 0)] rfl (by decide) dX10_count_40 ?_
  refine tL_X10_count_42 X (fun l3_9 => ?_) fu _ _
  refine s_iload_n (pc := 74) X rfl dX10_count_74 ?_
  refine p_ite (fun e75_0 => ?_) (fun e75_0 => ?_)
  · refine s_tabI (pc := 75) X 124 (by rw [e75_0]; decide) (by rw [e75_0]; decide) (by rw [e75_0]; rfl) rfl dX10_count_75 ?_
    refine s_aload_n (pc := 124) X rfl dX10_count_124 ?_
    refine s_getI (pc := 125) X shM_0 rfl fl_RX10_91 dX10_count_125 ?_
    exact p_iret (pc := 128) X dX10_count_128
  · refine p_ite (fun e75_1 => ?_) (fun e75_1 => ?_)
    · refine s_tabI (pc := 75) X 129 (by rw [e75_1]; decide) (by rw [e75_1]; decide) (by rw [e75_1]; rfl) rfl dX10_count_75 ?_
      refine s_aload_n (pc := 129) X rfl dX10_count_129 ?_
      refine s_getI (pc := 130) X shM_0 rfl fl_RX10_141 dX10_count_130 ?_
      exact p_iret (pc := 133) X dX10_count_133
    · refine p_ite (fun e75_2 => ?_) (fun e75_2 => ?_)
      · refine s_tabI (pc := 75) X 134 (by rw [e75_2]; decide) (by rw [e75_2]; decide) (by rw [e75_2]; rfl) rfl dX10_count_75 ?_
        refine s_aload_n (pc := 134) X rfl dX10_count_134 ?_
        refine s_getI (pc := 135) X shM_0 rfl fl_RX10_144 dX10_count_135 ?_
        exact p_iret (pc := 138) X dX10_count_138
      · refine p_ite (fun e75_3 => ?_) (fun e75_3 => ?_)
        · refine s_tabI (pc := 75) X 139 (by rw [e75_3]; decide) (by rw [e75_3]; decide) (by rw [e75_3]; rfl) rfl dX10_count_75 ?_
          refine s_aload_n (pc := 139) X rfl dX10_count_139 ?_
          refine p_callV (pc := 140) (As := []) (st := []) X lk_RX10_194 (c_X10_waitingNow l D cy ad fu _) shM_0 rfl rfl rfl rfl ⟨by decide, by decide⟩ (Nat.le_of_ble_eq_true rfl) dX10_count_140 (fun r_11 => ?_)
          exact p_iret (pc := 143) X dX10_count_143
        · refine p_ite (fun e75_4 => ?_) (fun e75_4 => ?_)
          · refine s_tabI (pc := 75) X 144 (by rw [e75_4]; decide) (by rw [e75_4]; decide) (by rw [e75_4]; rfl) rfl dX10_count_75 ?_
            refine s_iload_n (pc := 144) X rfl dX10_count_144 ?_
            exact p_iret (pc := 145) X dX10_count_145
          · refine p_ite (fun e75_5 => ?_) (fun e75_5 => ?_)
            · refine s_tabI (pc := 75) X 146 (by rw [e75_5]; decide) (by rw [e75_5]; decide) (by rw [e75_5]; rfl) rfl dX10_count_75 ?_
              refine s_aload_n (pc := 146) X rfl dX10_count_146 ?_
              refine s_getI (pc := 147) X shM_0 rfl fl_RX10_153 dX10_count_147 ?_
              refine p_callS (pc := 150) (As := [.int (x 0 14)]) (st := []) X lk_RX10_103 (c_X10_bits l D cy ad fu _ _) rfl rfl ⟨by decide, by decide⟩ (Nat.le_of_ble_eq_true rfl) dX10_count_150 (fun r_10 => ?_)
              exact p_iret (pc := 153) X dX10_count_153
            · refine p_ite (fun e75_6 => ?_) (fun e75_6 => ?_)
              · refine s_tabI (pc := 75) X 154 (by rw [e75_6]; decide) (by rw [e75_6]; decide) (by rw [e75_6]; rfl) rfl dX10_count_75 ?_
                refine s_aload_n (pc := 154) X rfl dX10_count_154 ?_
                refine s_getI (pc := 155) X shM_0 rfl fl_RX10_204 dX10_count_155 ?_
                exact p_iret (pc := 158) X dX10_count_158
              · refine p_ite (fun e75_7 => ?_) (fun e75_7 => ?_)
                · refine s_tabI (pc := 75) X 159 (by rw [e75_7]; decide) (by rw [e75_7]; decide) (by rw [e75_7]; rfl) rfl dX10_count_75 ?_
                  refine s_iload_n (pc := 159) X rfl dX10_count_159 ?_
                  exact p_iret (pc := 160) X dX10_count_160
                · refine p_ite (fun e75_8 => ?_) (fun e75_8 => ?_)
                  · refine s_tabI (pc := 75) X 161 (by rw [e75_8]; decide) (by rw [e75_8]; decide) (by rw [e75_8]; rfl) rfl dX10_count_75 ?_
                    refine s_aload_n (pc := 161) X rfl dX10_count_161 ?_
                    refine s_getI (pc := 162) X shM_0 rfl fl_RX10_178 dX10_count_162 ?_
                    exact p_iret (pc := 165) X dX10_count_165
                  · have hT : (l1 : Int32).toInt < (0 : Int) ∨ (8 : Int) < (l1 : Int32).toInt := tabO _ 8 (by decide) (fun k hk => by rcases (show k = 0 ∨ k = 1 ∨ k = 2 ∨ k = 3 ∨ k = 4 ∨ k = 5 ∨ k = 6 ∨ k = 7 ∨ k = 8 by omega) with rfl | rfl | rfl | rfl | rfl | rfl | rfl | rfl | rfl <;> first | exact e75_0 | exact e75_1 | exact e75_2 | exact e75_3 | exact e75_4 | exact e75_5 | exact e75_6 | exact e75_7 | exact e75_8)
                    refine s_tabO (pc := 75) X 166 hT rfl dX10_count_75 ?_
                    refine s_iconst (pc := 166) X ic_m1 dX10_count_166 ?_
                    exact p_iret (pc := 167) X dX10_count_167
