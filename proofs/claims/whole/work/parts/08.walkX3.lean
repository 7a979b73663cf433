-- X9_share
def F_X9_share (fu : Nat) (l1 : Int32) (x : Mem) : Res :=
  (if l1 = (-1) then (clp (F_X1_countIn fu 1 x) (fun r_1 => (if r_1 ≤ 4 then (cl (F_X7_findBest fu x) (fun _ x_2 => (if l1 = (-1) then (some ((x_2 7 7), x_2)) else (clp (F_X7_servantFor fu l1 x_2) (fun r_3 => (some (r_3, x_2))))))) else (some ((-2), x))))) else (clp (F_X4_has fu l1 x) (fun r_4 => (if r_4 = 0 then (some ((-1), x)) else (clp (F_X1_countIn fu 1 x) (fun r_5 => (if r_5 ≤ 4 then (cl (F_X7_findBest fu x) (fun _ x_6 => (if l1 = (-1) then (some ((x_6 7 7), x_6)) else (clp (F_X7_servantFor fu l1 x_6) (fun r_7 => (some (r_7, x_6))))))) else (some ((-2), x)))))))))
set_option maxRecDepth 100000 in
set_option maxHeartbeats 4000000 in
theorem c_X9_share (l : Launch) (D : va_G) (cy : ClassId) (ad : Nat → Nat) (fu : Nat) (l1 : Int32) (x : Mem) : Ct l D cy ad shX yX9_share cX9_share 2 (some .int) 11 440 [.ref (ad 0), .int l1] x (F_X9_share fu l1 x) := by
  refine ct_of [some (.ref (ad 0)), some (.int l1)] (by decide) (Nat.le_of_ble_eq_true rfl) rfl rfl ?_
  intro p e s m args below meth c A X
  have X : Cx p s m args meth c RX9 cX9_share 2 (some .int) D cy ad shX A := X
  unfold F_X9_share
  refine s_iload_n (pc := 0) X rfl dX9_share_0 ?_
  refine s_iconst (pc := 1) X ic_m1 dX9_share_1 ?_
  refine s_icmp_eq (pc := 2) X 18 rfl dX9_share_2 ?_ ?_
  · refine s_aload_n (pc := 18) X rfl dX9_share_18 ?_
    refine s_getR (pc := 19) X shX_0 rfl fl_RX9_42 dX9_share_19 ?_
    refine s_iconst (pc := 22) X ic_1 dX9_share_22 ?_
    refine s_callVp (pc := 23) (As := [.int 1]) (st := []) X lk_RX9_218 (c_X1_countIn l D cy ad fu _ _) shX_5 rfl rfl rfl rfl ⟨by decide, by decide⟩ (Nat.le_of_ble_eq_true rfl) dX9_share_23 (fun r_1 => ?_)
    refine s_iconst (pc := 26) X ic_4 dX9_share_26 ?_
    refine s_icmp_le (pc := 27) X 33 rfl dX9_share_27 ?_ ?_
    · refine s_aload_n (pc := 33) X rfl dX9_share_33 ?_
      refine s_getR (pc := 34) X shX_0 rfl fl_RX9_58 dX9_share_34 ?_
      refine s_callV0 (pc := 37) (As := []) (st := []) X lk_RX9_221 (c_X7_findBest l D cy ad fu _) shX_7 rfl rfl rfl rfl ⟨by decide, by decide⟩ (Nat.le_of_ble_eq_true rfl) dX9_share_37 (fun _ x_2 => ?_)
      refine s_iload_n (pc := 40) X rfl dX9_share_40 ?_
      refine s_iconst (pc := 41) X ic_m1 dX9_share_41 ?_
      refine s_icmp_ne (pc := 42) X 55 rfl dX9_share_42 ?_ ?_
      · refine s_aload_n (pc := 55) X rfl dX9_share_55 ?_
        refine s_getR (pc := 56) X shX_0 rfl fl_RX9_58 dX9_share_56 ?_
        refine s_iload_n (pc := 59) X rfl dX9_share_59 ?_
        refine s_callVp (pc := 60) (As := [.int l1]) (st := []) X lk_RX9_227 (c_X7_servantFor l D cy ad fu _ _) shX_7 rfl rfl rfl rfl ⟨by decide, by decide⟩ (Nat.le_of_ble_eq_true rfl) dX9_share_60 (fun r_3 => ?_)
        exact s_iret (pc := 63) X dX9_share_63
      · refine s_aload_n (pc := 45) X rfl dX9_share_45 ?_
        refine s_getR (pc := 46) X shX_0 rfl fl_RX9_58 dX9_share_46 ?_
        refine s_getI (pc := 49) X shX_7 rfl fl_RX9_224 dX9_share_49 ?_
        refine s_goto (pc := 52) X 63 rfl dX9_share_52 ?_
        exact s_iret (pc := 63) X dX9_share_63
    · refine s_bipush (pc := 30) X bp_m2 dX9_share_30 ?_
      exact s_iret (pc := 32) X dX9_share_32
  · refine s_aload_n (pc := 5) X rfl dX9_share_5 ?_
    refine s_getR (pc := 6) X shX_0 rfl fl_RX9_10 dX9_share_6 ?_
    refine s_iload_n (pc := 9) X rfl dX9_share_9 ?_
    refine s_callVp (pc := 10) (As := [.int l1]) (st := []) X lk_RX9_123 (c_X4_has l D cy ad fu _ _) shX_1 rfl rfl rfl rfl ⟨by decide, by decide⟩ (Nat.le_of_ble_eq_true rfl) dX9_share_10 (fun r_4 => ?_)
    refine s_if_ne (pc := 13) X 18 rfl dX9_share_13 ?_ ?_
    · refine s_aload_n (pc := 18) X rfl dX9_share_18 ?_
      refine s_getR (pc := 19) X shX_0 rfl fl_RX9_42 dX9_share_19 ?_
      refine s_iconst (pc := 22) X ic_1 dX9_share_22 ?_
      refine s_callVp (pc := 23) (As := [.int 1]) (st := []) X lk_RX9_218 (c_X1_countIn l D cy ad fu _ _) shX_5 rfl rfl rfl rfl ⟨by decide, by decide⟩ (Nat.le_of_ble_eq_true rfl) dX9_share_23 (fun r_5 => ?_)
      refine s_iconst (pc := 26) X ic_4 dX9_share_26 ?_
      refine s_icmp_le (pc := 27) X 33 rfl dX9_share_27 ?_ ?_
      · refine s_aload_n (pc := 33) X rfl dX9_share_33 ?_
        refine s_getR (pc := 34) X shX_0 rfl fl_RX9_58 dX9_share_34 ?_
        refine s_callV0 (pc := 37) (As := []) (st := []) X lk_RX9_221 (c_X7_findBest l D cy ad fu _) shX_7 rfl rfl rfl rfl ⟨by decide, by decide⟩ (Nat.le_of_ble_eq_true rfl) dX9_share_37 (fun _ x_6 => ?_)
        refine s_iload_n (pc := 40) X rfl dX9_share_40 ?_
        refine s_iconst (pc := 41) X ic_m1 dX9_share_41 ?_
        refine s_icmp_ne (pc := 42) X 55 rfl dX9_share_42 ?_ ?_
        · refine s_aload_n (pc := 55) X rfl dX9_share_55 ?_
          refine s_getR (pc := 56) X shX_0 rfl fl_RX9_58 dX9_share_56 ?_
          refine s_iload_n (pc := 59) X rfl dX9_share_59 ?_
          refine s_callVp (pc := 60) (As := [.int l1]) (st := []) X lk_RX9_227 (c_X7_servantFor l D cy ad fu _ _) shX_7 rfl rfl rfl rfl ⟨by decide, by decide⟩ (Nat.le_of_ble_eq_true rfl) dX9_share_60 (fun r_7 => ?_)
          exact s_iret (pc := 63) X dX9_share_63
        · refine s_aload_n (pc := 45) X rfl dX9_share_45 ?_
          refine s_getR (pc := 46) X shX_0 rfl fl_RX9_58 dX9_share_46 ?_
          refine s_getI (pc := 49) X shX_7 rfl fl_RX9_224 dX9_share_49 ?_
          refine s_goto (pc := 52) X 63 rfl dX9_share_52 ?_
          exact s_iret (pc := 63) X dX9_share_63
      · refine s_bipush (pc := 30) X bp_m2 dX9_share_30 ?_
        exact s_iret (pc := 32) X dX9_share_32
    · refine s_iconst (pc := 16) X ic_m1 dX9_share_16 ?_
      exact s_iret (pc := 17) X dX9_share_17

-- X9_send
def L_X9_send_26 (fu : Nat) : Nat → Int32 → Int32 → Mem → (Int32 → Mem → Res) → Res
  | 0, _, _, _, _ => none
  | n + 1, l1, l2, x, K => (if (x 7 6) ≤ l2 then (K l1 x) else (chk l2 4 (if (x 31 (l2 : Int32).toNatClampNeg) = 5 then (L_X9_send_26 fu n l1 (l2 + 1) x K) else (chk l2 4 (chk l2 4 (cl (F_X6_sendOne fu (x 31 (l2 : Int32).toNatClampNeg) (x 30 (l2 : Int32).toNatClampNeg) x) (fun _ x_3 => (L_X9_send_26 fu n (l1 + 1) (l2 + 1) x_3 K))))))))
set_option maxRecDepth 100000 in
set_option maxHeartbeats 4000000 in
theorem tL_X9_send_26 {p : Program} {l : Launch} {e : Env} {s : State} {m : MethodId} {args : Array Value} {below : List Frame} {meth : Method} {c : Code} {D : va_G} {cy : ClassId} {ad : Nat → Nat} {A : Nat → Prop} {fu : Nat} (X : Cx p s m args meth c RX9 cX9_send 3 (some .int) D cy ad shX A) {K : Int32 → Mem → Res} (hK : ∀ (l1 : Int32) (x : Mem), Sim p l e ({ frames := 11, cells := 0, slots := 0, locals := 440 } : Room) s m args below meth c 3 (some .int) D cy ad shX A 84 [none, some (.int l1), none] [] x (K l1 x)) : ∀ (n : Nat) (l1 : Int32) (l2 : Int32) (x : Mem), Sim p l e ({ frames := 11, cells := 0, slots := 0, locals := 440 } : Room) s m args below meth c 3 (some .int) D cy ad shX A 26 [some (.ref (ad 0)), some (.int l1), some (.int l2)] [] x (L_X9_send_26 fu n l1 l2 x K) := by
  intro n
  induction n with
  | zero =>
    intro l1 l2 x
    rw [L_X9_send_26]
    exact s_none
  | succ n ih =>
    intro l1 l2 x
    rw [L_X9_send_26]
    refine s_iload_n (pc := 26) X rfl dX9_send_26 ?_
    refine s_aload_n (pc := 27) X rfl dX9_send_27 ?_
    refine s_getR (pc := 28) X shX_0 rfl fl_RX9_58 dX9_send_28 ?_
    refine s_getI (pc := 31) X shX_7 rfl fl_RX9_230 dX9_send_31 ?_
    refine s_icmp_ge (pc := 34) X 84 rfl dX9_send_34 ?_ ?_
    · refine s_mask [false, true, false] ?_
      exact hK _ _
    · refine s_aload_n (pc := 37) X rfl dX9_send_37 ?_
      refine s_getR (pc := 38) X shX_0 rfl fl_RX9_58 dX9_send_38 ?_
      refine s_getR (pc := 41) X shX_7 rfl fl_RX9_231 dX9_send_41 ?_
      refine s_iload_n (pc := 44) X rfl dX9_send_44 ?_
      refine s_iald (pc := 45) X shX_31 dX9_send_45 ?_
      refine s_iconst (pc := 46) X ic_5 dX9_send_46 ?_
      refine s_icmp_eq (pc := 47) X 78 rfl dX9_send_47 ?_ ?_
      · refine s_iinc (pc := 78) X [some (.ref (ad 0)), some (.int l1), some (.int (l2 + 1))] rfl (by decide) rfl ic_1 dX9_send_78 ?_
        refine s_goto (pc := 81) X 26 rfl dX9_send_81 ?_
        exact ih _ _ _
      · refine s_aload_n (pc := 50) X rfl dX9_send_50 ?_
        refine s_getR (pc := 51) X shX_0 rfl fl_RX9_51 dX9_send_51 ?_
        refine s_aload_n (pc := 54) X rfl dX9_send_54 ?_
        refine s_getR (pc := 55) X shX_0 rfl fl_RX9_58 dX9_send_55 ?_
        refine s_getR (pc := 58) X shX_7 rfl fl_RX9_231 dX9_send_58 ?_
        refine s_iload_n (pc := 61) X rfl dX9_send_61 ?_
        refine s_iald (pc := 62) X shX_31 dX9_send_62 ?_
        refine s_aload_n (pc := 63) X rfl dX9_send_63 ?_
        refine s_getR (pc := 64) X shX_0 rfl fl_RX9_58 dX9_send_64 ?_
        refine s_getR (pc := 67) X shX_7 rfl fl_RX9_234 dX9_send_67 ?_
        refine s_iload_n (pc := 70) X rfl dX9_send_70 ?_
        refine s_iald (pc := 71) X shX_30 dX9_send_71 ?_
        refine s_callV0 (pc := 72) (As := [.int (x 31 (l2 : Int32).toNatClampNeg), .int (x 30 (l2 : Int32).toNatClampNeg)]) (st := []) X lk_RX9_237 (c_X6_sendOne l D cy ad fu _ _ _) shX_6 rfl rfl rfl rfl ⟨by decide, by decide⟩ (Nat.le_of_ble_eq_true rfl) dX9_send_72 (fun _ x_3 => ?_)
        refine s_iinc (pc := 75) X [some (.ref (ad 0)), some (.int (l1 + 1)), some (.int l2)] rfl (by decide) rfl ic_1 dX9_send_75 ?_
        refine s_iinc (pc := 78) X [some (.ref (ad 0)), some (.int (l1 + 1)), some (.int (l2 + 1))] rfl (by decide) rfl ic_1 dX9_send_78 ?_
        refine s_goto (pc := 81) X 26 rfl dX9_send_81 ?_
        exact ih _ _ _

def F_X9_send (fu : Nat) (x : Mem) : Res :=
  (clp (F_X1_countIn fu 1 x) (fun r_1 => (if r_1 ≤ 4 then (cl (F_X7_findBest fu x) (fun _ x_2 => (L_X9_send_26 fu fu 0 0 x_2 (fun l1_4 x_5 => (some (l1_4, x_5)))))) else (some ((-2), x)))))
set_option maxRecDepth 100000 in
set_option maxHeartbeats 4000000 in
theorem c_X9_send (l : Launch) (D : va_G) (cy : ClassId) (ad : Nat → Nat) (fu : Nat) (x : Mem) : Ct l D cy ad shX yX9_send cX9_send 3 (some .int) 11 440 [.ref (ad 0)] x (F_X9_send fu x) := by
  refine ct_of [some (.ref (ad 0)), none, none] (by decide) (Nat.le_of_ble_eq_true rfl) rfl rfl ?_
  intro p e s m args below meth c A X
  have X : Cx p s m args meth c RX9 cX9_send 3 (some .int) D cy ad shX A := X
  unfold F_X9_send
  refine s_aload_n (pc := 0) X rfl dX9_send_0 ?_
  refine s_getR (pc := 1) X shX_0 rfl fl_RX9_42 dX9_send_1 ?_
  refine s_iconst (pc := 4) X ic_1 dX9_send_4 ?_
  refine s_callVp (pc := 5) (As := [.int 1]) (st := []) X lk_RX9_218 (c_X1_countIn l D cy ad fu _ _) shX_5 rfl rfl rfl rfl ⟨by decide, by decide⟩ (Nat.le_of_ble_eq_true rfl) dX9_send_5 (fun r_1 => ?_)
  refine s_iconst (pc := 8) X ic_4 dX9_send_8 ?_
  refine s_icmp_le (pc := 9) X 15 rfl dX9_send_9 ?_ ?_
  · refine s_aload_n (pc := 15) X rfl dX9_send_15 ?_
    refine s_getR (pc := 16) X shX_0 rfl fl_RX9_58 dX9_send_16 ?_
    refine s_callV0 (pc := 19) (As := []) (st := []) X lk_RX9_221 (c_X7_findBest l D cy ad fu _) shX_7 rfl rfl rfl rfl ⟨by decide, by decide⟩ (Nat.le_of_ble_eq_true rfl) dX9_send_19 (fun _ x_2 => ?_)
    refine s_iconst (pc := 22) X ic_0 dX9_send_22 ?_
    refine s_istore_n (pc := 23) X [some (.ref (ad 0)), some (.int 0), none] rfl (by decide) dX9_send_23 ?_
    refine s_iconst (pc := 24) X ic_0 dX9_send_24 ?_
    refine s_istore_n (pc := 25) X [some (.ref (ad 0)), some (.int 0), some (.int 0)] rfl (by decide) dX9_send_25 ?_
    refine tL_X9_send_26 X (fun l1_4 x_5 => ?_) fu _ _ _
    refine s_iload_n (pc := 84) X rfl dX9_send_84 ?_
    exact s_iret (pc := 85) X dX9_send_85
  · refine s_bipush (pc := 12) X bp_m2 dX9_send_12 ?_
    exact s_iret (pc := 14) X dX9_send_14

-- X9_test
def F_X9_test (fu : Nat) (l1 : Int32) (l2 : Int32) (l3 : Int32) (x : Mem) : Res :=
  (clp (F_X4_has fu l1 x) (fun r_1 => (if r_1 = 0 then (some ((-1), x)) else (if l2 < 0 then (some ((-1), x)) else (if (40 : Int32) < l2 then (some ((-1), x)) else (if l3 < (-1) then (some ((-1), x)) else (if l3 ≤ 2 then (if (x 8 4) < 12 then (cl (F_X2_addTest fu l1 l2 l3 x) (fun r_2 x_3 => (some (r_2, x_3)))) else (some ((-3), x))) else (some ((-1), x)))))))))
set_option maxRecDepth 100000 in
set_option maxHeartbeats 4000000 in
theorem c_X9_test (l : Launch) (D : va_G) (cy : ClassId) (ad : Nat → Nat) (fu : Nat) (l1 : Int32) (l2 : Int32) (l3 : Int32) (x : Mem) : Ct l D cy ad shX yX9_test cX9_test 4 (some .int) 6 240 [.ref (ad 0), .int l1, .int l2, .int l3] x (F_X9_test fu l1 l2 l3 x) := by
  refine ct_of [some (.ref (ad 0)), some (.int l1), some (.int l2), some (.int l3)] (by decide) (Nat.le_of_ble_eq_true rfl) rfl rfl ?_
  intro p e s m args below meth c A X
  have X : Cx p s m args meth c RX9 cX9_test 4 (some .int) D cy ad shX A := X
  unfold F_X9_test
  refine s_aload_n (pc := 0) X rfl dX9_test_0 ?_
  refine s_getR (pc := 1) X shX_0 rfl fl_RX9_10 dX9_test_1 ?_
  refine s_iload_n (pc := 4) X rfl dX9_test_4 ?_
  refine s_callVp (pc := 5) (As := [.int l1]) (st := []) X lk_RX9_123 (c_X4_has l D cy ad fu _ _) shX_1 rfl rfl rfl rfl ⟨by decide, by decide⟩ (Nat.le_of_ble_eq_true rfl) dX9_test_5 (fun r_1 => ?_)
  refine s_if_eq (pc := 8) X 31 rfl dX9_test_8 ?_ ?_
  · refine s_iconst (pc := 31) X ic_m1 dX9_test_31 ?_
    exact s_iret (pc := 32) X dX9_test_32
  · refine s_iload_n (pc := 11) X rfl dX9_test_11 ?_
    refine s_if_lt (pc := 12) X 31 rfl dX9_test_12 ?_ ?_
    · refine s_iconst (pc := 31) X ic_m1 dX9_test_31 ?_
      exact s_iret (pc := 32) X dX9_test_32
    · refine s_iload_n (pc := 15) X rfl dX9_test_15 ?_
      refine s_bipush (pc := 16) X bp_40 dX9_test_16 ?_
      refine s_icmp_gt (pc := 18) X 31 rfl dX9_test_18 ?_ ?_
      · refine s_iconst (pc := 31) X ic_m1 dX9_test_31 ?_
        exact s_iret (pc := 32) X dX9_test_32
      · refine s_iload_n (pc := 21) X rfl dX9_test_21 ?_
        refine s_iconst (pc := 22) X ic_m1 dX9_test_22 ?_
        refine s_icmp_lt (pc := 23) X 31 rfl dX9_test_23 ?_ ?_
        · refine s_iconst (pc := 31) X ic_m1 dX9_test_31 ?_
          exact s_iret (pc := 32) X dX9_test_32
        · refine s_iload_n (pc := 26) X rfl dX9_test_26 ?_
          refine s_iconst (pc := 27) X ic_2 dX9_test_27 ?_
          refine s_icmp_le (pc := 28) X 33 rfl dX9_test_28 ?_ ?_
          · refine s_aload_n (pc := 33) X rfl dX9_test_33 ?_
            refine s_getR (pc := 34) X shX_0 rfl fl_RX9_67 dX9_test_34 ?_
            refine s_getI (pc := 37) X shX_8 rfl fl_RX9_240 dX9_test_37 ?_
            refine s_bipush (pc := 40) X bp_12 dX9_test_40 ?_
            refine s_icmp_lt (pc := 42) X 48 rfl dX9_test_42 ?_ ?_
            · refine s_aload_n (pc := 48) X rfl dX9_test_48 ?_
              refine s_getR (pc := 49) X shX_0 rfl fl_RX9_67 dX9_test_49 ?_
              refine s_iload_n (pc := 52) X rfl dX9_test_52 ?_
              refine s_iload_n (pc := 53) X rfl dX9_test_53 ?_
              refine s_iload_n (pc := 54) X rfl dX9_test_54 ?_
              refine s_callV (pc := 55) (As := [.int l1, .int l2, .int l3]) (st := []) X lk_RX9_243 (c_X2_addTest l D cy ad fu _ _ _ _) shX_8 rfl rfl rfl rfl ⟨by decide, by decide⟩ (Nat.le_of_ble_eq_true rfl) dX9_test_55 (fun r_2 x_3 => ?_)
              exact s_iret (pc := 58) X dX9_test_58
            · refine s_bipush (pc := 45) X bp_m3 dX9_test_45 ?_
              exact s_iret (pc := 47) X dX9_test_47
          · refine s_iconst (pc := 31) X ic_m1 dX9_test_31 ?_
            exact s_iret (pc := 32) X dX9_test_32

-- X9_noTests
def F_X9_noTests (fu : Nat) (x : Mem) : Res :=
  (cl (F_X2_dropTests fu x) (fun r_1 x_2 => (some (r_1, x_2))))
set_option maxRecDepth 100000 in
set_option maxHeartbeats 4000000 in
theorem c_X9_noTests (l : Launch) (D : va_G) (cy : ClassId) (ad : Nat → Nat) (fu : Nat) (x : Mem) : Ct l D cy ad shX yX9_noTests cX9_noTests 1 (some .int) 3 120 [.ref (ad 0)] x (F_X9_noTests fu x) := by
  refine ct_of [some (.ref (ad 0))] (by decide) (Nat.le_of_ble_eq_true rfl) rfl rfl ?_
  intro p e s m args below meth c A X
  have X : Cx p s m args meth c RX9 cX9_noTests 1 (some .int) D cy ad shX A := X
  unfold F_X9_noTests
  refine s_aload_n (pc := 0) X rfl dX9_noTests_0 ?_
  refine s_getR (pc := 1) X shX_0 rfl fl_RX9_67 dX9_noTests_1 ?_
  refine s_callV (pc := 4) (As := []) (st := []) X lk_RX9_246 (c_X2_dropTests l D cy ad fu _) shX_8 rfl rfl rfl rfl ⟨by decide, by decide⟩ (Nat.le_of_ble_eq_true rfl) dX9_noTests_4 (fun r_1 x_2 => ?_)
  exact s_iret (pc := 7) X dX9_noTests_7

-- X9_fault
def F_X9_fault (fu : Nat) (l1 : Int32) (x : Mem) : Option Int32 :=
  (if (-1) ≤ l1 then (if l1 = (-1) then (some (x 8 3)) else (if (x 8 3) ≤ l1 then (some (-4)) else (chk l1 168 (some (x 33 (l1 : Int32).toNatClampNeg))))) else (some (-1)))
set_option maxRecDepth 100000 in
set_option maxHeartbeats 4000000 in
theorem c_X9_fault (l : Launch) (D : va_G) (cy : ClassId) (ad : Nat → Nat) (fu : Nat) (l1 : Int32) (x : Mem) : Ct l D cy ad shX yX9_fault cX9_fault 2 (some .int) 1 40 [.ref (ad 0), .int l1] x (pr (F_X9_fault fu l1 x) x) := by
  refine ct_of [some (.ref (ad 0)), some (.int l1)] (by decide) (Nat.le_of_ble_eq_true rfl) rfl rfl ?_
  intro p e s m args below meth c A X
  have X : Cx p s m args meth c RX9 cX9_fault 2 (some .int) D cy ad shX A := X
  unfold F_X9_fault
  refine s_iload_n (pc := 0) X rfl dX9_fault_0 ?_
  refine s_iconst (pc := 1) X ic_m1 dX9_fault_1 ?_
  refine p_icmp_ge (pc := 2) X 7 rfl dX9_fault_2 ?_ ?_
  · refine s_iload_n (pc := 7) X rfl dX9_fault_7 ?_
    refine s_iconst (pc := 8) X ic_m1 dX9_fault_8 ?_
    refine p_icmp_ne (pc := 9) X 20 rfl dX9_fault_9 ?_ ?_
    · refine s_iload_n (pc := 20) X rfl dX9_fault_20 ?_
      refine s_aload_n (pc := 21) X rfl dX9_fault_21 ?_
      refine s_getR (pc := 22) X shX_0 rfl fl_RX9_67 dX9_fault_22 ?_
      refine s_getI (pc := 25) X shX_8 rfl fl_RX9_249 dX9_fault_25 ?_
      refine p_icmp_ge (pc := 28) X 43 rfl dX9_fault_28 ?_ ?_
      · refine s_bipush (pc := 43) X bp_m4 dX9_fault_43 ?_
        exact p_iret (pc := 45) X dX9_fault_45
      · refine s_aload_n (pc := 31) X rfl dX9_fault_31 ?_
        refine s_getR (pc := 32) X shX_0 rfl fl_RX9_67 dX9_fault_32 ?_
        refine s_getR (pc := 35) X shX_8 rfl fl_RX9_250 dX9_fault_35 ?_
        refine s_iload_n (pc := 38) X rfl dX9_fault_38 ?_
        refine p_iald (pc := 39) X shX_33 dX9_fault_39 ?_
        refine s_goto (pc := 40) X 45 rfl dX9_fault_40 ?_
        exact p_iret (pc := 45) X dX9_fault_45
    · refine s_aload_n (pc := 12) X rfl dX9_fault_12 ?_
      refine s_getR (pc := 13) X shX_0 rfl fl_RX9_67 dX9_fault_13 ?_
      refine s_getI (pc := 16) X shX_8 rfl fl_RX9_249 dX9_fault_16 ?_
      exact p_iret (pc := 19) X dX9_fault_19
  · refine s_iconst (pc := 5) X ic_m1 dX9_fault_5 ?_
    exact p_iret (pc := 6) X dX9_fault_6

-- X9_nextTest
def F_X9_nextTest (fu : Nat) (x : Mem) : Res :=
  (cl (F_X2_testThatPartsMost fu (x 3 6) x) (fun r_1 x_2 => (some (r_1, x_2))))
set_option maxRecDepth 100000 in
set_option maxHeartbeats 4000000 in
theorem c_X9_nextTest (l : Launch) (D : va_G) (cy : ClassId) (ad : Nat → Nat) (fu : Nat) (x : Mem) : Ct l D cy ad shX yX9_nextTest cX9_nextTest 1 (some .int) 6 240 [.ref (ad 0)] x (F_X9_nextTest fu x) := by
  refine ct_of [some (.ref (ad 0))] (by decide) (Nat.le_of_ble_eq_true rfl) rfl rfl ?_
  intro p e s m args below meth c A X
  have X : Cx p s m args meth c RX9 cX9_nextTest 1 (some .int) D cy ad shX A := X
  unfold F_X9_nextTest
  refine s_aload_n (pc := 0) X rfl dX9_nextTest_0 ?_
  refine s_getR (pc := 1) X shX_0 rfl fl_RX9_67 dX9_nextTest_1 ?_
  refine s_aload_n (pc := 4) X rfl dX9_nextTest_4 ?_
  refine s_getR (pc := 5) X shX_0 rfl fl_RX9_28 dX9_nextTest_5 ?_
  refine s_getI (pc := 8) X shX_3 rfl fl_RX9_92 dX9_nextTest_8 ?_
  refine s_callV (pc := 11) (As := [.int (x 3 6)]) (st := []) X lk_RX9_253 (c_X2_testThatPartsMost l D cy ad fu _ _) shX_8 rfl rfl rfl rfl ⟨by decide, by decide⟩ (Nat.le_of_ble_eq_true rfl) dX9_nextTest_11 (fun r_1 x_2 => ?_)
  exact s_iret (pc := 14) X dX9_nextTest_14

-- X9_frame
def F_X9_frame (fu : Nat) (l1 : Int32) (l2 : Int32) (l3 : Int32) (x : Mem) : Res :=
  (clp (F_X9_within fu l1 24 x) (fun r_1 => (if r_1 = 0 then (some ((-1), x)) else (clp (F_X9_within fu l2 24 x) (fun r_2 => (if r_2 = 0 then (some ((-1), x)) else (if l3 < 0 then (some ((-1), x)) else (if l3 ≤ 2 then (clp (F_X3_areSideBySide fu l1 l2 x) (fun r_3 => (if r_3 = 0 then (some ((-1), x)) else (cl (F_X3_setBetween fu l1 l2 l3 x) (fun r_4 x_5 => (some (r_4, x_5))))))) else (some ((-1), x))))))))))
set_option maxRecDepth 100000 in
set_option maxHeartbeats 4000000 in
theorem c_X9_frame (l : Launch) (D : va_G) (cy : ClassId) (ad : Nat → Nat) (fu : Nat) (l1 : Int32) (l2 : Int32) (l3 : Int32) (x : Mem) : Ct l D cy ad shX yX9_frame cX9_frame 4 (some .int) 3 120 [.ref (ad 0), .int l1, .int l2, .int l3] x (F_X9_frame fu l1 l2 l3 x) := by
  refine ct_of [some (.ref (ad 0)), some (.int l1), some (.int l2), some (.int l3)] (by decide) (Nat.le_of_ble_eq_true rfl) rfl rfl ?_
  intro p e s m args below meth c A X
  have X : Cx p s m args meth c RX9 cX9_frame 4 (some .int) D cy ad shX A := X
  unfold F_X9_frame
  refine s_iload_n (pc := 0) X rfl dX9_frame_0 ?_
  refine s_bipush (pc := 1) X bp_24 dX9_frame_1 ?_
  refine s_callSp (pc := 3) (As := [.int l1, .int 24]) (st := []) X lk_RX9_78 (c_X9_within l D cy ad fu _ _ _) rfl rfl ⟨by decide, by decide⟩ (Nat.le_of_ble_eq_true rfl) dX9_frame_3 (fun r_1 => ?_)
  refine s_if_eq (pc := 6) X 27 rfl dX9_frame_6 ?_ ?_
  · refine s_iconst (pc := 27) X ic_m1 dX9_frame_27 ?_
    exact s_iret (pc := 28) X dX9_frame_28
  · refine s_iload_n (pc := 9) X rfl dX9_frame_9 ?_
    refine s_bipush (pc := 10) X bp_24 dX9_frame_10 ?_
    refine s_callSp (pc := 12) (As := [.int l2, .int 24]) (st := []) X lk_RX9_78 (c_X9_within l D cy ad fu _ _ _) rfl rfl ⟨by decide, by decide⟩ (Nat.le_of_ble_eq_true rfl) dX9_frame_12 (fun r_2 => ?_)
    refine s_if_eq (pc := 15) X 27 rfl dX9_frame_15 ?_ ?_
    · refine s_iconst (pc := 27) X ic_m1 dX9_frame_27 ?_
      exact s_iret (pc := 28) X dX9_frame_28
    · refine s_iload_n (pc := 18) X rfl dX9_frame_18 ?_
      refine s_if_lt (pc := 19) X 27 rfl dX9_frame_19 ?_ ?_
      · refine s_iconst (pc := 27) X ic_m1 dX9_frame_27 ?_
        exact s_iret (pc := 28) X dX9_frame_28
      · refine s_iload_n (pc := 22) X rfl dX9_frame_22 ?_
        refine s_iconst (pc := 23) X ic_2 dX9_frame_23 ?_
        refine s_icmp_le (pc := 24) X 29 rfl dX9_frame_24 ?_ ?_
        · refine s_aload_n (pc := 29) X rfl dX9_frame_29 ?_
          refine s_getR (pc := 30) X shX_0 rfl fl_RX9_74 dX9_frame_30 ?_
          refine s_iload_n (pc := 33) X rfl dX9_frame_33 ?_
          refine s_iload_n (pc := 34) X rfl dX9_frame_34 ?_
          refine s_callVp (pc := 35) (As := [.int l1, .int l2]) (st := []) X lk_RX9_256 (c_X3_areSideBySide l D cy ad fu _ _ _) shX_9 rfl rfl rfl rfl ⟨by decide, by decide⟩ (Nat.le_of_ble_eq_true rfl) dX9_frame_35 (fun r_3 => ?_)
          refine s_if_ne (pc := 38) X 43 rfl dX9_frame_38 ?_ ?_
          · refine s_aload_n (pc := 43) X rfl dX9_frame_43 ?_
            refine s_getR (pc := 44) X shX_0 rfl fl_RX9_74 dX9_frame_44 ?_
            refine s_iload_n (pc := 47) X rfl dX9_frame_47 ?_
            refine s_iload_n (pc := 48) X rfl dX9_frame_48 ?_
            refine s_iload_n (pc := 49) X rfl dX9_frame_49 ?_
            refine s_callV (pc := 50) (As := [.int l1, .int l2, .int l3]) (st := []) X lk_RX9_259 (c_X3_setBetween l D cy ad fu _ _ _ _) shX_9 rfl rfl rfl rfl ⟨by decide, by decide⟩ (Nat.le_of_ble_eq_true rfl) dX9_frame_50 (fun r_4 x_5 => ?_)
            exact s_iret (pc := 53) X dX9_frame_53
          · refine s_iconst (pc := 41) X ic_m1 dX9_frame_41 ?_
            exact s_iret (pc := 42) X dX9_frame_42
        · refine s_iconst (pc := 27) X ic_m1 dX9_frame_27 ?_
          exact s_iret (pc := 28) X dX9_frame_28

-- X9_wires
def F_X9_wires (fu : Nat) (l1 : Int32) (x : Mem) : Res :=
  (clp (F_X9_within fu l1 16777216 x) (fun r_1 => (if r_1 = 0 then (some ((-1), x)) else (clp (F_J6_bitCount_0f7a4 fu l1 x) (fun r_2 => (if r_2 < 1 then (some ((-1), x)) else (if r_2 ≤ 5 then (cl (F_X3_fewestNew fu l1 x) (fun r_3 x_4 => (some (r_3, x_4)))) else (some ((-1), x)))))))))
set_option maxRecDepth 100000 in
set_option maxHeartbeats 4000000 in
theorem c_X9_wires (l : Launch) (D : va_G) (cy : ClassId) (ad : Nat → Nat) (fu : Nat) (l1 : Int32) (x : Mem) : Ct l D cy ad shX yX9_wires cX9_wires 3 (some .int) 4 160 [.ref (ad 0), .int l1] x (F_X9_wires fu l1 x) := by
  refine ct_of [some (.ref (ad 0)), some (.int l1), none] (by decide) (Nat.le_of_ble_eq_true rfl) rfl rfl ?_
  intro p e s m args below meth c A X
  have X : Cx p s m args meth c RX9 cX9_wires 3 (some .int) D cy ad shX A := X
  unfold F_X9_wires
  refine s_iload_n (pc := 0) X rfl dX9_wires_0 ?_
  refine s_ldcw (pc := 1) X k_RX9_262 dX9_wires_1 ?_
  refine s_callSp (pc := 4) (As := [.int l1, .int 16777216]) (st := []) X lk_RX9_78 (c_X9_within l D cy ad fu _ _ _) rfl rfl ⟨by decide, by decide⟩ (Nat.le_of_ble_eq_true rfl) dX9_wires_4 (fun r_1 => ?_)
  refine s_if_ne (pc := 7) X 12 rfl dX9_wires_7 ?_ ?_
  · refine s_iload_n (pc := 12) X rfl dX9_wires_12 ?_
    refine s_callSp (pc := 13) (As := [.int l1]) (st := []) X lk_RX9_97 (c_J6_bitCount_0f7a4 l D cy ad fu _ _) rfl rfl ⟨by decide, by decide⟩ (Nat.le_of_ble_eq_true rfl) dX9_wires_13 (fun r_2 => ?_)
    refine s_istore_n (pc := 16) X [some (.ref (ad 0)), some (.int l1), some (.int r_2)] rfl (by decide) dX9_wires_16 ?_
    refine s_iload_n (pc := 17) X rfl dX9_wires_17 ?_
    refine s_iconst (pc := 18) X ic_1 dX9_wires_18 ?_
    refine s_icmp_lt (pc := 19) X 27 rfl dX9_wires_19 ?_ ?_
    · refine s_iconst (pc := 27) X ic_m1 dX9_wires_27 ?_
      exact s_iret (pc := 28) X dX9_wires_28
    · refine s_iload_n (pc := 22) X rfl dX9_wires_22 ?_
      refine s_iconst (pc := 23) X ic_5 dX9_wires_23 ?_
      refine s_icmp_le (pc := 24) X 29 rfl dX9_wires_24 ?_ ?_
      · refine s_aload_n (pc := 29) X rfl dX9_wires_29 ?_
        refine s_getR (pc := 30) X shX_0 rfl fl_RX9_74 dX9_wires_30 ?_
        refine s_iload_n (pc := 33) X rfl dX9_wires_33 ?_
        refine s_callV (pc := 34) (As := [.int l1]) (st := []) X lk_RX9_263 (c_X3_fewestNew l D cy ad fu _ _) shX_9 rfl rfl rfl rfl ⟨by decide, by decide⟩ (Nat.le_of_ble_eq_true rfl) dX9_wires_34 (fun r_3 x_4 => ?_)
        exact s_iret (pc := 37) X dX9_wires_37
      · refine s_iconst (pc := 27) X ic_m1 dX9_wires_27 ?_
        exact s_iret (pc := 28) X dX9_wires_28
  · refine s_iconst (pc := 10) X ic_m1 dX9_wires_10 ?_
    exact s_iret (pc := 11) X dX9_wires_11

-- X9_count
def F_X9_count (fu : Nat) (l1 : Int32) (x : Mem) : Option Int32 :=
  (if l1 = 0 then (some (x 1 0)) else (if l1 = 1 then (some (x 4 0)) else (if l1 = 2 then (some (x 6 3)) else (if l1 = 3 then (clp (F_X1_countIn fu 1 x) (fun r_4 => (some r_4))) else (if l1 = 4 then (clp (F_X1_countIn fu 2 x) (fun r_3 => (some r_3))) else (if l1 = 5 then (clp (F_J6_bitCount_0f7a4 fu (x 5 5) x) (fun r_2 => (some r_2))) else (if l1 = 6 then (some (x 8 4)) else (if l1 = 7 then (clp (F_X3_countWires fu x) (fun r_1 => (some r_1))) else (if l1 = 8 then (some (x 5 6)) else (some (-1)))))))))))
set_option maxRecDepth 100000 in
set_option maxHeartbeats 4000000 in
theorem c_X9_count (l : Launch) (D : va_G) (cy : ClassId) (ad : Nat → Nat) (fu : Nat) (l1 : Int32) (x : Mem) : Ct l D cy ad shX yX9_count cX9_count 2 (some .int) 2 80 [.ref (ad 0), .int l1] x (pr (F_X9_count fu l1 x) x) := by
  refine ct_of [some (.ref (ad 0)), some (.int l1)] (by decide) (Nat.le_of_ble_eq_true rfl) rfl rfl ?_
  intro p e s m args below meth c A X
  have X : Cx p s m args meth c RX9 cX9_count 2 (some .int) D cy ad shX A := X
  unfold F_X9_count
  refine s_iload_n (pc := 0) X rfl dX9_count_0 ?_
  refine p_ite (fun e1_0 => ?_) (fun e1_0 => ?_)
  · refine s_tabI (pc := 1) X 52 (by rw [e1_0]; decide) (by rw [e1_0]; decide) (by rw [e1_0]; rfl) rfl dX9_count_1 ?_
    refine s_aload_n (pc := 52) X rfl dX9_count_52 ?_
    refine s_getR (pc := 53) X shX_0 rfl fl_RX9_10 dX9_count_53 ?_
    refine s_getI (pc := 56) X shX_1 rfl fl_RX9_103 dX9_count_56 ?_
    exact p_iret (pc := 59) X dX9_count_59
  · refine p_ite (fun e1_1 => ?_) (fun e1_1 => ?_)
    · refine s_tabI (pc := 1) X 60 (by rw [e1_1]; decide) (by rw [e1_1]; decide) (by rw [e1_1]; rfl) rfl dX9_count_1 ?_
      refine s_aload_n (pc := 60) X rfl dX9_count_60 ?_
      refine s_getR (pc := 61) X shX_0 rfl fl_RX9_35 dX9_count_61 ?_
      refine s_getI (pc := 64) X shX_4 rfl fl_RX9_142 dX9_count_64 ?_
      exact p_iret (pc := 67) X dX9_count_67
    · refine p_ite (fun e1_2 => ?_) (fun e1_2 => ?_)
      · refine s_tabI (pc := 1) X 68 (by rw [e1_2]; decide) (by rw [e1_2]; decide) (by rw [e1_2]; rfl) rfl dX9_count_1 ?_
        refine s_aload_n (pc := 68) X rfl dX9_count_68 ?_
        refine s_getR (pc := 69) X shX_0 rfl fl_RX9_51 dX9_count_69 ?_
        refine s_getI (pc := 72) X shX_6 rfl fl_RX9_150 dX9_count_72 ?_
        exact p_iret (pc := 75) X dX9_count_75
      · refine p_ite (fun e1_3 => ?_) (fun e1_3 => ?_)
        · refine s_tabI (pc := 1) X 76 (by rw [e1_3]; decide) (by rw [e1_3]; decide) (by rw [e1_3]; rfl) rfl dX9_count_1 ?_
          refine s_aload_n (pc := 76) X rfl dX9_count_76 ?_
          refine s_getR (pc := 77) X shX_0 rfl fl_RX9_42 dX9_count_77 ?_
          refine s_iconst (pc := 80) X ic_1 dX9_count_80 ?_
          refine p_callV (pc := 81) (As := [.int 1]) (st := []) X lk_RX9_218 (c_X1_countIn l D cy ad fu _ _) shX_5 rfl rfl rfl rfl ⟨by decide, by decide⟩ (Nat.le_of_ble_eq_true rfl) dX9_count_81 (fun r_4 => ?_)
          exact p_iret (pc := 84) X dX9_count_84
        · refine p_ite (fun e1_4 => ?_) (fun e1_4 => ?_)
          · refine s_tabI (pc := 1) X 85 (by rw [e1_4]; decide) (by rw [e1_4]; decide) (by rw [e1_4]; rfl) rfl dX9_count_1 ?_
            refine s_aload_n (pc := 85) X rfl dX9_count_85 ?_
            refine s_getR (pc := 86) X shX_0 rfl fl_RX9_42 dX9_count_86 ?_
            refine s_iconst (pc := 89) X ic_2 dX9_count_89 ?_
            refine p_callV (pc := 90) (As := [.int 2]) (st := []) X lk_RX9_218 (c_X1_countIn l D cy ad fu _ _) shX_5 rfl rfl rfl rfl ⟨by decide, by decide⟩ (Nat.le_of_ble_eq_true rfl) dX9_count_90 (fun r_3 => ?_)
            exact p_iret (pc := 93) X dX9_count_93
          · refine p_ite (fun e1_5 => ?_) (fun e1_5 => ?_)
            · refine s_tabI (pc := 1) X 94 (by rw [e1_5]; decide) (by rw [e1_5]; decide) (by rw [e1_5]; rfl) rfl dX9_count_1 ?_
              refine s_aload_n (pc := 94) X rfl dX9_count_94 ?_
              refine s_getR (pc := 95) X shX_0 rfl fl_RX9_42 dX9_count_95 ?_
              refine s_getI (pc := 98) X shX_5 rfl fl_RX9_176 dX9_count_98 ?_
              refine p_callS (pc := 101) (As := [.int (x 5 5)]) (st := []) X lk_RX9_97 (c_J6_bitCount_0f7a4 l D cy ad fu _ _) rfl rfl ⟨by decide, by decide⟩ (Nat.le_of_ble_eq_true rfl) dX9_count_101 (fun r_2 => ?_)
              exact p_iret (pc := 104) X dX9_count_104
            · refine p_ite (fun e1_6 => ?_) (fun e1_6 => ?_)
              · refine s_tabI (pc := 1) X 105 (by rw [e1_6]; decide) (by rw [e1_6]; decide) (by rw [e1_6]; rfl) rfl dX9_count_1 ?_
                refine s_aload_n (pc := 105) X rfl dX9_count_105 ?_
                refine s_getR (pc := 106) X shX_0 rfl fl_RX9_67 dX9_count_106 ?_
                refine s_getI (pc := 109) X shX_8 rfl fl_RX9_240 dX9_count_109 ?_
                exact p_iret (pc := 112) X dX9_count_112
              · refine p_ite (fun e1_7 => ?_) (fun e1_7 => ?_)
                · refine s_tabI (pc := 1) X 113 (by rw [e1_7]; decide) (by rw [e1_7]; decide) (by rw [e1_7]; rfl) rfl dX9_count_1 ?_
                  refine s_aload_n (pc := 113) X rfl dX9_count_113 ?_
                  refine s_getR (pc := 114) X shX_0 rfl fl_RX9_74 dX9_count_114 ?_
                  refine p_callV (pc := 117) (As := []) (st := []) X lk_RX9_266 (c_X3_countWires l D cy ad fu _) shX_9 rfl rfl rfl rfl ⟨by decide, by decide⟩ (Nat.le_of_ble_eq_true rfl) dX9_count_117 (fun r_1 => ?_)
                  exact p_iret (pc := 120) X dX9_count_120
                · refine p_ite (fun e1_8 => ?_) (fun e1_8 => ?_)
                  · refine s_tabI (pc := 1) X 121 (by rw [e1_8]; decide) (by rw [e1_8]; decide) (by rw [e1_8]; rfl) rfl dX9_count_1 ?_
                    refine s_aload_n (pc := 121) X rfl dX9_count_121 ?_
                    refine s_getR (pc := 122) X shX_0 rfl fl_RX9_42 dX9_count_122 ?_
                    refine s_getI (pc := 125) X shX_5 rfl fl_RX9_269 dX9_count_125 ?_
                    exact p_iret (pc := 128) X dX9_count_128
                  · have hT : (l1 : Int32).toInt < (0 : Int) ∨ (8 : Int) < (l1 : Int32).toInt := tabO _ 8 (by decide) (fun k hk => by rcases (show k = 0 ∨ k = 1 ∨ k = 2 ∨ k = 3 ∨ k = 4 ∨ k = 5 ∨ k = 6 ∨ k = 7 ∨ k = 8 by omega) with rfl | rfl | rfl | rfl | rfl | rfl | rfl | rfl | rfl <;> first | exact e1_0 | exact e1_1 | exact e1_2 | exact e1_3 | exact e1_4 | exact e1_5 | exact e1_6 | exact e1_7 | exact e1_8)
                    refine s_tabO (pc := 1) X 129 hT rfl dX9_count_1 ?_
                    refine s_iconst (pc := 129) X ic_m1 dX9_count_129 ?_
                    exact p_iret (pc := 130) X dX9_count_130
