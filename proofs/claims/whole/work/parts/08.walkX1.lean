-- X3_joinTrees
def L_X3_joinTrees_2 (fu : Nat) (l1 : Int32) : Nat → Int32 → Mem → (Mem → Res) → Res
  | 0, _, _, _ => none
  | n + 1, l2, x, K => (if l1 ≤ l2 then (K x) else (letv (l1 &&& (l2 ^^^ (-1))) (fun l3_1 => (if (l2 &&& l1) = l2 then (if l3_1 ≤ l2 then (L_X3_joinTrees_2 fu l1 n (l2 + 1) x K) else (cl (F_X3_joinTwo fu (l1 * 24) (l2 * 24) (l3_1 * 24) x) (fun _ x_2 => (L_X3_joinTrees_2 fu l1 n (l2 + 1) x_2 K)))) else (L_X3_joinTrees_2 fu l1 n (l2 + 1) x K)))))
set_option maxRecDepth 100000 in
set_option maxHeartbeats 4000000 in
theorem tL_X3_joinTrees_2 {p : Program} {l : Launch} {e : Env} {s : State} {m : MethodId} {args : Array Value} {below : List Frame} {meth : Method} {c : Code} {D : va_G} {cy : ClassId} {ad : Nat → Nat} {A : Nat → Prop} {fu : Nat} (X : Cx p s m args meth c RX3 cX3_joinTrees 4 none D cy ad shX A) {l1 : Int32} {K : Mem → Res} (hK : ∀ (x : Mem), Sim p l e ({ frames := 2, cells := 0, slots := 0, locals := 80 } : Room) s m args below meth c 4 none D cy ad shX A 47 [none, none, none, none] [] x (K x)) : ∀ (n : Nat) (l2 : Int32) (x : Mem), Sim p l e ({ frames := 2, cells := 0, slots := 0, locals := 80 } : Room) s m args below meth c 4 none D cy ad shX A 2 [some (.ref (ad 9)), some (.int l1), some (.int l2), none] [] x (L_X3_joinTrees_2 fu l1 n l2 x K) := by
  intro n
  induction n with
  | zero =>
    intro l2 x
    rw [L_X3_joinTrees_2]
    exact s_none
  | succ n ih =>
    intro l2 x
    rw [L_X3_joinTrees_2]
    refine s_iload_n (pc := 2) X rfl dX3_joinTrees_2 ?_
    refine s_iload_n (pc := 3) X rfl dX3_joinTrees_3 ?_
    refine s_icmp_ge (pc := 4) X 47 rfl dX3_joinTrees_4 ?_ ?_
    · refine s_mask [false, false, false, false] ?_
      exact hK _
    · refine s_iload_n (pc := 7) X rfl dX3_joinTrees_7 ?_
      refine s_iload_n (pc := 8) X rfl dX3_joinTrees_8 ?_
      refine s_iconst (pc := 9) X ic_m1 dX3_joinTrees_9 ?_
      refine s_ixor (pc := 10) X dX3_joinTrees_10 ?_
      refine s_iand (pc := 11) X dX3_joinTrees_11 ?_
      refine s_letv (fun l3_1 => ?_)
      refine s_istore_n (pc := 12) X [some (.ref (ad 9)), some (.int l1), some (.int l2), some (.int l3_1)] rfl (by decide) dX3_joinTrees_12 ?_
      refine s_iload_n (pc := 13) X rfl dX3_joinTrees_13 ?_
      refine s_iload_n (pc := 14) X rfl dX3_joinTrees_14 ?_
      refine s_iand (pc := 15) X dX3_joinTrees_15 ?_
      refine s_iload_n (pc := 16) X rfl dX3_joinTrees_16 ?_
      refine s_icmp_ne (pc := 17) X 41 rfl dX3_joinTrees_17 ?_ ?_
      · refine s_iinc (pc := 41) X [some (.ref (ad 9)), some (.int l1), some (.int (l2 + 1)), some (.int l3_1)] rfl (by decide) rfl ic_1 dX3_joinTrees_41 ?_
        refine s_goto (pc := 44) X 2 rfl dX3_joinTrees_44 ?_
        refine s_mask [true, true, true, false] ?_
        exact ih _ _
      · refine s_iload_n (pc := 20) X rfl dX3_joinTrees_20 ?_
        refine s_iload_n (pc := 21) X rfl dX3_joinTrees_21 ?_
        refine s_icmp_ge (pc := 22) X 41 rfl dX3_joinTrees_22 ?_ ?_
        · refine s_iinc (pc := 41) X [some (.ref (ad 9)), some (.int l1), some (.int (l2 + 1)), some (.int l3_1)] rfl (by decide) rfl ic_1 dX3_joinTrees_41 ?_
          refine s_goto (pc := 44) X 2 rfl dX3_joinTrees_44 ?_
          refine s_mask [true, true, true, false] ?_
          exact ih _ _
        · refine s_aload_n (pc := 25) X rfl dX3_joinTrees_25 ?_
          refine s_iload_n (pc := 26) X rfl dX3_joinTrees_26 ?_
          refine s_bipush (pc := 27) X bp_24 dX3_joinTrees_27 ?_
          refine s_imul (pc := 29) X dX3_joinTrees_29 ?_
          refine s_iload_n (pc := 30) X rfl dX3_joinTrees_30 ?_
          refine s_bipush (pc := 31) X bp_24 dX3_joinTrees_31 ?_
          refine s_imul (pc := 33) X dX3_joinTrees_33 ?_
          refine s_iload_n (pc := 34) X rfl dX3_joinTrees_34 ?_
          refine s_bipush (pc := 35) X bp_24 dX3_joinTrees_35 ?_
          refine s_imul (pc := 37) X dX3_joinTrees_37 ?_
          refine s_callV0 (pc := 38) (As := [.int (l1 * 24), .int (l2 * 24), .int (l3_1 * 24)]) (st := []) X lk_RX3_52 (c_X3_joinTwo l D cy ad fu _ _ _ _) shX_9 rfl rfl rfl rfl ⟨by decide, by decide⟩ (Nat.le_of_ble_eq_true rfl) dX3_joinTrees_38 (fun _ x_2 => ?_)
          refine s_iinc (pc := 41) X [some (.ref (ad 9)), some (.int l1), some (.int (l2 + 1)), some (.int l3_1)] rfl (by decide) rfl ic_1 dX3_joinTrees_41 ?_
          refine s_goto (pc := 44) X 2 rfl dX3_joinTrees_44 ?_
          refine s_mask [true, true, true, false] ?_
          exact ih _ _

def F_X3_joinTrees (fu : Nat) (l1 : Int32) (x : Mem) : Res :=
  (L_X3_joinTrees_2 fu l1 fu 1 x (fun x_3 => (some (0, x_3))))
set_option maxRecDepth 100000 in
set_option maxHeartbeats 4000000 in
theorem c_X3_joinTrees (l : Launch) (D : va_G) (cy : ClassId) (ad : Nat → Nat) (fu : Nat) (l1 : Int32) (x : Mem) : Ct l D cy ad shX yX3_joinTrees cX3_joinTrees 4 none 2 80 [.ref (ad 9), .int l1] x (F_X3_joinTrees fu l1 x) := by
  refine ct_of [some (.ref (ad 9)), some (.int l1), none, none] (by decide) (Nat.le_of_ble_eq_true rfl) rfl rfl ?_
  intro p e s m args below meth c A X
  have X : Cx p s m args meth c RX3 cX3_joinTrees 4 none D cy ad shX A := X
  unfold F_X3_joinTrees
  refine s_iconst (pc := 0) X ic_1 dX3_joinTrees_0 ?_
  refine s_istore_n (pc := 1) X [some (.ref (ad 9)), some (.int l1), some (.int 1), none] rfl (by decide) dX3_joinTrees_1 ?_
  refine tL_X3_joinTrees_2 X (fun x_3 => ?_) fu _ _
  exact s_vret (pc := 47) X dX3_joinTrees_47

-- X3_even
def F_X3_even (fu : Nat) (l1 : Int32) (l2 : Int32) (l3 : Int32) (x : Mem) : Res :=
  (if l3 = 1 then (retz 0 x) else (jn (fun (k_1 : Int32 → Res) => (if l3 = 2 then (k_1 0) else (k_1 1))) (fun v_2 => (chk l1 384 (chk l2 384 (if (x 38 (l2 : Int32).toNatClampNeg) ≤ ((x 38 (l1 : Int32).toNatClampNeg) + v_2) then (chk l2 384 (chk l1 384 (if (x 38 (l1 : Int32).toNatClampNeg) ≤ ((x 38 (l2 : Int32).toNatClampNeg) + v_2) then (retz 0 x) else (chk l2 384 (chk l1 384 (letm (wr x 38 (l1 : Int32).toNatClampNeg ((x 38 (l2 : Int32).toNatClampNeg) + v_2)) (fun x_3 => (retz 1 x_3)))))))) else (chk l1 384 (chk l2 384 (letm (wr x 38 (l2 : Int32).toNatClampNeg ((x 38 (l1 : Int32).toNatClampNeg) + v_2)) (fun x_4 => (retz 1 x_4)))))))))))
set_option maxRecDepth 100000 in
set_option maxHeartbeats 4000000 in
theorem c_X3_even (l : Launch) (D : va_G) (cy : ClassId) (ad : Nat → Nat) (fu : Nat) (l1 : Int32) (l2 : Int32) (l3 : Int32) (x : Mem) : Ct l D cy ad shX yX3_even cX3_even 5 (some .boolean) 1 40 [.ref (ad 9), .int l1, .int l2, .int l3] x (F_X3_even fu l1 l2 l3 x) := by
  refine ct_of [some (.ref (ad 9)), some (.int l1), some (.int l2), some (.int l3), none] (by decide) (Nat.le_of_ble_eq_true rfl) rfl rfl ?_
  intro p e s m args below meth c A X
  have X : Cx p s m args meth c RX3 cX3_even 5 (some .boolean) D cy ad shX A := X
  unfold F_X3_even
  refine s_iload_n (pc := 0) X rfl dX3_even_0 ?_
  refine s_iconst (pc := 1) X ic_1 dX3_even_1 ?_
  refine s_icmp_ne (pc := 2) X 7 rfl dX3_even_2 ?_ ?_
  · refine s_iload_n (pc := 7) X rfl dX3_even_7 ?_
    refine s_iconst (pc := 8) X ic_2 dX3_even_8 ?_
    refine s_jn (fun (k_1 : Int32 → Res) => ∀ (v_2 : Int32), Sim p l e ({ frames := 1, cells := 0, slots := 0, locals := 40 } : Room) s m args below meth c 5 (some .boolean) D cy ad shX A 17 [some (.ref (ad 9)), some (.int l1), some (.int l2), none, none] [.int v_2] x (k_1 v_2)) ?_ (fun k_1 hk_1 => ?_)
    · intro v_2
      refine s_istore (pc := 17) X [some (.ref (ad 9)), some (.int l1), some (.int l2), none, some (.int v_2)] rfl (by decide) dX3_even_17 ?_
      refine s_aload_n (pc := 19) X rfl dX3_even_19 ?_
      refine s_getR (pc := 20) X shX_9 rfl fl_RX3_21 dX3_even_20 ?_
      refine s_iload_n (pc := 23) X rfl dX3_even_23 ?_
      refine s_iald (pc := 24) X shX_38 dX3_even_24 ?_
      refine s_iload (pc := 25) X rfl dX3_even_25 ?_
      refine s_iadd (pc := 27) X dX3_even_27 ?_
      refine s_aload_n (pc := 28) X rfl dX3_even_28 ?_
      refine s_getR (pc := 29) X shX_9 rfl fl_RX3_21 dX3_even_29 ?_
      refine s_iload_n (pc := 32) X rfl dX3_even_32 ?_
      refine s_iald (pc := 33) X shX_38 dX3_even_33 ?_
      refine s_icmp_ge (pc := 34) X 54 rfl dX3_even_34 ?_ ?_
      · refine s_aload_n (pc := 54) X rfl dX3_even_54 ?_
        refine s_getR (pc := 55) X shX_9 rfl fl_RX3_21 dX3_even_55 ?_
        refine s_iload_n (pc := 58) X rfl dX3_even_58 ?_
        refine s_iald (pc := 59) X shX_38 dX3_even_59 ?_
        refine s_iload (pc := 60) X rfl dX3_even_60 ?_
        refine s_iadd (pc := 62) X dX3_even_62 ?_
        refine s_aload_n (pc := 63) X rfl dX3_even_63 ?_
        refine s_getR (pc := 64) X shX_9 rfl fl_RX3_21 dX3_even_64 ?_
        refine s_iload_n (pc := 67) X rfl dX3_even_67 ?_
        refine s_iald (pc := 68) X shX_38 dX3_even_68 ?_
        refine s_icmp_ge (pc := 69) X 89 rfl dX3_even_69 ?_ ?_
        · refine s_iconst (pc := 89) X ic_0 dX3_even_89 ?_
          exact s_zret (pc := 90) X dX3_even_90
        · refine s_aload_n (pc := 72) X rfl dX3_even_72 ?_
          refine s_getR (pc := 73) X shX_9 rfl fl_RX3_21 dX3_even_73 ?_
          refine s_iload_n (pc := 76) X rfl dX3_even_76 ?_
          refine s_aload_n (pc := 77) X rfl dX3_even_77 ?_
          refine s_getR (pc := 78) X shX_9 rfl fl_RX3_21 dX3_even_78 ?_
          refine s_iload_n (pc := 81) X rfl dX3_even_81 ?_
          refine s_iald (pc := 82) X shX_38 dX3_even_82 ?_
          refine s_iload (pc := 83) X rfl dX3_even_83 ?_
          refine s_iadd (pc := 85) X dX3_even_85 ?_
          refine s_iast (pc := 86) X shX_38 dX3_even_86 ?_
          refine s_letm (fun x_3 => ?_)
          refine s_iconst (pc := 87) X ic_1 dX3_even_87 ?_
          exact s_zret (pc := 88) X dX3_even_88
      · refine s_aload_n (pc := 37) X rfl dX3_even_37 ?_
        refine s_getR (pc := 38) X shX_9 rfl fl_RX3_21 dX3_even_38 ?_
        refine s_iload_n (pc := 41) X rfl dX3_even_41 ?_
        refine s_aload_n (pc := 42) X rfl dX3_even_42 ?_
        refine s_getR (pc := 43) X shX_9 rfl fl_RX3_21 dX3_even_43 ?_
        refine s_iload_n (pc := 46) X rfl dX3_even_46 ?_
        refine s_iald (pc := 47) X shX_38 dX3_even_47 ?_
        refine s_iload (pc := 48) X rfl dX3_even_48 ?_
        refine s_iadd (pc := 50) X dX3_even_50 ?_
        refine s_iast (pc := 51) X shX_38 dX3_even_51 ?_
        refine s_letm (fun x_4 => ?_)
        refine s_iconst (pc := 52) X ic_1 dX3_even_52 ?_
        exact s_zret (pc := 53) X dX3_even_53
    · refine s_icmp_ne (pc := 9) X 16 rfl dX3_even_9 ?_ ?_
      · refine s_iconst (pc := 16) X ic_1 dX3_even_16 ?_
        refine s_mask [true, true, true, false, false] ?_
        exact hk_1 _
      · refine s_iconst (pc := 12) X ic_0 dX3_even_12 ?_
        refine s_goto (pc := 13) X 17 rfl dX3_even_13 ?_
        refine s_mask [true, true, true, false, false] ?_
        exact hk_1 _
  · refine s_iconst (pc := 5) X ic_0 dX3_even_5 ?_
    exact s_zret (pc := 6) X dX3_even_6

-- X3_spread
def L_X3_spread_19 (fu : Nat) (l1 : Int32) (l3 : Int32) : Nat → Int32 → Int32 → Mem → (Int32 → Mem → Res) → Res
  | 0, _, _, _, _ => none
  | n + 1, l2, l4, x, K => (if (24 : Int32) ≤ l4 then (K l2 x) else (nz 6 (jn (fun (k_1 : Int32 → Mem → Res) => (if (l4 - l4 / 6 * 6) = 5 then (k_1 l2 x) else (chk l4 24 (cl (F_X3_even fu (l1 + l4) ((l1 + l4) + 1) (x 35 (l4 : Int32).toNatClampNeg) x) (fun r_2 x_3 => (if r_2 = 0 then (k_1 l2 x_3) else (k_1 1 x_3))))))) (fun l2_4 x_5 => (if (24 : Int32) ≤ (l4 + 6) then (L_X3_spread_19 fu l1 l3 n l2_4 (l4 + 1) x_5 K) else (chk l4 24 (cl (F_X3_even fu (l1 + l4) ((l1 + l4) + 6) (x_5 36 (l4 : Int32).toNatClampNeg) x_5) (fun r_6 x_7 => (if r_6 = 0 then (L_X3_spread_19 fu l1 l3 n l2_4 (l4 + 1) x_7 K) else (L_X3_spread_19 fu l1 l3 n 1 (l4 + 1) x_7 K))))))))))
set_option maxRecDepth 100000 in
set_option maxHeartbeats 4000000 in
theorem tL_X3_spread_19 {p : Program} {l : Launch} {e : Env} {s : State} {m : MethodId} {args : Array Value} {below : List Frame} {meth : Method} {c : Code} {D : va_G} {cy : ClassId} {ad : Nat → Nat} {A : Nat → Prop} {fu : Nat} (X : Cx p s m args meth c RX3 cX3_spread 5 none D cy ad shX A) {l1 : Int32} {l3 : Int32} {K : Int32 → Mem → Res} (hK : ∀ (l2 : Int32) (x : Mem), Sim p l e ({ frames := 2, cells := 0, slots := 0, locals := 80 } : Room) s m args below meth c 5 none D cy ad shX A 104 [some (.ref (ad 9)), some (.int l1), some (.int l2), some (.int l3), none] [] x (K l2 x)) : ∀ (n : Nat) (l2 : Int32) (l4 : Int32) (x : Mem), Sim p l e ({ frames := 2, cells := 0, slots := 0, locals := 80 } : Room) s m args below meth c 5 none D cy ad shX A 19 [some (.ref (ad 9)), some (.int l1), some (.int l2), some (.int l3), some (.int l4)] [] x (L_X3_spread_19 fu l1 l3 n l2 l4 x K) := by
  intro n
  induction n with
  | zero =>
    intro l2 l4 x
    rw [L_X3_spread_19]
    exact s_none
  | succ n ih =>
    intro l2 l4 x
    rw [L_X3_spread_19]
    refine s_iload (pc := 19) X rfl dX3_spread_19 ?_
    refine s_bipush (pc := 21) X bp_24 dX3_spread_21 ?_
    refine s_icmp_ge (pc := 23) X 104 rfl dX3_spread_23 ?_ ?_
    · refine s_mask [true, true, true, true, false] ?_
      exact hK _ _
    · refine s_iload (pc := 26) X rfl dX3_spread_26 ?_
      refine s_bipush (pc := 28) X bp_6 dX3_spread_28 ?_
      refine s_irem (pc := 30) X dX3_spread_30 ?_
      refine s_iconst (pc := 31) X ic_5 dX3_spread_31 ?_
      refine s_jn (fun (k_1 : Int32 → Mem → Res) => ∀ (l2_4 : Int32) (x_5 : Mem), Sim p l e ({ frames := 2, cells := 0, slots := 0, locals := 80 } : Room) s m args below meth c 5 none D cy ad shX A 61 [some (.ref (ad 9)), some (.int l1), some (.int l2_4), some (.int l3), some (.int l4)] [] x_5 (k_1 l2_4 x_5)) ?_ (fun k_1 hk_1 => ?_)
      · intro l2_4 x_5
        refine s_iload (pc := 61) X rfl dX3_spread_61 ?_
        refine s_bipush (pc := 63) X bp_6 dX3_spread_63 ?_
        refine s_iadd (pc := 65) X dX3_spread_65 ?_
        refine s_bipush (pc := 66) X bp_24 dX3_spread_66 ?_
        refine s_icmp_ge (pc := 68) X 98 rfl dX3_spread_68 ?_ ?_
        · refine s_iinc (pc := 98) X [some (.ref (ad 9)), some (.int l1), some (.int l2_4), some (.int l3), some (.int (l4 + 1))] rfl (by decide) rfl ic_1 dX3_spread_98 ?_
          refine s_goto (pc := 101) X 19 rfl dX3_spread_101 ?_
          exact ih _ _ _
        · refine s_aload_n (pc := 71) X rfl dX3_spread_71 ?_
          refine s_iload_n (pc := 72) X rfl dX3_spread_72 ?_
          refine s_iload (pc := 73) X rfl dX3_spread_73 ?_
          refine s_iadd (pc := 75) X dX3_spread_75 ?_
          refine s_iload_n (pc := 76) X rfl dX3_spread_76 ?_
          refine s_iload (pc := 77) X rfl dX3_spread_77 ?_
          refine s_iadd (pc := 79) X dX3_spread_79 ?_
          refine s_bipush (pc := 80) X bp_6 dX3_spread_80 ?_
          refine s_iadd (pc := 82) X dX3_spread_82 ?_
          refine s_aload_n (pc := 83) X rfl dX3_spread_83 ?_
          refine s_getR (pc := 84) X shX_9 rfl fl_RX3_15 dX3_spread_84 ?_
          refine s_iload (pc := 87) X rfl dX3_spread_87 ?_
          refine s_iald (pc := 89) X shX_36 dX3_spread_89 ?_
          refine s_callV (pc := 90) (As := [.int (l1 + l4), .int ((l1 + l4) + 6), .int (x_5 36 (l4 : Int32).toNatClampNeg)]) (st := []) X lk_RX3_56 (c_X3_even l D cy ad fu _ _ _ _) shX_9 rfl rfl rfl rfl ⟨by decide, by decide⟩ (Nat.le_of_ble_eq_true rfl) dX3_spread_90 (fun r_6 x_7 => ?_)
          refine s_if_eq (pc := 93) X 98 rfl dX3_spread_93 ?_ ?_
          · refine s_iinc (pc := 98) X [some (.ref (ad 9)), some (.int l1), some (.int l2_4), some (.int l3), some (.int (l4 + 1))] rfl (by decide) rfl ic_1 dX3_spread_98 ?_
            refine s_goto (pc := 101) X 19 rfl dX3_spread_101 ?_
            exact ih _ _ _
          · refine s_iconst (pc := 96) X ic_1 dX3_spread_96 ?_
            refine s_istore_n (pc := 97) X [some (.ref (ad 9)), some (.int l1), some (.int 1), some (.int l3), some (.int l4)] rfl (by decide) dX3_spread_97 ?_
            refine s_iinc (pc := 98) X [some (.ref (ad 9)), some (.int l1), some (.int 1), some (.int l3), some (.int (l4 + 1))] rfl (by decide) rfl ic_1 dX3_spread_98 ?_
            refine s_goto (pc := 101) X 19 rfl dX3_spread_101 ?_
            exact ih _ _ _
      · refine s_icmp_eq (pc := 32) X 61 rfl dX3_spread_32 ?_ ?_
        · exact hk_1 _ _
        · refine s_aload_n (pc := 35) X rfl dX3_spread_35 ?_
          refine s_iload_n (pc := 36) X rfl dX3_spread_36 ?_
          refine s_iload (pc := 37) X rfl dX3_spread_37 ?_
          refine s_iadd (pc := 39) X dX3_spread_39 ?_
          refine s_iload_n (pc := 40) X rfl dX3_spread_40 ?_
          refine s_iload (pc := 41) X rfl dX3_spread_41 ?_
          refine s_iadd (pc := 43) X dX3_spread_43 ?_
          refine s_iconst (pc := 44) X ic_1 dX3_spread_44 ?_
          refine s_iadd (pc := 45) X dX3_spread_45 ?_
          refine s_aload_n (pc := 46) X rfl dX3_spread_46 ?_
          refine s_getR (pc := 47) X shX_9 rfl fl_RX3_9 dX3_spread_47 ?_
          refine s_iload (pc := 50) X rfl dX3_spread_50 ?_
          refine s_iald (pc := 52) X shX_35 dX3_spread_52 ?_
          refine s_callV (pc := 53) (As := [.int (l1 + l4), .int ((l1 + l4) + 1), .int (x 35 (l4 : Int32).toNatClampNeg)]) (st := []) X lk_RX3_56 (c_X3_even l D cy ad fu _ _ _ _) shX_9 rfl rfl rfl rfl ⟨by decide, by decide⟩ (Nat.le_of_ble_eq_true rfl) dX3_spread_53 (fun r_2 x_3 => ?_)
          refine s_if_eq (pc := 56) X 61 rfl dX3_spread_56 ?_ ?_
          · exact hk_1 _ _
          · refine s_iconst (pc := 59) X ic_1 dX3_spread_59 ?_
            refine s_istore_n (pc := 60) X [some (.ref (ad 9)), some (.int l1), some (.int 1), some (.int l3), some (.int l4)] rfl (by decide) dX3_spread_60 ?_
            exact hk_1 _ _

def L_X3_spread_4 (fu : Nat) (l1 : Int32) : Nat → Int32 → Int32 → Mem → (Mem → Res) → Res
  | 0, _, _, _, _ => none
  | n + 1, l2, l3, x, K => (if (24 : Int32) ≤ l3 then (K x) else (if l2 = 0 then (K x) else (L_X3_spread_19 fu l1 l3 fu 0 0 x (fun l2_8 x_9 => (L_X3_spread_4 fu l1 n l2_8 (l3 + 1) x_9 K)))))
set_option maxRecDepth 100000 in
set_option maxHeartbeats 4000000 in
theorem tL_X3_spread_4 {p : Program} {l : Launch} {e : Env} {s : State} {m : MethodId} {args : Array Value} {below : List Frame} {meth : Method} {c : Code} {D : va_G} {cy : ClassId} {ad : Nat → Nat} {A : Nat → Prop} {fu : Nat} (X : Cx p s m args meth c RX3 cX3_spread 5 none D cy ad shX A) {l1 : Int32} {K : Mem → Res} (hK : ∀ (x : Mem), Sim p l e ({ frames := 2, cells := 0, slots := 0, locals := 80 } : Room) s m args below meth c 5 none D cy ad shX A 110 [none, none, none, none, none] [] x (K x)) : ∀ (n : Nat) (l2 : Int32) (l3 : Int32) (x : Mem), Sim p l e ({ frames := 2, cells := 0, slots := 0, locals := 80 } : Room) s m args below meth c 5 none D cy ad shX A 4 [some (.ref (ad 9)), some (.int l1), some (.int l2), some (.int l3), none] [] x (L_X3_spread_4 fu l1 n l2 l3 x K) := by
  intro n
  induction n with
  | zero =>
    intro l2 l3 x
    rw [L_X3_spread_4]
    exact s_none
  | succ n ih =>
    intro l2 l3 x
    rw [L_X3_spread_4]
    refine s_iload_n (pc := 4) X rfl dX3_spread_4 ?_
    refine s_bipush (pc := 5) X bp_24 dX3_spread_5 ?_
    refine s_icmp_ge (pc := 7) X 110 rfl dX3_spread_7 ?_ ?_
    · refine s_mask [false, false, false, false, false] ?_
      exact hK _
    · refine s_iload_n (pc := 10) X rfl dX3_spread_10 ?_
      refine s_if_eq (pc := 11) X 110 rfl dX3_spread_11 ?_ ?_
      · refine s_mask [false, false, false, false, false] ?_
        exact hK _
      · refine s_iconst (pc := 14) X ic_0 dX3_spread_14 ?_
        refine s_istore_n (pc := 15) X [some (.ref (ad 9)), some (.int l1), some (.int 0), some (.int l3), none] rfl (by decide) dX3_spread_15 ?_
        refine s_iconst (pc := 16) X ic_0 dX3_spread_16 ?_
        refine s_istore (pc := 17) X [some (.ref (ad 9)), some (.int l1), some (.int 0), some (.int l3), some (.int 0)] rfl (by decide) dX3_spread_17 ?_
        refine tL_X3_spread_19 X (fun l2_8 x_9 => ?_) fu _ _ _
        refine s_iinc (pc := 104) X [some (.ref (ad 9)), some (.int l1), some (.int l2_8), some (.int (l3 + 1)), none] rfl (by decide) rfl ic_1 dX3_spread_104 ?_
        refine s_goto (pc := 107) X 4 rfl dX3_spread_107 ?_
        exact ih _ _ _

def F_X3_spread (fu : Nat) (l1 : Int32) (x : Mem) : Res :=
  (L_X3_spread_4 fu l1 fu 1 0 x (fun x_10 => (some (0, x_10))))
set_option maxRecDepth 100000 in
set_option maxHeartbeats 4000000 in
theorem c_X3_spread (l : Launch) (D : va_G) (cy : ClassId) (ad : Nat → Nat) (fu : Nat) (l1 : Int32) (x : Mem) : Ct l D cy ad shX yX3_spread cX3_spread 5 none 2 80 [.ref (ad 9), .int l1] x (F_X3_spread fu l1 x) := by
  refine ct_of [some (.ref (ad 9)), some (.int l1), none, none, none] (by decide) (Nat.le_of_ble_eq_true rfl) rfl rfl ?_
  intro p e s m args below meth c A X
  have X : Cx p s m args meth c RX3 cX3_spread 5 none D cy ad shX A := X
  unfold F_X3_spread
  refine s_iconst (pc := 0) X ic_1 dX3_spread_0 ?_
  refine s_istore_n (pc := 1) X [some (.ref (ad 9)), some (.int l1), some (.int 1), none, none] rfl (by decide) dX3_spread_1 ?_
  refine s_iconst (pc := 2) X ic_0 dX3_spread_2 ?_
  refine s_istore_n (pc := 3) X [some (.ref (ad 9)), some (.int l1), some (.int 1), some (.int 0), none] rfl (by decide) dX3_spread_3 ?_
  refine tL_X3_spread_4 X (fun x_10 => ?_) fu _ _ _
  exact s_vret (pc := 110) X dX3_spread_110

-- X3_fewestNew
def L_X3_fewestNew_24 (fu : Nat) (l2 : Int32) (l3 : Int32) : Nat → Int32 → Mem → (Mem → Res) → Res
  | 0, _, _, _ => none
  | n + 1, l4, x, K => (if l3 < l4 then (K x) else (cl (F_X3_startTrees fu l4 l2 x) (fun _ x_5 => (cl (F_X3_joinTrees fu l4 x_5) (fun _ x_6 => (cl (F_X3_spread fu (l4 * 24) x_6) (fun _ x_7 => (L_X3_fewestNew_24 fu l2 l3 n (l4 + 1) x_7 K))))))))
set_option maxRecDepth 100000 in
set_option maxHeartbeats 4000000 in
theorem tL_X3_fewestNew_24 {p : Program} {l : Launch} {e : Env} {s : State} {m : MethodId} {args : Array Value} {below : List Frame} {meth : Method} {c : Code} {D : va_G} {cy : ClassId} {ad : Nat → Nat} {A : Nat → Prop} {fu : Nat} (X : Cx p s m args meth c RX3 cX3_fewestNew 5 (some .int) D cy ad shX A) {l2 : Int32} {l3 : Int32} {K : Mem → Res} (hK : ∀ (x : Mem), Sim p l e ({ frames := 3, cells := 0, slots := 0, locals := 120 } : Room) s m args below meth c 5 (some .int) D cy ad shX A 58 [some (.ref (ad 9)), none, some (.int l2), some (.int l3), none] [] x (K x)) : ∀ (n : Nat) (l4 : Int32) (x : Mem), Sim p l e ({ frames := 3, cells := 0, slots := 0, locals := 120 } : Room) s m args below meth c 5 (some .int) D cy ad shX A 24 [some (.ref (ad 9)), none, some (.int l2), some (.int l3), some (.int l4)] [] x (L_X3_fewestNew_24 fu l2 l3 n l4 x K) := by
  intro n
  induction n with
  | zero =>
    intro l4 x
    rw [L_X3_fewestNew_24]
    exact s_none
  | succ n ih =>
    intro l4 x
    rw [L_X3_fewestNew_24]
    refine s_iload (pc := 24) X rfl dX3_fewestNew_24 ?_
    refine s_iload_n (pc := 26) X rfl dX3_fewestNew_26 ?_
    refine s_icmp_gt (pc := 27) X 58 rfl dX3_fewestNew_27 ?_ ?_
    · refine s_mask [true, false, true, true, false] ?_
      exact hK _
    · refine s_aload_n (pc := 30) X rfl dX3_fewestNew_30 ?_
      refine s_iload (pc := 31) X rfl dX3_fewestNew_31 ?_
      refine s_iload_n (pc := 33) X rfl dX3_fewestNew_33 ?_
      refine s_callV0 (pc := 34) (As := [.int l4, .int l2]) (st := []) X lk_RX3_41 (c_X3_startTrees l D cy ad fu _ _ _) shX_9 rfl rfl rfl rfl ⟨by decide, by decide⟩ (Nat.le_of_ble_eq_true rfl) dX3_fewestNew_34 (fun _ x_5 => ?_)
      refine s_aload_n (pc := 37) X rfl dX3_fewestNew_37 ?_
      refine s_iload (pc := 38) X rfl dX3_fewestNew_38 ?_
      refine s_callV0 (pc := 40) (As := [.int l4]) (st := []) X lk_RX3_45 (c_X3_joinTrees l D cy ad fu _ _) shX_9 rfl rfl rfl rfl ⟨by decide, by decide⟩ (Nat.le_of_ble_eq_true rfl) dX3_fewestNew_40 (fun _ x_6 => ?_)
      refine s_aload_n (pc := 43) X rfl dX3_fewestNew_43 ?_
      refine s_iload (pc := 44) X rfl dX3_fewestNew_44 ?_
      refine s_bipush (pc := 46) X bp_24 dX3_fewestNew_46 ?_
      refine s_imul (pc := 48) X dX3_fewestNew_48 ?_
      refine s_callV0 (pc := 49) (As := [.int (l4 * 24)]) (st := []) X lk_RX3_49 (c_X3_spread l D cy ad fu _ _) shX_9 rfl rfl rfl rfl ⟨by decide, by decide⟩ (Nat.le_of_ble_eq_true rfl) dX3_fewestNew_49 (fun _ x_7 => ?_)
      refine s_iinc (pc := 52) X [some (.ref (ad 9)), none, some (.int l2), some (.int l3), some (.int (l4 + 1))] rfl (by decide) rfl ic_1 dX3_fewestNew_52 ?_
      refine s_goto (pc := 55) X 24 rfl dX3_fewestNew_55 ?_
      exact ih _ _

def F_X3_fewestNew (fu : Nat) (l1 : Int32) (x : Mem) : Res :=
  (cl (F_X3_gatherEnds fu l1 x) (fun r_1 x_2 => (letv (r_1 - 1) (fun l2_3 => (if (1 : Int32) ≤ l2_3 then (letv (((1 : Int32) <<< (l2_3 &&& 31)) - 1) (fun l3_4 => (L_X3_fewestNew_24 fu l2_3 l3_4 fu 1 x_2 (fun x_8 => (chk l2_3 5 (chk ((l3_4 * 24) + (x_8 37 (l2_3 : Int32).toNatClampNeg)) 384 (letv (x_8 38 (((l3_4 * 24) + (x_8 37 (l2_3 : Int32).toNatClampNeg)) : Int32).toNatClampNeg) (fun l4_9 => (if (1000 : Int32) ≤ l4_9 then (some ((-4), x_8)) else (some (l4_9, x_8))))))))))) else (some (0, x_2)))))))
set_option maxRecDepth 100000 in
set_option maxHeartbeats 4000000 in
theorem c_X3_fewestNew (l : Launch) (D : va_G) (cy : ClassId) (ad : Nat → Nat) (fu : Nat) (l1 : Int32) (x : Mem) : Ct l D cy ad shX yX3_fewestNew cX3_fewestNew 5 (some .int) 3 120 [.ref (ad 9), .int l1] x (F_X3_fewestNew fu l1 x) := by
  refine ct_of [some (.ref (ad 9)), some (.int l1), none, none, none] (by decide) (Nat.le_of_ble_eq_true rfl) rfl rfl ?_
  intro p e s m args below meth c A X
  have X : Cx p s m args meth c RX3 cX3_fewestNew 5 (some .int) D cy ad shX A := X
  unfold F_X3_fewestNew
  refine s_aload_n (pc := 0) X rfl dX3_fewestNew_0 ?_
  refine s_iload_n (pc := 1) X rfl dX3_fewestNew_1 ?_
  refine s_callV (pc := 2) (As := [.int l1]) (st := []) X lk_RX3_37 (c_X3_gatherEnds l D cy ad fu _ _) shX_9 rfl rfl rfl rfl ⟨by decide, by decide⟩ (Nat.le_of_ble_eq_true rfl) dX3_fewestNew_2 (fun r_1 x_2 => ?_)
  refine s_iconst (pc := 5) X ic_1 dX3_fewestNew_5 ?_
  refine s_isub (pc := 6) X dX3_fewestNew_6 ?_
  refine s_letv (fun l2_3 => ?_)
  refine s_istore_n (pc := 7) X [some (.ref (ad 9)), some (.int l1), some (.int l2_3), none, none] rfl (by decide) dX3_fewestNew_7 ?_
  refine s_iload_n (pc := 8) X rfl dX3_fewestNew_8 ?_
  refine s_iconst (pc := 9) X ic_1 dX3_fewestNew_9 ?_
  refine s_icmp_ge (pc := 10) X 15 rfl dX3_fewestNew_10 ?_ ?_
  · refine s_iconst (pc := 15) X ic_1 dX3_fewestNew_15 ?_
    refine s_iload_n (pc := 16) X rfl dX3_fewestNew_16 ?_
    refine s_ishl (pc := 17) X dX3_fewestNew_17 ?_
    refine s_iconst (pc := 18) X ic_1 dX3_fewestNew_18 ?_
    refine s_isub (pc := 19) X dX3_fewestNew_19 ?_
    refine s_letv (fun l3_4 => ?_)
    refine s_istore_n (pc := 20) X [some (.ref (ad 9)), some (.int l1), some (.int l2_3), some (.int l3_4), none] rfl (by decide) dX3_fewestNew_20 ?_
    refine s_iconst (pc := 21) X ic_1 dX3_fewestNew_21 ?_
    refine s_istore (pc := 22) X [some (.ref (ad 9)), some (.int l1), some (.int l2_3), some (.int l3_4), some (.int 1)] rfl (by decide) dX3_fewestNew_22 ?_
    refine s_mask [true, false, true, true, true] ?_
    refine tL_X3_fewestNew_24 X (fun x_8 => ?_) fu _ _
    refine s_aload_n (pc := 58) X rfl dX3_fewestNew_58 ?_
    refine s_getR (pc := 59) X shX_9 rfl fl_RX3_21 dX3_fewestNew_59 ?_
    refine s_iload_n (pc := 62) X rfl dX3_fewestNew_62 ?_
    refine s_bipush (pc := 63) X bp_24 dX3_fewestNew_63 ?_
    refine s_imul (pc := 65) X dX3_fewestNew_65 ?_
    refine s_aload_n (pc := 66) X rfl dX3_fewestNew_66 ?_
    refine s_getR (pc := 67) X shX_9 rfl fl_RX3_18 dX3_fewestNew_67 ?_
    refine s_iload_n (pc := 70) X rfl dX3_fewestNew_70 ?_
    refine s_iald (pc := 71) X shX_37 dX3_fewestNew_71 ?_
    refine s_iadd (pc := 72) X dX3_fewestNew_72 ?_
    refine s_iald (pc := 73) X shX_38 dX3_fewestNew_73 ?_
    refine s_letv (fun l4_9 => ?_)
    refine s_istore (pc := 74) X [some (.ref (ad 9)), none, some (.int l2_3), some (.int l3_4), some (.int l4_9)] rfl (by decide) dX3_fewestNew_74 ?_
    refine s_iload (pc := 76) X rfl dX3_fewestNew_76 ?_
    refine s_sipush (pc := 78) X sp_1000 dX3_fewestNew_78 ?_
    refine s_icmp_ge (pc := 81) X 89 rfl dX3_fewestNew_81 ?_ ?_
    · refine s_bipush (pc := 89) X bp_m4 dX3_fewestNew_89 ?_
      exact s_iret (pc := 91) X dX3_fewestNew_91
    · refine s_iload (pc := 84) X rfl dX3_fewestNew_84 ?_
      refine s_goto (pc := 86) X 91 rfl dX3_fewestNew_86 ?_
      exact s_iret (pc := 91) X dX3_fewestNew_91
  · refine s_iconst (pc := 13) X ic_0 dX3_fewestNew_13 ?_
    exact s_iret (pc := 14) X dX3_fewestNew_14

-- X9_within
def F_X9_within (fu : Nat) (l0 : Int32) (l1 : Int32) (x : Mem) : Option Int32 :=
  (if l0 < 0 then (retzp 0) else (if l1 ≤ l0 then (retzp 0) else (retzp 1)))
set_option maxRecDepth 100000 in
set_option maxHeartbeats 4000000 in
theorem c_X9_within (l : Launch) (D : va_G) (cy : ClassId) (ad : Nat → Nat) (fu : Nat) (l0 : Int32) (l1 : Int32) (x : Mem) : Ct l D cy ad shX yX9_within cX9_within 2 (some .boolean) 1 40 [.int l0, .int l1] x (pr (F_X9_within fu l0 l1 x) x) := by
  refine ct_of [some (.int l0), some (.int l1)] (by decide) (Nat.le_of_ble_eq_true rfl) rfl rfl ?_
  intro p e s m args below meth c A X
  have X : Cx p s m args meth c RX9 cX9_within 2 (some .boolean) D cy ad shX A := X
  unfold F_X9_within
  refine s_iload_n (pc := 0) X rfl dX9_within_0 ?_
  refine p_if_lt (pc := 1) X 13 rfl dX9_within_1 ?_ ?_
  · refine s_iconst (pc := 13) X ic_0 dX9_within_13 ?_
    exact p_zret (pc := 14) X dX9_within_14
  · refine s_iload_n (pc := 4) X rfl dX9_within_4 ?_
    refine s_iload_n (pc := 5) X rfl dX9_within_5 ?_
    refine p_icmp_ge (pc := 6) X 13 rfl dX9_within_6 ?_ ?_
    · refine s_iconst (pc := 13) X ic_0 dX9_within_13 ?_
      exact p_zret (pc := 14) X dX9_within_14
    · refine s_iconst (pc := 9) X ic_1 dX9_within_9 ?_
      refine s_goto (pc := 10) X 14 rfl dX9_within_10 ?_
      exact p_zret (pc := 14) X dX9_within_14

-- X4_has
def F_X4_has (fu : Nat) (l1 : Int32) (x : Mem) : Option Int32 :=
  (clp (F_X9_within fu l1 (x 1 0) x) (fun r_1 => (retzp r_1)))
set_option maxRecDepth 100000 in
set_option maxHeartbeats 4000000 in
theorem c_X4_has (l : Launch) (D : va_G) (cy : ClassId) (ad : Nat → Nat) (fu : Nat) (l1 : Int32) (x : Mem) : Ct l D cy ad shX yX4_has cX4_has 2 (some .boolean) 2 80 [.ref (ad 1), .int l1] x (pr (F_X4_has fu l1 x) x) := by
  refine ct_of [some (.ref (ad 1)), some (.int l1)] (by decide) (Nat.le_of_ble_eq_true rfl) rfl rfl ?_
  intro p e s m args below meth c A X
  have X : Cx p s m args meth c RX4 cX4_has 2 (some .boolean) D cy ad shX A := X
  unfold F_X4_has
  refine s_iload_n (pc := 0) X rfl dX4_has_0 ?_
  refine s_aload_n (pc := 1) X rfl dX4_has_1 ?_
  refine s_getI (pc := 2) X shX_1 rfl fl_RX4_27 dX4_has_2 ?_
  refine p_callN (pc := 5) (As := [.int l1, .int (x 1 0)]) (st := []) X lk_RX4_31 (c_X9_within l D cy ad fu _ _ _) rfl rfl ⟨by decide, by decide⟩ (Nat.le_of_ble_eq_true rfl) dX4_has_5 (fun r_1 => ?_)
  exact p_zret (pc := 8) X dX4_has_8

-- X4_add
def F_X4_add (fu : Nat) (l1 : Int32) (l2 : Int32) (l3 : Int32) (l4 : Int32) (l5 : Int32) (x : Mem) : Res :=
  (letv (x 1 0) (fun l6_1 => (chk l6_1 12 (letm (wr x 10 (l6_1 : Int32).toNatClampNeg l1) (fun x_2 => (chk l6_1 12 (letm (wr x_2 11 (l6_1 : Int32).toNatClampNeg l2) (fun x_3 => (chk l6_1 12 (letm (wr x_3 12 (l6_1 : Int32).toNatClampNeg l3) (fun x_4 => (chk l6_1 12 (letm (wr x_4 13 (l6_1 : Int32).toNatClampNeg l4) (fun x_5 => (chk l6_1 12 (letm (wr x_5 14 (l6_1 : Int32).toNatClampNeg l5) (fun x_6 => (letm (wr x_6 1 0 ((x_6 1 0) + 1)) (fun x_7 => (some (l6_1, x_7)))))))))))))))))))))
set_option maxRecDepth 100000 in
set_option maxHeartbeats 4000000 in
theorem c_X4_add (l : Launch) (D : va_G) (cy : ClassId) (ad : Nat → Nat) (fu : Nat) (l1 : Int32) (l2 : Int32) (l3 : Int32) (l4 : Int32) (l5 : Int32) (x : Mem) : Ct l D cy ad shX yX4_add cX4_add 7 (some .int) 1 40 [.ref (ad 1), .int l1, .int l2, .int l3, .int l4, .int l5] x (F_X4_add fu l1 l2 l3 l4 l5 x) := by
  refine ct_of [some (.ref (ad 1)), some (.int l1), some (.int l2), some (.int l3), some (.int l4), some (.int l5), none] (by decide) (Nat.le_of_ble_eq_true rfl) rfl rfl ?_
  intro p e s m args below meth c A X
  have X : Cx p s m args meth c RX4 cX4_add 7 (some .int) D cy ad shX A := X
  unfold F_X4_add
  refine s_aload_n (pc := 0) X rfl dX4_add_0 ?_
  refine s_getI (pc := 1) X shX_1 rfl fl_RX4_27 dX4_add_1 ?_
  refine s_letv (fun l6_1 => ?_)
  refine s_istore (pc := 4) X [some (.ref (ad 1)), some (.int l1), some (.int l2), some (.int l3), some (.int l4), some (.int l5), some (.int l6_1)] rfl (by decide) dX4_add_4 ?_
  refine s_aload_n (pc := 6) X rfl dX4_add_6 ?_
  refine s_getR (pc := 7) X shX_1 rfl fl_RX4_9 dX4_add_7 ?_
  refine s_iload (pc := 10) X rfl dX4_add_10 ?_
  refine s_iload_n (pc := 12) X rfl dX4_add_12 ?_
  refine s_iast (pc := 13) X shX_10 dX4_add_13 ?_
  refine s_letm (fun x_2 => ?_)
  refine s_aload_n (pc := 14) X rfl dX4_add_14 ?_
  refine s_getR (pc := 15) X shX_1 rfl fl_RX4_15 dX4_add_15 ?_
  refine s_iload (pc := 18) X rfl dX4_add_18 ?_
  refine s_iload_n (pc := 20) X rfl dX4_add_20 ?_
  refine s_iast (pc := 21) X shX_11 dX4_add_21 ?_
  refine s_letm (fun x_3 => ?_)
  refine s_aload_n (pc := 22) X rfl dX4_add_22 ?_
  refine s_getR (pc := 23) X shX_1 rfl fl_RX4_18 dX4_add_23 ?_
  refine s_iload (pc := 26) X rfl dX4_add_26 ?_
  refine s_iload_n (pc := 28) X rfl dX4_add_28 ?_
  refine s_iast (pc := 29) X shX_12 dX4_add_29 ?_
  refine s_letm (fun x_4 => ?_)
  refine s_aload_n (pc := 30) X rfl dX4_add_30 ?_
  refine s_getR (pc := 31) X shX_1 rfl fl_RX4_21 dX4_add_31 ?_
  refine s_iload (pc := 34) X rfl dX4_add_34 ?_
  refine s_iload (pc := 36) X rfl dX4_add_36 ?_
  refine s_iast (pc := 38) X shX_13 dX4_add_38 ?_
  refine s_letm (fun x_5 => ?_)
  refine s_aload_n (pc := 39) X rfl dX4_add_39 ?_
  refine s_getR (pc := 40) X shX_1 rfl fl_RX4_24 dX4_add_40 ?_
  refine s_iload (pc := 43) X rfl dX4_add_43 ?_
  refine s_iload (pc := 45) X rfl dX4_add_45 ?_
  refine s_iast (pc := 47) X shX_14 dX4_add_47 ?_
  refine s_letm (fun x_6 => ?_)
  refine s_aload_n (pc := 48) X rfl dX4_add_48 ?_
  refine s_dup (pc := 49) X rfl dX4_add_49 ?_
  refine s_getI (pc := 50) X shX_1 rfl fl_RX4_27 dX4_add_50 ?_
  refine s_iconst (pc := 53) X ic_1 dX4_add_53 ?_
  refine s_iadd (pc := 54) X dX4_add_54 ?_
  refine s_put (pc := 55) X shX_1 rfl fp_RX4_27 dX4_add_55 ?_
  refine s_letm (fun x_7 => ?_)
  refine s_iload (pc := 58) X rfl dX4_add_58 ?_
  exact s_iret (pc := 60) X dX4_add_60

-- X5_add
def F_X5_add (fu : Nat) (l1 : Int32) (l2 : Int32) (l3 : Int32) (x : Mem) : Res :=
  (letv (x 4 0) (fun l4_1 => (chk l4_1 5 (letm (wr x 19 (l4_1 : Int32).toNatClampNeg l1) (fun x_2 => (chk l4_1 5 (letm (wr x_2 20 (l4_1 : Int32).toNatClampNeg l2) (fun x_3 => (chk l4_1 5 (letm (wr x_3 21 (l4_1 : Int32).toNatClampNeg l3) (fun x_4 => (chk l4_1 5 (letm (wr x_4 22 (l4_1 : Int32).toNatClampNeg (-4)) (fun x_5 => (letm (wr x_5 4 0 ((x_5 4 0) + 1)) (fun x_6 => (some (l4_1, x_6))))))))))))))))))
set_option maxRecDepth 100000 in
set_option maxHeartbeats 4000000 in
theorem c_X5_add (l : Launch) (D : va_G) (cy : ClassId) (ad : Nat → Nat) (fu : Nat) (l1 : Int32) (l2 : Int32) (l3 : Int32) (x : Mem) : Ct l D cy ad shX yX5_add cX5_add 5 (some .int) 1 40 [.ref (ad 4), .int l1, .int l2, .int l3] x (F_X5_add fu l1 l2 l3 x) := by
  refine ct_of [some (.ref (ad 4)), some (.int l1), some (.int l2), some (.int l3), none] (by decide) (Nat.le_of_ble_eq_true rfl) rfl rfl ?_
  intro p e s m args below meth c A X
  have X : Cx p s m args meth c RX5 cX5_add 5 (some .int) D cy ad shX A := X
  unfold F_X5_add
  refine s_aload_n (pc := 0) X rfl dX5_add_0 ?_
  refine s_getI (pc := 1) X shX_4 rfl fl_RX5_30 dX5_add_1 ?_
  refine s_letv (fun l4_1 => ?_)
  refine s_istore (pc := 4) X [some (.ref (ad 4)), some (.int l1), some (.int l2), some (.int l3), some (.int l4_1)] rfl (by decide) dX5_add_4 ?_
  refine s_aload_n (pc := 6) X rfl dX5_add_6 ?_
  refine s_getR (pc := 7) X shX_4 rfl fl_RX5_9 dX5_add_7 ?_
  refine s_iload (pc := 10) X rfl dX5_add_10 ?_
  refine s_iload_n (pc := 12) X rfl dX5_add_12 ?_
  refine s_iast (pc := 13) X shX_19 dX5_add_13 ?_
  refine s_letm (fun x_2 => ?_)
  refine s_aload_n (pc := 14) X rfl dX5_add_14 ?_
  refine s_getR (pc := 15) X shX_4 rfl fl_RX5_15 dX5_add_15 ?_
  refine s_iload (pc := 18) X rfl dX5_add_18 ?_
  refine s_iload_n (pc := 20) X rfl dX5_add_20 ?_
  refine s_iast (pc := 21) X shX_20 dX5_add_21 ?_
  refine s_letm (fun x_3 => ?_)
  refine s_aload_n (pc := 22) X rfl dX5_add_22 ?_
  refine s_getR (pc := 23) X shX_4 rfl fl_RX5_18 dX5_add_23 ?_
  refine s_iload (pc := 26) X rfl dX5_add_26 ?_
  refine s_iload_n (pc := 28) X rfl dX5_add_28 ?_
  refine s_iast (pc := 29) X shX_21 dX5_add_29 ?_
  refine s_letm (fun x_4 => ?_)
  refine s_aload_n (pc := 30) X rfl dX5_add_30 ?_
  refine s_getR (pc := 31) X shX_4 rfl fl_RX5_21 dX5_add_31 ?_
  refine s_iload (pc := 34) X rfl dX5_add_34 ?_
  refine s_bipush (pc := 36) X bp_m4 dX5_add_36 ?_
  refine s_iast (pc := 38) X shX_22 dX5_add_38 ?_
  refine s_letm (fun x_5 => ?_)
  refine s_aload_n (pc := 39) X rfl dX5_add_39 ?_
  refine s_dup (pc := 40) X rfl dX5_add_40 ?_
  refine s_getI (pc := 41) X shX_4 rfl fl_RX5_30 dX5_add_41 ?_
  refine s_iconst (pc := 44) X ic_1 dX5_add_44 ?_
  refine s_iadd (pc := 45) X dX5_add_45 ?_
  refine s_put (pc := 46) X shX_4 rfl fp_RX5_30 dX5_add_46 ?_
  refine s_letm (fun x_6 => ?_)
  refine s_iload (pc := 49) X rfl dX5_add_49 ?_
  exact s_iret (pc := 51) X dX5_add_51

-- X5_isFree
def F_X5_isFree (fu : Nat) (l1 : Int32) (x : Mem) : Option Int32 :=
  (chk l1 5 (if (x 22 (l1 : Int32).toNatClampNeg) = (-4) then (retzp 1) else (retzp 0)))
set_option maxRecDepth 100000 in
set_option maxHeartbeats 4000000 in
theorem c_X5_isFree (l : Launch) (D : va_G) (cy : ClassId) (ad : Nat → Nat) (fu : Nat) (l1 : Int32) (x : Mem) : Ct l D cy ad shX yX5_isFree cX5_isFree 2 (some .boolean) 1 40 [.ref (ad 4), .int l1] x (pr (F_X5_isFree fu l1 x) x) := by
  refine ct_of [some (.ref (ad 4)), some (.int l1)] (by decide) (Nat.le_of_ble_eq_true rfl) rfl rfl ?_
  intro p e s m args below meth c A X
  have X : Cx p s m args meth c RX5 cX5_isFree 2 (some .boolean) D cy ad shX A := X
  unfold F_X5_isFree
  refine s_aload_n (pc := 0) X rfl dX5_isFree_0 ?_
  refine s_getR (pc := 1) X shX_4 rfl fl_RX5_21 dX5_isFree_1 ?_
  refine s_iload_n (pc := 4) X rfl dX5_isFree_4 ?_
  refine p_iald (pc := 5) X shX_22 dX5_isFree_5 ?_
  refine s_bipush (pc := 6) X bp_m4 dX5_isFree_6 ?_
  refine p_icmp_ne (pc := 8) X 15 rfl dX5_isFree_8 ?_ ?_
  · refine s_iconst (pc := 15) X ic_0 dX5_isFree_15 ?_
    exact p_zret (pc := 16) X dX5_isFree_16
  · refine s_iconst (pc := 11) X ic_1 dX5_isFree_11 ?_
    refine s_goto (pc := 12) X 16 rfl dX5_isFree_12 ?_
    exact p_zret (pc := 16) X dX5_isFree_16

-- X5_mayGo
def F_X5_mayGo (fu : Nat) (l1 : Int32) (l2 : Int32) (x : Mem) : Option Int32 :=
  (clp (F_X5_isFree fu l1 x) (fun r_1 => (if r_1 = 0 then (retzp 0) else (chk l1 5 (if (((x 21 (l1 : Int32).toNatClampNeg) >>> (l2 &&& 31)) &&& 1) = 0 then (retzp 0) else (retzp 1))))))
set_option maxRecDepth 100000 in
set_option maxHeartbeats 4000000 in
theorem c_X5_mayGo (l : Launch) (D : va_G) (cy : ClassId) (ad : Nat → Nat) (fu : Nat) (l1 : Int32) (l2 : Int32) (x : Mem) : Ct l D cy ad shX yX5_mayGo cX5_mayGo 3 (some .boolean) 2 80 [.ref (ad 4), .int l1, .int l2] x (pr (F_X5_mayGo fu l1 l2 x) x) := by
  refine ct_of [some (.ref (ad 4)), some (.int l1), some (.int l2)] (by decide) (Nat.le_of_ble_eq_true rfl) rfl rfl ?_
  intro p e s m args below meth c A X
  have X : Cx p s m args meth c RX5 cX5_mayGo 3 (some .boolean) D cy ad shX A := X
  unfold F_X5_mayGo
  refine s_aload_n (pc := 0) X rfl dX5_mayGo_0 ?_
  refine s_iload_n (pc := 1) X rfl dX5_mayGo_1 ?_
  refine p_callV (pc := 2) (As := [.int l1]) (st := []) X lk_RX5_34 (c_X5_isFree l D cy ad fu _ _) shX_4 rfl rfl rfl rfl ⟨by decide, by decide⟩ (Nat.le_of_ble_eq_true rfl) dX5_mayGo_2 (fun r_1 => ?_)
  refine p_if_eq (pc := 5) X 25 rfl dX5_mayGo_5 ?_ ?_
  · refine s_iconst (pc := 25) X ic_0 dX5_mayGo_25 ?_
    exact p_zret (pc := 26) X dX5_mayGo_26
  · refine s_aload_n (pc := 8) X rfl dX5_mayGo_8 ?_
    refine s_getR (pc := 9) X shX_4 rfl fl_RX5_18 dX5_mayGo_9 ?_
    refine s_iload_n (pc := 12) X rfl dX5_mayGo_12 ?_
    refine p_iald (pc := 13) X shX_21 dX5_mayGo_13 ?_
    refine s_iload_n (pc := 14) X rfl dX5_mayGo_14 ?_
    refine s_ishr (pc := 15) X dX5_mayGo_15 ?_
    refine s_iconst (pc := 16) X ic_1 dX5_mayGo_16 ?_
    refine s_iand (pc := 17) X dX5_mayGo_17 ?_
    refine p_if_eq (pc := 18) X 25 rfl dX5_mayGo_18 ?_ ?_
    · refine s_iconst (pc := 25) X ic_0 dX5_mayGo_25 ?_
      exact p_zret (pc := 26) X dX5_mayGo_26
    · refine s_iconst (pc := 21) X ic_1 dX5_mayGo_21 ?_
      refine s_goto (pc := 22) X 26 rfl dX5_mayGo_22 ?_
      exact p_zret (pc := 26) X dX5_mayGo_26

-- X5_wayTo
def F_X5_wayTo (fu : Nat) (l1 : Int32) (l2 : Int32) (l3 : Int32) (x : Mem) : Option Int32 :=
  (chk l1 5 (letv (iabs ((x 19 (l1 : Int32).toNatClampNeg) - l2)) (fun l4_1 => (if l4_1 = 0 then (chk l1 5 (some (iabs ((x 20 (l1 : Int32).toNatClampNeg) - l3)))) else (chk l1 5 (some (((iabs ((x 20 (l1 : Int32).toNatClampNeg) - 15)) + (6 * l4_1)) + (iabs (15 - l3)))))))))
set_option maxRecDepth 100000 in
set_option maxHeartbeats 4000000 in
theorem c_X5_wayTo (l : Launch) (D : va_G) (cy : ClassId) (ad : Nat → Nat) (fu : Nat) (l1 : Int32) (l2 : Int32) (l3 : Int32) (x : Mem) : Ct l D cy ad shX yX5_wayTo cX5_wayTo 5 (some .int) 1 40 [.ref (ad 4), .int l1, .int l2, .int l3] x (pr (F_X5_wayTo fu l1 l2 l3 x) x) := by
  refine ct_of [some (.ref (ad 4)), some (.int l1), some (.int l2), some (.int l3), none] (by decide) (Nat.le_of_ble_eq_true rfl) rfl rfl ?_
  intro p e s m args below meth c A X
  have X : Cx p s m args meth c RX5 cX5_wayTo 5 (some .int) D cy ad shX A := X
  unfold F_X5_wayTo
  refine s_aload_n (pc := 0) X rfl dX5_wayTo_0 ?_
  refine s_getR (pc := 1) X shX_4 rfl fl_RX5_9 dX5_wayTo_1 ?_
  refine s_iload_n (pc := 4) X rfl dX5_wayTo_4 ?_
  refine p_iald (pc := 5) X shX_19 dX5_wayTo_5 ?_
  refine s_iload_n (pc := 6) X rfl dX5_wayTo_6 ?_
  refine s_isub (pc := 7) X dX5_wayTo_7 ?_
  refine s_mabs (pc := 8) X ml_RX5_38 mm_abs_s mm_ini mm_abs_c (by decide) (Nat.le_of_ble_eq_true rfl) dX5_wayTo_8 ?_
  refine p_letv (fun l4_1 => ?_)
  refine s_istore (pc := 11) X [some (.ref (ad 4)), some (.int l1), some (.int l2), some (.int l3), some (.int l4_1)] rfl (by decide) dX5_wayTo_11 ?_
  refine s_iload (pc := 13) X rfl dX5_wayTo_13 ?_
  refine p_if_ne (pc := 15) X 30 rfl dX5_wayTo_15 ?_ ?_
  · refine s_aload_n (pc := 30) X rfl dX5_wayTo_30 ?_
    refine s_getR (pc := 31) X shX_4 rfl fl_RX5_15 dX5_wayTo_31 ?_
    refine s_iload_n (pc := 34) X rfl dX5_wayTo_34 ?_
    refine p_iald (pc := 35) X shX_20 dX5_wayTo_35 ?_
    refine s_bipush (pc := 36) X bp_15 dX5_wayTo_36 ?_
    refine s_isub (pc := 38) X dX5_wayTo_38 ?_
    refine s_mabs (pc := 39) X ml_RX5_38 mm_abs_s mm_ini mm_abs_c (by decide) (Nat.le_of_ble_eq_true rfl) dX5_wayTo_39 ?_
    refine s_bipush (pc := 42) X bp_6 dX5_wayTo_42 ?_
    refine s_iload (pc := 44) X rfl dX5_wayTo_44 ?_
    refine s_imul (pc := 46) X dX5_wayTo_46 ?_
    refine s_iadd (pc := 47) X dX5_wayTo_47 ?_
    refine s_bipush (pc := 48) X bp_15 dX5_wayTo_48 ?_
    refine s_iload_n (pc := 50) X rfl dX5_wayTo_50 ?_
    refine s_isub (pc := 51) X dX5_wayTo_51 ?_
    refine s_mabs (pc := 52) X ml_RX5_38 mm_abs_s mm_ini mm_abs_c (by decide) (Nat.le_of_ble_eq_true rfl) dX5_wayTo_52 ?_
    refine s_iadd (pc := 55) X dX5_wayTo_55 ?_
    exact p_iret (pc := 56) X dX5_wayTo_56
  · refine s_aload_n (pc := 18) X rfl dX5_wayTo_18 ?_
    refine s_getR (pc := 19) X shX_4 rfl fl_RX5_15 dX5_wayTo_19 ?_
    refine s_iload_n (pc := 22) X rfl dX5_wayTo_22 ?_
    refine p_iald (pc := 23) X shX_20 dX5_wayTo_23 ?_
    refine s_iload_n (pc := 24) X rfl dX5_wayTo_24 ?_
    refine s_isub (pc := 25) X dX5_wayTo_25 ?_
    refine s_mabs (pc := 26) X ml_RX5_38 mm_abs_s mm_ini mm_abs_c (by decide) (Nat.le_of_ble_eq_true rfl) dX5_wayTo_26 ?_
    exact p_iret (pc := 29) X dX5_wayTo_29

-- X6_goesBefore
def F_X6_goesBefore (fu : Nat) (l1 : Int32) (l2 : Int32) (x : Mem) : Option Int32 :=
  (chk l1 12 (chk l2 12 (if (x 12 (l1 : Int32).toNatClampNeg) = (x 12 (l2 : Int32).toNatClampNeg) then (chk l1 12 (chk l2 12 (if (x 26 (l2 : Int32).toNatClampNeg) ≤ (x 26 (l1 : Int32).toNatClampNeg) then (retzp 0) else (retzp 1)))) else (chk l1 12 (chk l2 12 (if (x 12 (l1 : Int32).toNatClampNeg) ≤ (x 12 (l2 : Int32).toNatClampNeg) then (retzp 0) else (retzp 1)))))))
set_option maxRecDepth 100000 in
set_option maxHeartbeats 4000000 in
theorem c_X6_goesBefore (l : Launch) (D : va_G) (cy : ClassId) (ad : Nat → Nat) (fu : Nat) (l1 : Int32) (l2 : Int32) (x : Mem) : Ct l D cy ad shX yX6_goesBefore cX6_goesBefore 3 (some .boolean) 1 40 [.ref (ad 6), .int l1, .int l2] x (pr (F_X6_goesBefore fu l1 l2 x) x) := by
  refine ct_of [some (.ref (ad 6)), some (.int l1), some (.int l2)] (by decide) (Nat.le_of_ble_eq_true rfl) rfl rfl ?_
  intro p e s m args below meth c A X
  have X : Cx p s m args meth c RX6 cX6_goesBefore 3 (some .boolean) D cy ad shX A := X
  unfold F_X6_goesBefore
  refine s_aload_n (pc := 0) X rfl dX6_goesBefore_0 ?_
  refine s_getR (pc := 1) X shX_6 rfl fl_RX6_9 dX6_goesBefore_1 ?_
  refine s_getR (pc := 4) X shX_1 rfl fl_RX6_99 dX6_goesBefore_4 ?_
  refine s_iload_n (pc := 7) X rfl dX6_goesBefore_7 ?_
  refine p_iald (pc := 8) X shX_12 dX6_goesBefore_8 ?_
  refine s_aload_n (pc := 9) X rfl dX6_goesBefore_9 ?_
  refine s_getR (pc := 10) X shX_6 rfl fl_RX6_9 dX6_goesBefore_10 ?_
  refine s_getR (pc := 13) X shX_1 rfl fl_RX6_99 dX6_goesBefore_13 ?_
  refine s_iload_n (pc := 16) X rfl dX6_goesBefore_16 ?_
  refine p_iald (pc := 17) X shX_12 dX6_goesBefore_17 ?_
  refine p_icmp_eq (pc := 18) X 48 rfl dX6_goesBefore_18 ?_ ?_
  · refine s_aload_n (pc := 48) X rfl dX6_goesBefore_48 ?_
    refine s_getR (pc := 49) X shX_6 rfl fl_RX6_19 dX6_goesBefore_49 ?_
    refine s_getR (pc := 52) X shX_5 rfl fl_RX6_74 dX6_goesBefore_52 ?_
    refine s_iload_n (pc := 55) X rfl dX6_goesBefore_55 ?_
    refine p_iald (pc := 56) X shX_26 dX6_goesBefore_56 ?_
    refine s_aload_n (pc := 57) X rfl dX6_goesBefore_57 ?_
    refine s_getR (pc := 58) X shX_6 rfl fl_RX6_19 dX6_goesBefore_58 ?_
    refine s_getR (pc := 61) X shX_5 rfl fl_RX6_74 dX6_goesBefore_61 ?_
    refine s_iload_n (pc := 64) X rfl dX6_goesBefore_64 ?_
    refine p_iald (pc := 65) X shX_26 dX6_goesBefore_65 ?_
    refine p_icmp_ge (pc := 66) X 73 rfl dX6_goesBefore_66 ?_ ?_
    · refine s_iconst (pc := 73) X ic_0 dX6_goesBefore_73 ?_
      exact p_zret (pc := 74) X dX6_goesBefore_74
    · refine s_iconst (pc := 69) X ic_1 dX6_goesBefore_69 ?_
      refine s_goto (pc := 70) X 74 rfl dX6_goesBefore_70 ?_
      exact p_zret (pc := 74) X dX6_goesBefore_74
  · refine s_aload_n (pc := 21) X rfl dX6_goesBefore_21 ?_
    refine s_getR (pc := 22) X shX_6 rfl fl_RX6_9 dX6_goesBefore_22 ?_
    refine s_getR (pc := 25) X shX_1 rfl fl_RX6_99 dX6_goesBefore_25 ?_
    refine s_iload_n (pc := 28) X rfl dX6_goesBefore_28 ?_
    refine p_iald (pc := 29) X shX_12 dX6_goesBefore_29 ?_
    refine s_aload_n (pc := 30) X rfl dX6_goesBefore_30 ?_
    refine s_getR (pc := 31) X shX_6 rfl fl_RX6_9 dX6_goesBefore_31 ?_
    refine s_getR (pc := 34) X shX_1 rfl fl_RX6_99 dX6_goesBefore_34 ?_
    refine s_iload_n (pc := 37) X rfl dX6_goesBefore_37 ?_
    refine p_iald (pc := 38) X shX_12 dX6_goesBefore_38 ?_
    refine p_icmp_le (pc := 39) X 46 rfl dX6_goesBefore_39 ?_ ?_
    · refine s_iconst (pc := 46) X ic_0 dX6_goesBefore_46 ?_
      exact p_zret (pc := 47) X dX6_goesBefore_47
    · refine s_iconst (pc := 42) X ic_1 dX6_goesBefore_42 ?_
      refine s_goto (pc := 43) X 47 rfl dX6_goesBefore_43 ?_
      exact p_zret (pc := 47) X dX6_goesBefore_47

-- X6_nearestServant
def L_X6_nearestServant_7 (fu : Nat) (l1 : Int32) (x : Mem) : Nat → Int32 → Int32 → Int32 → (Int32 → Option Int32) → Option Int32
  | 0, _, _, _, _ => none
  | n + 1, l2, l3, l4, K => (if (x 4 0) ≤ l4 then (K l2) else (chk l1 12 (clp (F_X5_mayGo fu l4 (x 12 (l1 : Int32).toNatClampNeg) x) (fun r_1 => (if r_1 = 0 then (L_X6_nearestServant_7 fu l1 x n l2 l3 (l4 + 1) K) else (chk l1 12 (chk l1 12 (clp (F_X5_wayTo fu l4 (x 10 (l1 : Int32).toNatClampNeg) (x 11 (l1 : Int32).toNatClampNeg) x) (fun r_2 => (if l2 = (-1) then (L_X6_nearestServant_7 fu l1 x n l4 r_2 (l4 + 1) K) else (if l3 ≤ r_2 then (L_X6_nearestServant_7 fu l1 x n l2 l3 (l4 + 1) K) else (L_X6_nearestServant_7 fu l1 x n l4 r_2 (l4 + 1) K))))))))))))
set_option maxRecDepth 100000 in
set_option maxHeartbeats 4000000 in
theorem tL_X6_nearestServant_7 {p : Program} {l : Launch} {e : Env} {s : State} {m : MethodId} {args : Array Value} {below : List Frame} {meth : Method} {c : Code} {D : va_G} {cy : ClassId} {ad : Nat → Nat} {A : Nat → Prop} {fu : Nat} (X : Cx p s m args meth c RX6 cX6_nearestServant 6 (some .int) D cy ad shX A) {l1 : Int32} {x : Mem} {K : Int32 → Option Int32} (hK : ∀ (l2 : Int32), Sim p l e ({ frames := 3, cells := 0, slots := 0, locals := 120 } : Room) s m args below meth c 6 (some .int) D cy ad shX A 92 [none, none, some (.int l2), none, none, none] [] x (pr (K l2) x)) : ∀ (n : Nat) (l2 : Int32) (l3 : Int32) (l4 : Int32), Sim p l e ({ frames := 3, cells := 0, slots := 0, locals := 120 } : Room) s m args below meth c 6 (some .int) D cy ad shX A 7 [some (.ref (ad 6)), some (.int l1), some (.int l2), some (.int l3), some (.int l4), none] [] x (pr (L_X6_nearestServant_7 fu l1 x n l2 l3 l4 K) x) := by
  intro n
  induction n with
  | zero =>
    intro l2 l3 l4
    rw [L_X6_nearestServant_7]
    exact p_none
  | succ n ih =>
    intro l2 l3 l4
    rw [L_X6_nearestServant_7]
    refine s_iload (pc := 7) X rfl dX6_nearestServant_7 ?_
    refine s_aload_n (pc := 9) X rfl dX6_nearestServant_9 ?_
    refine s_getR (pc := 10) X shX_6 rfl fl_RX6_15 dX6_nearestServant_10 ?_
    refine s_getI (pc := 13) X shX_4 rfl fl_RX6_23 dX6_nearestServant_13 ?_
    refine p_icmp_ge (pc := 16) X 92 rfl dX6_nearestServant_16 ?_ ?_
    · refine s_mask [false, false, true, false, false, false] ?_
      exact hK _
    · refine s_aload_n (pc := 19) X rfl dX6_nearestServant_19 ?_
      refine s_getR (pc := 20) X shX_6 rfl fl_RX6_15 dX6_nearestServant_20 ?_
      refine s_iload (pc := 23) X rfl dX6_nearestServant_23 ?_
      refine s_aload_n (pc := 25) X rfl dX6_nearestServant_25 ?_
      refine s_getR (pc := 26) X shX_6 rfl fl_RX6_9 dX6_nearestServant_26 ?_
      refine s_getR (pc := 29) X shX_1 rfl fl_RX6_99 dX6_nearestServant_29 ?_
      refine s_iload_n (pc := 32) X rfl dX6_nearestServant_32 ?_
      refine p_iald (pc := 33) X shX_12 dX6_nearestServant_33 ?_
      refine p_callV (pc := 34) (As := [.int l4, .int (x 12 (l1 : Int32).toNatClampNeg)]) (st := []) X lk_RX6_102 (c_X5_mayGo l D cy ad fu _ _ _) shX_4 rfl rfl rfl rfl ⟨by decide, by decide⟩ (Nat.le_of_ble_eq_true rfl) dX6_nearestServant_34 (fun r_1 => ?_)
      refine p_if_eq (pc := 37) X 86 rfl dX6_nearestServant_37 ?_ ?_
      · refine s_iinc (pc := 86) X [some (.ref (ad 6)), some (.int l1), some (.int l2), some (.int l3), some (.int (l4 + 1)), none] rfl (by decide) rfl ic_1 dX6_nearestServant_86 ?_
        refine s_goto (pc := 89) X 7 rfl dX6_nearestServant_89 ?_
        exact ih _ _ _
      · refine s_aload_n (pc := 40) X rfl dX6_nearestServant_40 ?_
        refine s_getR (pc := 41) X shX_6 rfl fl_RX6_15 dX6_nearestServant_41 ?_
        refine s_iload (pc := 44) X rfl dX6_nearestServant_44 ?_
        refine s_aload_n (pc := 46) X rfl dX6_nearestServant_46 ?_
        refine s_getR (pc := 47) X shX_6 rfl fl_RX6_9 dX6_nearestServant_47 ?_
        refine s_getR (pc := 50) X shX_1 rfl fl_RX6_51 dX6_nearestServant_50 ?_
        refine s_iload_n (pc := 53) X rfl dX6_nearestServant_53 ?_
        refine p_iald (pc := 54) X shX_10 dX6_nearestServant_54 ?_
        refine s_aload_n (pc := 55) X rfl dX6_nearestServant_55 ?_
        refine s_getR (pc := 56) X shX_6 rfl fl_RX6_9 dX6_nearestServant_56 ?_
        refine s_getR (pc := 59) X shX_1 rfl fl_RX6_55 dX6_nearestServant_59 ?_
        refine s_iload_n (pc := 62) X rfl dX6_nearestServant_62 ?_
        refine p_iald (pc := 63) X shX_11 dX6_nearestServant_63 ?_
        refine p_callV (pc := 64) (As := [.int l4, .int (x 10 (l1 : Int32).toNatClampNeg), .int (x 11 (l1 : Int32).toNatClampNeg)]) (st := []) X lk_RX6_58 (c_X5_wayTo l D cy ad fu _ _ _ _) shX_4 rfl rfl rfl rfl ⟨by decide, by decide⟩ (Nat.le_of_ble_eq_true rfl) dX6_nearestServant_64 (fun r_2 => ?_)
        refine s_istore (pc := 67) X [some (.ref (ad 6)), some (.int l1), some (.int l2), some (.int l3), some (.int l4), some (.int r_2)] rfl (by decide) dX6_nearestServant_67 ?_
        refine s_iload_n (pc := 69) X rfl dX6_nearestServant_69 ?_
        refine s_iconst (pc := 70) X ic_m1 dX6_nearestServant_70 ?_
        refine p_icmp_eq (pc := 71) X 80 rfl dX6_nearestServant_71 ?_ ?_
        · refine s_iload (pc := 80) X rfl dX6_nearestServant_80 ?_
          refine s_istore_n (pc := 82) X [some (.ref (ad 6)), some (.int l1), some (.int l4), some (.int l3), some (.int l4), some (.int r_2)] rfl (by decide) dX6_nearestServant_82 ?_
          refine s_iload (pc := 83) X rfl dX6_nearestServant_83 ?_
          refine s_istore_n (pc := 85) X [some (.ref (ad 6)), some (.int l1), some (.int l4), some (.int r_2), some (.int l4), some (.int r_2)] rfl (by decide) dX6_nearestServant_85 ?_
          refine s_iinc (pc := 86) X [some (.ref (ad 6)), some (.int l1), some (.int l4), some (.int r_2), some (.int (l4 + 1)), some (.int r_2)] rfl (by decide) rfl ic_1 dX6_nearestServant_86 ?_
          refine s_goto (pc := 89) X 7 rfl dX6_nearestServant_89 ?_
          refine s_mask [true, true, true, true, true, false] ?_
          exact ih _ _ _
        · refine s_iload (pc := 74) X rfl dX6_nearestServant_74 ?_
          refine s_iload_n (pc := 76) X rfl dX6_nearestServant_76 ?_
          refine p_icmp_ge (pc := 77) X 86 rfl dX6_nearestServant_77 ?_ ?_
          · refine s_iinc (pc := 86) X [some (.ref (ad 6)), some (.int l1), some (.int l2), some (.int l3), some (.int (l4 + 1)), some (.int r_2)] rfl (by decide) rfl ic_1 dX6_nearestServant_86 ?_
            refine s_goto (pc := 89) X 7 rfl dX6_nearestServant_89 ?_
            refine s_mask [true, true, true, true, true, false] ?_
            exact ih _ _ _
          · refine s_iload (pc := 80) X rfl dX6_nearestServant_80 ?_
            refine s_istore_n (pc := 82) X [some (.ref (ad 6)), some (.int l1), some (.int l4), some (.int l3), some (.int l4), some (.int r_2)] rfl (by decide) dX6_nearestServant_82 ?_
            refine s_iload (pc := 83) X rfl dX6_nearestServant_83 ?_
            refine s_istore_n (pc := 85) X [some (.ref (ad 6)), some (.int l1), some (.int l4), some (.int r_2), some (.int l4), some (.int r_2)] rfl (by decide) dX6_nearestServant_85 ?_
            refine s_iinc (pc := 86) X [some (.ref (ad 6)), some (.int l1), some (.int l4), some (.int r_2), some (.int (l4 + 1)), some (.int r_2)] rfl (by decide) rfl ic_1 dX6_nearestServant_86 ?_
            refine s_goto (pc := 89) X 7 rfl dX6_nearestServant_89 ?_
            refine s_mask [true, true, true, true, true, false] ?_
            exact ih _ _ _

def F_X6_nearestServant (fu : Nat) (l1 : Int32) (x : Mem) : Option Int32 :=
  (L_X6_nearestServant_7 fu l1 x fu (-1) 0 0 (fun l2_3 => (some l2_3)))
set_option maxRecDepth 100000 in
set_option maxHeartbeats 4000000 in
theorem c_X6_nearestServant (l : Launch) (D : va_G) (cy : ClassId) (ad : Nat → Nat) (fu : Nat) (l1 : Int32) (x : Mem) : Ct l D cy ad shX yX6_nearestServant cX6_nearestServant 6 (some .int) 3 120 [.ref (ad 6), .int l1] x (pr (F_X6_nearestServant fu l1 x) x) := by
  refine ct_of [some (.ref (ad 6)), some (.int l1), none, none, none, none] (by decide) (Nat.le_of_ble_eq_true rfl) rfl rfl ?_
  intro p e s m args below meth c A X
  have X : Cx p s m args meth c RX6 cX6_nearestServant 6 (some .int) D cy ad shX A := X
  unfold F_X6_nearestServant
  refine s_iconst (pc := 0) X ic_m1 dX6_nearestServant_0 ?_
  refine s_istore_n (pc := 1) X [some (.ref (ad 6)), some (.int l1), some (.int (-1)), none, none, none] rfl (by decide) dX6_nearestServant_1 ?_
  refine s_iconst (pc := 2) X ic_0 dX6_nearestServant_2 ?_
  refine s_istore_n (pc := 3) X [some (.ref (ad 6)), some (.int l1), some (.int (-1)), some (.int 0), none, none] rfl (by decide) dX6_nearestServant_3 ?_
  refine s_iconst (pc := 4) X ic_0 dX6_nearestServant_4 ?_
  refine s_istore (pc := 5) X [some (.ref (ad 6)), some (.int l1), some (.int (-1)), some (.int 0), some (.int 0), none] rfl (by decide) dX6_nearestServant_5 ?_
  refine tL_X6_nearestServant_7 X (fun l2_3 => ?_) fu _ _ _
  refine s_iload_n (pc := 92) X rfl dX6_nearestServant_92 ?_
  exact p_iret (pc := 93) X dX6_nearestServant_93

-- X6_firstThatCanBeServed
def L_X6_firstThatCanBeServed_4 (fu : Nat) (x : Mem) : Nat → Int32 → Int32 → (Int32 → Option Int32) → Option Int32
  | 0, _, _, _ => none
  | n + 1, l1, l2, K => (if (x 1 0) ≤ l2 then (K l1) else (clp (F_X1_isWaiting fu l2 x) (fun r_1 => (if r_1 = 0 then (L_X6_firstThatCanBeServed_4 fu x n l1 (l2 + 1) K) else (if l1 = (-1) then (clp (F_X6_nearestServant fu l2 x) (fun r_2 => (if r_2 = (-1) then (L_X6_firstThatCanBeServed_4 fu x n l1 (l2 + 1) K) else (L_X6_firstThatCanBeServed_4 fu x n l2 (l2 + 1) K)))) else (clp (F_X6_goesBefore fu l2 l1 x) (fun r_3 => (if r_3 = 0 then (L_X6_firstThatCanBeServed_4 fu x n l1 (l2 + 1) K) else (clp (F_X6_nearestServant fu l2 x) (fun r_4 => (if r_4 = (-1) then (L_X6_firstThatCanBeServed_4 fu x n l1 (l2 + 1) K) else (L_X6_firstThatCanBeServed_4 fu x n l2 (l2 + 1) K))))))))))))
set_option maxRecDepth 100000 in
set_option maxHeartbeats 4000000 in
theorem tL_X6_firstThatCanBeServed_4 {p : Program} {l : Launch} {e : Env} {s : State} {m : MethodId} {args : Array Value} {below : List Frame} {meth : Method} {c : Code} {D : va_G} {cy : ClassId} {ad : Nat → Nat} {A : Nat → Prop} {fu : Nat} (X : Cx p s m args meth c RX6 cX6_firstThatCanBeServed 3 (some .int) D cy ad shX A) {x : Mem} {K : Int32 → Option Int32} (hK : ∀ (l1 : Int32), Sim p l e ({ frames := 4, cells := 0, slots := 0, locals := 160 } : Room) s m args below meth c 3 (some .int) D cy ad shX A 57 [none, some (.int l1), none] [] x (pr (K l1) x)) : ∀ (n : Nat) (l1 : Int32) (l2 : Int32), Sim p l e ({ frames := 4, cells := 0, slots := 0, locals := 160 } : Room) s m args below meth c 3 (some .int) D cy ad shX A 4 [some (.ref (ad 6)), some (.int l1), some (.int l2)] [] x (pr (L_X6_firstThatCanBeServed_4 fu x n l1 l2 K) x) := by
  intro n
  induction n with
  | zero =>
    intro l1 l2
    rw [L_X6_firstThatCanBeServed_4]
    exact p_none
  | succ n ih =>
    intro l1 l2
    rw [L_X6_firstThatCanBeServed_4]
    refine s_iload_n (pc := 4) X rfl dX6_firstThatCanBeServed_4 ?_
    refine s_aload_n (pc := 5) X rfl dX6_firstThatCanBeServed_5 ?_
    refine s_getR (pc := 6) X shX_6 rfl fl_RX6_9 dX6_firstThatCanBeServed_6 ?_
    refine s_getI (pc := 9) X shX_1 rfl fl_RX6_92 dX6_firstThatCanBeServed_9 ?_
    refine p_icmp_ge (pc := 12) X 57 rfl dX6_firstThatCanBeServed_12 ?_ ?_
    · refine s_mask [false, true, false] ?_
      exact hK _
    · refine s_aload_n (pc := 15) X rfl dX6_firstThatCanBeServed_15 ?_
      refine s_getR (pc := 16) X shX_6 rfl fl_RX6_19 dX6_firstThatCanBeServed_16 ?_
      refine s_iload_n (pc := 19) X rfl dX6_firstThatCanBeServed_19 ?_
      refine p_callV (pc := 20) (As := [.int l2]) (st := []) X lk_RX6_93 (c_X1_isWaiting l D cy ad fu _ _) shX_5 rfl rfl rfl rfl ⟨by decide, by decide⟩ (Nat.le_of_ble_eq_true rfl) dX6_firstThatCanBeServed_20 (fun r_1 => ?_)
      refine p_if_eq (pc := 23) X 51 rfl dX6_firstThatCanBeServed_23 ?_ ?_
      · refine s_iinc (pc := 51) X [some (.ref (ad 6)), some (.int l1), some (.int (l2 + 1))] rfl (by decide) rfl ic_1 dX6_firstThatCanBeServed_51 ?_
        refine s_goto (pc := 54) X 4 rfl dX6_firstThatCanBeServed_54 ?_
        exact ih _ _
      · refine s_iload_n (pc := 26) X rfl dX6_firstThatCanBeServed_26 ?_
        refine s_iconst (pc := 27) X ic_m1 dX6_firstThatCanBeServed_27 ?_
        refine p_icmp_eq (pc := 28) X 40 rfl dX6_firstThatCanBeServed_28 ?_ ?_
        · refine s_aload_n (pc := 40) X rfl dX6_firstThatCanBeServed_40 ?_
          refine s_iload_n (pc := 41) X rfl dX6_firstThatCanBeServed_41 ?_
          refine p_callV (pc := 42) (As := [.int l2]) (st := []) X lk_RX6_33 (c_X6_nearestServant l D cy ad fu _ _) shX_6 rfl rfl rfl rfl ⟨by decide, by decide⟩ (Nat.le_of_ble_eq_true rfl) dX6_firstThatCanBeServed_42 (fun r_2 => ?_)
          refine s_iconst (pc := 45) X ic_m1 dX6_firstThatCanBeServed_45 ?_
          refine p_icmp_eq (pc := 46) X 51 rfl dX6_firstThatCanBeServed_46 ?_ ?_
          · refine s_iinc (pc := 51) X [some (.ref (ad 6)), some (.int l1), some (.int (l2 + 1))] rfl (by decide) rfl ic_1 dX6_firstThatCanBeServed_51 ?_
            refine s_goto (pc := 54) X 4 rfl dX6_firstThatCanBeServed_54 ?_
            exact ih _ _
          · refine s_iload_n (pc := 49) X rfl dX6_firstThatCanBeServed_49 ?_
            refine s_istore_n (pc := 50) X [some (.ref (ad 6)), some (.int l2), some (.int l2)] rfl (by decide) dX6_firstThatCanBeServed_50 ?_
            refine s_iinc (pc := 51) X [some (.ref (ad 6)), some (.int l2), some (.int (l2 + 1))] rfl (by decide) rfl ic_1 dX6_firstThatCanBeServed_51 ?_
            refine s_goto (pc := 54) X 4 rfl dX6_firstThatCanBeServed_54 ?_
            exact ih _ _
        · refine s_aload_n (pc := 31) X rfl dX6_firstThatCanBeServed_31 ?_
          refine s_iload_n (pc := 32) X rfl dX6_firstThatCanBeServed_32 ?_
          refine s_iload_n (pc := 33) X rfl dX6_firstThatCanBeServed_33 ?_
          refine p_callV (pc := 34) (As := [.int l2, .int l1]) (st := []) X lk_RX6_96 (c_X6_goesBefore l D cy ad fu _ _ _) shX_6 rfl rfl rfl rfl ⟨by decide, by decide⟩ (Nat.le_of_ble_eq_true rfl) dX6_firstThatCanBeServed_34 (fun r_3 => ?_)
          refine p_if_eq (pc := 37) X 51 rfl dX6_firstThatCanBeServed_37 ?_ ?_
          · refine s_iinc (pc := 51) X [some (.ref (ad 6)), some (.int l1), some (.int (l2 + 1))] rfl (by decide) rfl ic_1 dX6_firstThatCanBeServed_51 ?_
            refine s_goto (pc := 54) X 4 rfl dX6_firstThatCanBeServed_54 ?_
            exact ih _ _
          · refine s_aload_n (pc := 40) X rfl dX6_firstThatCanBeServed_40 ?_
            refine s_iload_n (pc := 41) X rfl dX6_firstThatCanBeServed_41 ?_
            refine p_callV (pc := 42) (As := [.int l2]) (st := []) X lk_RX6_33 (c_X6_nearestServant l D cy ad fu _ _) shX_6 rfl rfl rfl rfl ⟨by decide, by decide⟩ (Nat.le_of_ble_eq_true rfl) dX6_firstThatCanBeServed_42 (fun r_4 => ?_)
            refine s_iconst (pc := 45) X ic_m1 dX6_firstThatCanBeServed_45 ?_
            refine p_icmp_eq (pc := 46) X 51 rfl dX6_firstThatCanBeServed_46 ?_ ?_
            · refine s_iinc (pc := 51) X [some (.ref (ad 6)), some (.int l1), some (.int (l2 + 1))] rfl (by decide) rfl ic_1 dX6_firstThatCanBeServed_51 ?_
              refine s_goto (pc := 54) X 4 rfl dX6_firstThatCanBeServed_54 ?_
              exact ih _ _
            · refine s_iload_n (pc := 49) X rfl dX6_firstThatCanBeServed_49 ?_
              refine s_istore_n (pc := 50) X [some (.ref (ad 6)), some (.int l2), some (.int l2)] rfl (by decide) dX6_firstThatCanBeServed_50 ?_
              refine s_iinc (pc := 51) X [some (.ref (ad 6)), some (.int l2), some (.int (l2 + 1))] rfl (by decide) rfl ic_1 dX6_firstThatCanBeServed_51 ?_
              refine s_goto (pc := 54) X 4 rfl dX6_firstThatCanBeServed_54 ?_
              exact ih _ _

def F_X6_firstThatCanBeServed (fu : Nat) (x : Mem) : Option Int32 :=
  (L_X6_firstThatCanBeServed_4 fu x fu (-1) 0 (fun l1_5 => (some l1_5)))
set_option maxRecDepth 100000 in
set_option maxHeartbeats 4000000 in
theorem c_X6_firstThatCanBeServed (l : Launch) (D : va_G) (cy : ClassId) (ad : Nat → Nat) (fu : Nat) (x : Mem) : Ct l D cy ad shX yX6_firstThatCanBeServed cX6_firstThatCanBeServed 3 (some .int) 4 160 [.ref (ad 6)] x (pr (F_X6_firstThatCanBeServed fu x) x) := by
  refine ct_of [some (.ref (ad 6)), none, none] (by decide) (Nat.le_of_ble_eq_true rfl) rfl rfl ?_
  intro p e s m args below meth c A X
  have X : Cx p s m args meth c RX6 cX6_firstThatCanBeServed 3 (some .int) D cy ad shX A := X
  unfold F_X6_firstThatCanBeServed
  refine s_iconst (pc := 0) X ic_m1 dX6_firstThatCanBeServed_0 ?_
  refine s_istore_n (pc := 1) X [some (.ref (ad 6)), some (.int (-1)), none] rfl (by decide) dX6_firstThatCanBeServed_1 ?_
  refine s_iconst (pc := 2) X ic_0 dX6_firstThatCanBeServed_2 ?_
  refine s_istore_n (pc := 3) X [some (.ref (ad 6)), some (.int (-1)), some (.int 0)] rfl (by decide) dX6_firstThatCanBeServed_3 ?_
  refine tL_X6_firstThatCanBeServed_4 X (fun l1_5 => ?_) fu _ _
  refine s_iload_n (pc := 57) X rfl dX6_firstThatCanBeServed_57 ?_
  exact p_iret (pc := 58) X dX6_firstThatCanBeServed_58

-- X6_sendOne
def F_X6_sendOne (fu : Nat) (l1 : Int32) (l2 : Int32) (x : Mem) : Res :=
  (clp (F_X9_within fu l1 (x 4 0) x) (fun r_1 => (if r_1 = 0 then (some (0, x)) else (clp (F_X4_has fu l2 x) (fun r_2 => (if r_2 = 0 then (some (0, x)) else (chk l2 12 (chk l2 12 (clp (F_X5_wayTo fu l1 (x 10 (l2 : Int32).toNatClampNeg) (x 11 (l2 : Int32).toNatClampNeg) x) (fun r_3 => (chk l1 5 (letm (wr x 22 (l1 : Int32).toNatClampNeg l2) (fun x_4 => (chk l1 5 (letm (wr x_4 23 (l1 : Int32).toNatClampNeg (((x_4 6 3) + r_3) + 3)) (fun x_5 => (chk l1 5 (chk l1 5 (letm (wr x_5 24 (l1 : Int32).toNatClampNeg ((x_5 24 (l1 : Int32).toNatClampNeg) + 1)) (fun x_6 => (chk l2 12 (cl (F_X1_startErrand fu l2 (((x_6 6 3) - (x_6 26 (l2 : Int32).toNatClampNeg)) + r_3) x_6) (fun _ x_7 => (some (0, x_7)))))))))))))))))))))))))
set_option maxRecDepth 100000 in
set_option maxHeartbeats 4000000 in
theorem c_X6_sendOne (l : Launch) (D : va_G) (cy : ClassId) (ad : Nat → Nat) (fu : Nat) (l1 : Int32) (l2 : Int32) (x : Mem) : Ct l D cy ad shX yX6_sendOne cX6_sendOne 4 none 3 120 [.ref (ad 6), .int l1, .int l2] x (F_X6_sendOne fu l1 l2 x) := by
  refine ct_of [some (.ref (ad 6)), some (.int l1), some (.int l2), none] (by decide) (Nat.le_of_ble_eq_true rfl) rfl rfl ?_
  intro p e s m args below meth c A X
  have X : Cx p s m args meth c RX6 cX6_sendOne 4 none D cy ad shX A := X
  unfold F_X6_sendOne
  refine s_iload_n (pc := 0) X rfl dX6_sendOne_0 ?_
  refine s_aload_n (pc := 1) X rfl dX6_sendOne_1 ?_
  refine s_getR (pc := 2) X shX_6 rfl fl_RX6_15 dX6_sendOne_2 ?_
  refine s_getI (pc := 5) X shX_4 rfl fl_RX6_23 dX6_sendOne_5 ?_
  refine s_callNp (pc := 8) (As := [.int l1, .int (x 4 0)]) (st := []) X lk_RX6_41 (c_X9_within l D cy ad fu _ _ _) rfl rfl ⟨by decide, by decide⟩ (Nat.le_of_ble_eq_true rfl) dX6_sendOne_8 (fun r_1 => ?_)
  refine s_if_eq (pc := 11) X 25 rfl dX6_sendOne_11 ?_ ?_
  · exact s_vret (pc := 25) X dX6_sendOne_25
  · refine s_aload_n (pc := 14) X rfl dX6_sendOne_14 ?_
    refine s_getR (pc := 15) X shX_6 rfl fl_RX6_9 dX6_sendOne_15 ?_
    refine s_iload_n (pc := 18) X rfl dX6_sendOne_18 ?_
    refine s_callVp (pc := 19) (As := [.int l2]) (st := []) X lk_RX6_45 (c_X4_has l D cy ad fu _ _) shX_1 rfl rfl rfl rfl ⟨by decide, by decide⟩ (Nat.le_of_ble_eq_true rfl) dX6_sendOne_19 (fun r_2 => ?_)
    refine s_if_ne (pc := 22) X 26 rfl dX6_sendOne_22 ?_ ?_
    · refine s_aload_n (pc := 26) X rfl dX6_sendOne_26 ?_
      refine s_getR (pc := 27) X shX_6 rfl fl_RX6_15 dX6_sendOne_27 ?_
      refine s_iload_n (pc := 30) X rfl dX6_sendOne_30 ?_
      refine s_aload_n (pc := 31) X rfl dX6_sendOne_31 ?_
      refine s_getR (pc := 32) X shX_6 rfl fl_RX6_9 dX6_sendOne_32 ?_
      refine s_getR (pc := 35) X shX_1 rfl fl_RX6_51 dX6_sendOne_35 ?_
      refine s_iload_n (pc := 38) X rfl dX6_sendOne_38 ?_
      refine s_iald (pc := 39) X shX_10 dX6_sendOne_39 ?_
      refine s_aload_n (pc := 40) X rfl dX6_sendOne_40 ?_
      refine s_getR (pc := 41) X shX_6 rfl fl_RX6_9 dX6_sendOne_41 ?_
      refine s_getR (pc := 44) X shX_1 rfl fl_RX6_55 dX6_sendOne_44 ?_
      refine s_iload_n (pc := 47) X rfl dX6_sendOne_47 ?_
      refine s_iald (pc := 48) X shX_11 dX6_sendOne_48 ?_
      refine s_callVp (pc := 49) (As := [.int l1, .int (x 10 (l2 : Int32).toNatClampNeg), .int (x 11 (l2 : Int32).toNatClampNeg)]) (st := []) X lk_RX6_58 (c_X5_wayTo l D cy ad fu _ _ _ _) shX_4 rfl rfl rfl rfl ⟨by decide, by decide⟩ (Nat.le_of_ble_eq_true rfl) dX6_sendOne_49 (fun r_3 => ?_)
      refine s_istore_n (pc := 52) X [some (.ref (ad 6)), some (.int l1), some (.int l2), some (.int r_3)] rfl (by decide) dX6_sendOne_52 ?_
      refine s_aload_n (pc := 53) X rfl dX6_sendOne_53 ?_
      refine s_getR (pc := 54) X shX_6 rfl fl_RX6_15 dX6_sendOne_54 ?_
      refine s_getR (pc := 57) X shX_4 rfl fl_RX6_62 dX6_sendOne_57 ?_
      refine s_iload_n (pc := 60) X rfl dX6_sendOne_60 ?_
      refine s_iload_n (pc := 61) X rfl dX6_sendOne_61 ?_
      refine s_iast (pc := 62) X shX_22 dX6_sendOne_62 ?_
      refine s_letm (fun x_4 => ?_)
      refine s_aload_n (pc := 63) X rfl dX6_sendOne_63 ?_
      refine s_getR (pc := 64) X shX_6 rfl fl_RX6_15 dX6_sendOne_64 ?_
      refine s_getR (pc := 67) X shX_4 rfl fl_RX6_65 dX6_sendOne_67 ?_
      refine s_iload_n (pc := 70) X rfl dX6_sendOne_70 ?_
      refine s_aload_n (pc := 71) X rfl dX6_sendOne_71 ?_
      refine s_getI (pc := 72) X shX_6 rfl fl_RX6_68 dX6_sendOne_72 ?_
      refine s_iload_n (pc := 75) X rfl dX6_sendOne_75 ?_
      refine s_iadd (pc := 76) X dX6_sendOne_76 ?_
      refine s_iconst (pc := 77) X ic_3 dX6_sendOne_77 ?_
      refine s_iadd (pc := 78) X dX6_sendOne_78 ?_
      refine s_iast (pc := 79) X shX_23 dX6_sendOne_79 ?_
      refine s_letm (fun x_5 => ?_)
      refine s_aload_n (pc := 80) X rfl dX6_sendOne_80 ?_
      refine s_getR (pc := 81) X shX_6 rfl fl_RX6_15 dX6_sendOne_81 ?_
      refine s_getR (pc := 84) X shX_4 rfl fl_RX6_71 dX6_sendOne_84 ?_
      refine s_iload_n (pc := 87) X rfl dX6_sendOne_87 ?_
      refine s_dup2 (pc := 88) X rfl rfl dX6_sendOne_88 ?_
      refine s_iald (pc := 89) X shX_24 dX6_sendOne_89 ?_
      refine s_iconst (pc := 90) X ic_1 dX6_sendOne_90 ?_
      refine s_iadd (pc := 91) X dX6_sendOne_91 ?_
      refine s_iast (pc := 92) X shX_24 dX6_sendOne_92 ?_
      refine s_letm (fun x_6 => ?_)
      refine s_aload_n (pc := 93) X rfl dX6_sendOne_93 ?_
      refine s_getR (pc := 94) X shX_6 rfl fl_RX6_19 dX6_sendOne_94 ?_
      refine s_iload_n (pc := 97) X rfl dX6_sendOne_97 ?_
      refine s_aload_n (pc := 98) X rfl dX6_sendOne_98 ?_
      refine s_getI (pc := 99) X shX_6 rfl fl_RX6_68 dX6_sendOne_99 ?_
      refine s_aload_n (pc := 102) X rfl dX6_sendOne_102 ?_
      refine s_getR (pc := 103) X shX_6 rfl fl_RX6_19 dX6_sendOne_103 ?_
      refine s_getR (pc := 106) X shX_5 rfl fl_RX6_74 dX6_sendOne_106 ?_
      refine s_iload_n (pc := 109) X rfl dX6_sendOne_109 ?_
      refine s_iald (pc := 110) X shX_26 dX6_sendOne_110 ?_
      refine s_isub (pc := 111) X dX6_sendOne_111 ?_
      refine s_iload_n (pc := 112) X rfl dX6_sendOne_112 ?_
      refine s_iadd (pc := 113) X dX6_sendOne_113 ?_
      refine s_callV0 (pc := 114) (As := [.int l2, .int (((x_6 6 3) - (x_6 26 (l2 : Int32).toNatClampNeg)) + r_3)]) (st := []) X lk_RX6_79 (c_X1_startErrand l D cy ad fu _ _ _) shX_5 rfl rfl rfl rfl ⟨by decide, by decide⟩ (Nat.le_of_ble_eq_true rfl) dX6_sendOne_114 (fun _ x_7 => ?_)
      exact s_vret (pc := 117) X dX6_sendOne_117
    · exact s_vret (pc := 25) X dX6_sendOne_25

-- X6_sendWhileAnyCan
def L_X6_sendWhileAnyCan_2 (fu : Nat) : Nat → Int32 → Mem → (Mem → Res) → Res
  | 0, _, _, _ => none
  | n + 1, l1, x, K => (if (x 4 0) ≤ l1 then (K x) else (clp (F_X6_firstThatCanBeServed fu x) (fun r_1 => (if r_1 = (-1) then (some (0, x)) else (clp (F_X6_nearestServant fu r_1 x) (fun r_2 => (cl (F_X6_sendOne fu r_2 r_1 x) (fun _ x_3 => (L_X6_sendWhileAnyCan_2 fu n (l1 + 1) x_3 K)))))))))
set_option maxRecDepth 100000 in
set_option maxHeartbeats 4000000 in
theorem tL_X6_sendWhileAnyCan_2 {p : Program} {l : Launch} {e : Env} {s : State} {m : MethodId} {args : Array Value} {below : List Frame} {meth : Method} {c : Code} {D : va_G} {cy : ClassId} {ad : Nat → Nat} {A : Nat → Prop} {fu : Nat} (X : Cx p s m args meth c RX6 cX6_sendWhileAnyCan 3 none D cy ad shX A) {K : Mem → Res} (hK : ∀ (x : Mem), Sim p l e ({ frames := 5, cells := 0, slots := 0, locals := 200 } : Room) s m args below meth c 3 none D cy ad shX A 40 [none, none, none] [] x (K x)) : ∀ (n : Nat) (l1 : Int32) (x : Mem), Sim p l e ({ frames := 5, cells := 0, slots := 0, locals := 200 } : Room) s m args below meth c 3 none D cy ad shX A 2 [some (.ref (ad 6)), some (.int l1), none] [] x (L_X6_sendWhileAnyCan_2 fu n l1 x K) := by
  intro n
  induction n with
  | zero =>
    intro l1 x
    rw [L_X6_sendWhileAnyCan_2]
    exact s_none
  | succ n ih =>
    intro l1 x
    rw [L_X6_sendWhileAnyCan_2]
    refine s_iload_n (pc := 2) X rfl dX6_sendWhileAnyCan_2 ?_
    refine s_aload_n (pc := 3) X rfl dX6_sendWhileAnyCan_3 ?_
    refine s_getR (pc := 4) X shX_6 rfl fl_RX6_15 dX6_sendWhileAnyCan_4 ?_
    refine s_getI (pc := 7) X shX_4 rfl fl_RX6_23 dX6_sendWhileAnyCan_7 ?_
    refine s_icmp_ge (pc := 10) X 40 rfl dX6_sendWhileAnyCan_10 ?_ ?_
    · refine s_mask [false, false, false] ?_
      exact hK _
    · refine s_aload_n (pc := 13) X rfl dX6_sendWhileAnyCan_13 ?_
      refine s_callVp (pc := 14) (As := []) (st := []) X lk_RX6_29 (c_X6_firstThatCanBeServed l D cy ad fu _) shX_6 rfl rfl rfl rfl ⟨by decide, by decide⟩ (Nat.le_of_ble_eq_true rfl) dX6_sendWhileAnyCan_14 (fun r_1 => ?_)
      refine s_istore_n (pc := 17) X [some (.ref (ad 6)), some (.int l1), some (.int r_1)] rfl (by decide) dX6_sendWhileAnyCan_17 ?_
      refine s_iload_n (pc := 18) X rfl dX6_sendWhileAnyCan_18 ?_
      refine s_iconst (pc := 19) X ic_m1 dX6_sendWhileAnyCan_19 ?_
      refine s_icmp_ne (pc := 20) X 24 rfl dX6_sendWhileAnyCan_20 ?_ ?_
      · refine s_aload_n (pc := 24) X rfl dX6_sendWhileAnyCan_24 ?_
        refine s_aload_n (pc := 25) X rfl dX6_sendWhileAnyCan_25 ?_
        refine s_iload_n (pc := 26) X rfl dX6_sendWhileAnyCan_26 ?_
        refine s_callVp (pc := 27) (As := [.int r_1]) (st := [.ref (ad 6)]) X lk_RX6_33 (c_X6_nearestServant l D cy ad fu _ _) shX_6 rfl rfl rfl rfl ⟨by decide, by decide⟩ (Nat.le_of_ble_eq_true rfl) dX6_sendWhileAnyCan_27 (fun r_2 => ?_)
        refine s_iload_n (pc := 30) X rfl dX6_sendWhileAnyCan_30 ?_
        refine s_callV0 (pc := 31) (As := [.int r_2, .int r_1]) (st := []) X lk_RX6_37 (c_X6_sendOne l D cy ad fu _ _ _) shX_6 rfl rfl rfl rfl ⟨by decide, by decide⟩ (Nat.le_of_ble_eq_true rfl) dX6_sendWhileAnyCan_31 (fun _ x_3 => ?_)
        refine s_iinc (pc := 34) X [some (.ref (ad 6)), some (.int (l1 + 1)), some (.int r_1)] rfl (by decide) rfl ic_1 dX6_sendWhileAnyCan_34 ?_
        refine s_goto (pc := 37) X 2 rfl dX6_sendWhileAnyCan_37 ?_
        refine s_mask [true, true, false] ?_
        exact ih _ _
      · exact s_vret (pc := 23) X dX6_sendWhileAnyCan_23

def F_X6_sendWhileAnyCan (fu : Nat) (x : Mem) : Res :=
  (L_X6_sendWhileAnyCan_2 fu fu 0 x (fun x_4 => (some (0, x_4))))
set_option maxRecDepth 100000 in
set_option maxHeartbeats 4000000 in
theorem c_X6_sendWhileAnyCan (l : Launch) (D : va_G) (cy : ClassId) (ad : Nat → Nat) (fu : Nat) (x : Mem) : Ct l D cy ad shX yX6_sendWhileAnyCan cX6_sendWhileAnyCan 3 none 5 200 [.ref (ad 6)] x (F_X6_sendWhileAnyCan fu x) := by
  refine ct_of [some (.ref (ad 6)), none, none] (by decide) (Nat.le_of_ble_eq_true rfl) rfl rfl ?_
  intro p e s m args below meth c A X
  have X : Cx p s m args meth c RX6 cX6_sendWhileAnyCan 3 none D cy ad shX A := X
  unfold F_X6_sendWhileAnyCan
  refine s_iconst (pc := 0) X ic_0 dX6_sendWhileAnyCan_0 ?_
  refine s_istore_n (pc := 1) X [some (.ref (ad 6)), some (.int 0), none] rfl (by decide) dX6_sendWhileAnyCan_1 ?_
  refine tL_X6_sendWhileAnyCan_2 X (fun x_4 => ?_) fu _ _
  exact s_vret (pc := 40) X dX6_sendWhileAnyCan_40

-- X6_endErrand
def F_X6_endErrand (fu : Nat) (l1 : Int32) (x : Mem) : Res :=
  (chk l1 5 (letv (x 22 (l1 : Int32).toNatClampNeg) (fun l2_1 => (clp (F_X4_has fu l2_1 x) (fun r_2 => (if r_2 = 0 then (some (0, x)) else (chk l1 5 (letm (wr x 22 (l1 : Int32).toNatClampNeg (-4)) (fun x_3 => (chk l2_1 12 (chk l1 5 (letm (wr x_3 19 (l1 : Int32).toNatClampNeg (x_3 10 (l2_1 : Int32).toNatClampNeg)) (fun x_4 => (chk l2_1 12 (chk l1 5 (letm (wr x_4 20 (l1 : Int32).toNatClampNeg (x_4 11 (l2_1 : Int32).toNatClampNeg)) (fun x_5 => (cl (F_X1_endErrand fu l2_1 x_5) (fun _ x_6 => (some (0, x_6)))))))))))))))))))))
set_option maxRecDepth 100000 in
set_option maxHeartbeats 4000000 in
theorem c_X6_endErrand (l : Launch) (D : va_G) (cy : ClassId) (ad : Nat → Nat) (fu : Nat) (l1 : Int32) (x : Mem) : Ct l D cy ad shX yX6_endErrand cX6_endErrand 3 none 3 120 [.ref (ad 6), .int l1] x (F_X6_endErrand fu l1 x) := by
  refine ct_of [some (.ref (ad 6)), some (.int l1), none] (by decide) (Nat.le_of_ble_eq_true rfl) rfl rfl ?_
  intro p e s m args below meth c A X
  have X : Cx p s m args meth c RX6 cX6_endErrand 3 none D cy ad shX A := X
  unfold F_X6_endErrand
  refine s_aload_n (pc := 0) X rfl dX6_endErrand_0 ?_
  refine s_getR (pc := 1) X shX_6 rfl fl_RX6_15 dX6_endErrand_1 ?_
  refine s_getR (pc := 4) X shX_4 rfl fl_RX6_62 dX6_endErrand_4 ?_
  refine s_iload_n (pc := 7) X rfl dX6_endErrand_7 ?_
  refine s_iald (pc := 8) X shX_22 dX6_endErrand_8 ?_
  refine s_letv (fun l2_1 => ?_)
  refine s_istore_n (pc := 9) X [some (.ref (ad 6)), some (.int l1), some (.int l2_1)] rfl (by decide) dX6_endErrand_9 ?_
  refine s_aload_n (pc := 10) X rfl dX6_endErrand_10 ?_
  refine s_getR (pc := 11) X shX_6 rfl fl_RX6_9 dX6_endErrand_11 ?_
  refine s_iload_n (pc := 14) X rfl dX6_endErrand_14 ?_
  refine s_callVp (pc := 15) (As := [.int l2_1]) (st := []) X lk_RX6_45 (c_X4_has l D cy ad fu _ _) shX_1 rfl rfl rfl rfl ⟨by decide, by decide⟩ (Nat.le_of_ble_eq_true rfl) dX6_endErrand_15 (fun r_2 => ?_)
  refine s_if_ne (pc := 18) X 22 rfl dX6_endErrand_18 ?_ ?_
  · refine s_aload_n (pc := 22) X rfl dX6_endErrand_22 ?_
    refine s_getR (pc := 23) X shX_6 rfl fl_RX6_15 dX6_endErrand_23 ?_
    refine s_getR (pc := 26) X shX_4 rfl fl_RX6_62 dX6_endErrand_26 ?_
    refine s_iload_n (pc := 29) X rfl dX6_endErrand_29 ?_
    refine s_bipush (pc := 30) X bp_m4 dX6_endErrand_30 ?_
    refine s_iast (pc := 32) X shX_22 dX6_endErrand_32 ?_
    refine s_letm (fun x_3 => ?_)
    refine s_aload_n (pc := 33) X rfl dX6_endErrand_33 ?_
    refine s_getR (pc := 34) X shX_6 rfl fl_RX6_15 dX6_endErrand_34 ?_
    refine s_getR (pc := 37) X shX_4 rfl fl_RX6_89 dX6_endErrand_37 ?_
    refine s_iload_n (pc := 40) X rfl dX6_endErrand_40 ?_
    refine s_aload_n (pc := 41) X rfl dX6_endErrand_41 ?_
    refine s_getR (pc := 42) X shX_6 rfl fl_RX6_9 dX6_endErrand_42 ?_
    refine s_getR (pc := 45) X shX_1 rfl fl_RX6_51 dX6_endErrand_45 ?_
    refine s_iload_n (pc := 48) X rfl dX6_endErrand_48 ?_
    refine s_iald (pc := 49) X shX_10 dX6_endErrand_49 ?_
    refine s_iast (pc := 50) X shX_19 dX6_endErrand_50 ?_
    refine s_letm (fun x_4 => ?_)
    refine s_aload_n (pc := 51) X rfl dX6_endErrand_51 ?_
    refine s_getR (pc := 52) X shX_6 rfl fl_RX6_15 dX6_endErrand_52 ?_
    refine s_getR (pc := 55) X shX_4 rfl fl_RX6_90 dX6_endErrand_55 ?_
    refine s_iload_n (pc := 58) X rfl dX6_endErrand_58 ?_
    refine s_aload_n (pc := 59) X rfl dX6_endErrand_59 ?_
    refine s_getR (pc := 60) X shX_6 rfl fl_RX6_9 dX6_endErrand_60 ?_
    refine s_getR (pc := 63) X shX_1 rfl fl_RX6_55 dX6_endErrand_63 ?_
    refine s_iload_n (pc := 66) X rfl dX6_endErrand_66 ?_
    refine s_iald (pc := 67) X shX_11 dX6_endErrand_67 ?_
    refine s_iast (pc := 68) X shX_20 dX6_endErrand_68 ?_
    refine s_letm (fun x_5 => ?_)
    refine s_aload_n (pc := 69) X rfl dX6_endErrand_69 ?_
    refine s_getR (pc := 70) X shX_6 rfl fl_RX6_19 dX6_endErrand_70 ?_
    refine s_iload_n (pc := 73) X rfl dX6_endErrand_73 ?_
    refine s_callV0 (pc := 74) (As := [.int l2_1]) (st := []) X lk_RX6_91 (c_X1_endErrand l D cy ad fu _ _) shX_5 rfl rfl rfl rfl ⟨by decide, by decide⟩ (Nat.le_of_ble_eq_true rfl) dX6_endErrand_74 (fun _ x_6 => ?_)
    exact s_vret (pc := 77) X dX6_endErrand_77
  · exact s_vret (pc := 21) X dX6_endErrand_21

-- X6_nextTick
def L_X6_nextTick_12 (fu : Nat) : Nat → Int32 → Mem → (Mem → Res) → Res
  | 0, _, _, _ => none
  | n + 1, l1, x, K => (if (x 4 0) ≤ l1 then (K x) else (clp (F_X5_isFree fu l1 x) (fun r_2 => (if r_2 = 0 then (chk l1 5 (if (x 6 3) < (x 23 (l1 : Int32).toNatClampNeg) then (L_X6_nextTick_12 fu n (l1 + 1) x K) else (cl (F_X6_endErrand fu l1 x) (fun _ x_3 => (L_X6_nextTick_12 fu n (l1 + 1) x_3 K))))) else (L_X6_nextTick_12 fu n (l1 + 1) x K)))))
set_option maxRecDepth 100000 in
set_option maxHeartbeats 4000000 in
theorem tL_X6_nextTick_12 {p : Program} {l : Launch} {e : Env} {s : State} {m : MethodId} {args : Array Value} {below : List Frame} {meth : Method} {c : Code} {D : va_G} {cy : ClassId} {ad : Nat → Nat} {A : Nat → Prop} {fu : Nat} (X : Cx p s m args meth c RX6 cX6_nextTick 2 none D cy ad shX A) {K : Mem → Res} (hK : ∀ (x : Mem), Sim p l e ({ frames := 4, cells := 0, slots := 0, locals := 160 } : Room) s m args below meth c 2 none D cy ad shX A 61 [none, none] [] x (K x)) : ∀ (n : Nat) (l1 : Int32) (x : Mem), Sim p l e ({ frames := 4, cells := 0, slots := 0, locals := 160 } : Room) s m args below meth c 2 none D cy ad shX A 12 [some (.ref (ad 6)), some (.int l1)] [] x (L_X6_nextTick_12 fu n l1 x K) := by
  intro n
  induction n with
  | zero =>
    intro l1 x
    rw [L_X6_nextTick_12]
    exact s_none
  | succ n ih =>
    intro l1 x
    rw [L_X6_nextTick_12]
    refine s_iload_n (pc := 12) X rfl dX6_nextTick_12 ?_
    refine s_aload_n (pc := 13) X rfl dX6_nextTick_13 ?_
    refine s_getR (pc := 14) X shX_6 rfl fl_RX6_15 dX6_nextTick_14 ?_
    refine s_getI (pc := 17) X shX_4 rfl fl_RX6_23 dX6_nextTick_17 ?_
    refine s_icmp_ge (pc := 20) X 61 rfl dX6_nextTick_20 ?_ ?_
    · refine s_mask [false, false] ?_
      exact hK _
    · refine s_aload_n (pc := 23) X rfl dX6_nextTick_23 ?_
      refine s_getR (pc := 24) X shX_6 rfl fl_RX6_15 dX6_nextTick_24 ?_
      refine s_iload_n (pc := 27) X rfl dX6_nextTick_27 ?_
      refine s_callVp (pc := 28) (As := [.int l1]) (st := []) X lk_RX6_82 (c_X5_isFree l D cy ad fu _ _) shX_4 rfl rfl rfl rfl ⟨by decide, by decide⟩ (Nat.le_of_ble_eq_true rfl) dX6_nextTick_28 (fun r_2 => ?_)
      refine s_if_ne (pc := 31) X 55 rfl dX6_nextTick_31 ?_ ?_
      · refine s_iinc (pc := 55) X [some (.ref (ad 6)), some (.int (l1 + 1))] rfl (by decide) rfl ic_1 dX6_nextTick_55 ?_
        refine s_goto (pc := 58) X 12 rfl dX6_nextTick_58 ?_
        exact ih _ _
      · refine s_aload_n (pc := 34) X rfl dX6_nextTick_34 ?_
        refine s_getR (pc := 35) X shX_6 rfl fl_RX6_15 dX6_nextTick_35 ?_
        refine s_getR (pc := 38) X shX_4 rfl fl_RX6_65 dX6_nextTick_38 ?_
        refine s_iload_n (pc := 41) X rfl dX6_nextTick_41 ?_
        refine s_iald (pc := 42) X shX_23 dX6_nextTick_42 ?_
        refine s_aload_n (pc := 43) X rfl dX6_nextTick_43 ?_
        refine s_getI (pc := 44) X shX_6 rfl fl_RX6_68 dX6_nextTick_44 ?_
        refine s_icmp_gt (pc := 47) X 55 rfl dX6_nextTick_47 ?_ ?_
        · refine s_iinc (pc := 55) X [some (.ref (ad 6)), some (.int (l1 + 1))] rfl (by decide) rfl ic_1 dX6_nextTick_55 ?_
          refine s_goto (pc := 58) X 12 rfl dX6_nextTick_58 ?_
          exact ih _ _
        · refine s_aload_n (pc := 50) X rfl dX6_nextTick_50 ?_
          refine s_iload_n (pc := 51) X rfl dX6_nextTick_51 ?_
          refine s_callV0 (pc := 52) (As := [.int l1]) (st := []) X lk_RX6_85 (c_X6_endErrand l D cy ad fu _ _) shX_6 rfl rfl rfl rfl ⟨by decide, by decide⟩ (Nat.le_of_ble_eq_true rfl) dX6_nextTick_52 (fun _ x_3 => ?_)
          refine s_iinc (pc := 55) X [some (.ref (ad 6)), some (.int (l1 + 1))] rfl (by decide) rfl ic_1 dX6_nextTick_55 ?_
          refine s_goto (pc := 58) X 12 rfl dX6_nextTick_58 ?_
          exact ih _ _

def F_X6_nextTick (fu : Nat) (x : Mem) : Res :=
  (letm (wr x 6 3 ((x 6 3) + 1)) (fun x_1 => (L_X6_nextTick_12 fu fu 0 x_1 (fun x_4 => (some (0, x_4))))))
set_option maxRecDepth 100000 in
set_option maxHeartbeats 4000000 in
theorem c_X6_nextTick (l : Launch) (D : va_G) (cy : ClassId) (ad : Nat → Nat) (fu : Nat) (x : Mem) : Ct l D cy ad shX yX6_nextTick cX6_nextTick 2 none 4 160 [.ref (ad 6)] x (F_X6_nextTick fu x) := by
  refine ct_of [some (.ref (ad 6)), none] (by decide) (Nat.le_of_ble_eq_true rfl) rfl rfl ?_
  intro p e s m args below meth c A X
  have X : Cx p s m args meth c RX6 cX6_nextTick 2 none D cy ad shX A := X
  unfold F_X6_nextTick
  refine s_aload_n (pc := 0) X rfl dX6_nextTick_0 ?_
  refine s_dup (pc := 1) X rfl dX6_nextTick_1 ?_
  refine s_getI (pc := 2) X shX_6 rfl fl_RX6_68 dX6_nextTick_2 ?_
  refine s_iconst (pc := 5) X ic_1 dX6_nextTick_5 ?_
  refine s_iadd (pc := 6) X dX6_nextTick_6 ?_
  refine s_put (pc := 7) X shX_6 rfl fp_RX6_68 dX6_nextTick_7 ?_
  refine s_letm (fun x_1 => ?_)
  refine s_iconst (pc := 10) X ic_0 dX6_nextTick_10 ?_
  refine s_istore_n (pc := 11) X [some (.ref (ad 6)), some (.int 0)] rfl (by decide) dX6_nextTick_11 ?_
  refine tL_X6_nextTick_12 X (fun x_4 => ?_) fu _ _
  exact s_vret (pc := 61) X dX6_nextTick_61

-- X7_mayTake
def F_X7_mayTake (fu : Nat) (l1 : Int32) (l2 : Int32) (x : Mem) : Option Int32 :=
  (chk l2 12 (clp (F_X5_mayGo fu l1 (x 12 (l2 : Int32).toNatClampNeg) x) (fun r_1 => (retzp r_1))))
set_option maxRecDepth 100000 in
set_option maxHeartbeats 4000000 in
theorem c_X7_mayTake (l : Launch) (D : va_G) (cy : ClassId) (ad : Nat → Nat) (fu : Nat) (l1 : Int32) (l2 : Int32) (x : Mem) : Ct l D cy ad shX yX7_mayTake cX7_mayTake 3 (some .boolean) 3 120 [.ref (ad 7), .int l1, .int l2] x (pr (F_X7_mayTake fu l1 l2 x) x) := by
  refine ct_of [some (.ref (ad 7)), some (.int l1), some (.int l2)] (by decide) (Nat.le_of_ble_eq_true rfl) rfl rfl ?_
  intro p e s m args below meth c A X
  have X : Cx p s m args meth c RX7 cX7_mayTake 3 (some .boolean) D cy ad shX A := X
  unfold F_X7_mayTake
  refine s_aload_n (pc := 0) X rfl dX7_mayTake_0 ?_
  refine s_getR (pc := 1) X shX_7 rfl fl_RX7_25 dX7_mayTake_1 ?_
  refine s_iload_n (pc := 4) X rfl dX7_mayTake_4 ?_
  refine s_aload_n (pc := 5) X rfl dX7_mayTake_5 ?_
  refine s_getR (pc := 6) X shX_7 rfl fl_RX7_21 dX7_mayTake_6 ?_
  refine s_getR (pc := 9) X shX_1 rfl fl_RX7_58 dX7_mayTake_9 ?_
  refine s_iload_n (pc := 12) X rfl dX7_mayTake_12 ?_
  refine p_iald (pc := 13) X shX_12 dX7_mayTake_13 ?_
  refine p_callV (pc := 14) (As := [.int l1, .int (x 12 (l2 : Int32).toNatClampNeg)]) (st := []) X lk_RX7_72 (c_X5_mayGo l D cy ad fu _ _ _) shX_4 rfl rfl rfl rfl ⟨by decide, by decide⟩ (Nat.le_of_ble_eq_true rfl) dX7_mayTake_14 (fun r_1 => ?_)
  exact p_zret (pc := 17) X dX7_mayTake_17

-- X7_far
def F_X7_far (fu : Nat) (l1 : Int32) (l2 : Int32) (x : Mem) : Option Int32 :=
  (chk l2 12 (chk l2 12 (clp (F_X5_wayTo fu l1 (x 10 (l2 : Int32).toNatClampNeg) (x 11 (l2 : Int32).toNatClampNeg) x) (fun r_1 => (some r_1)))))
set_option maxRecDepth 100000 in
set_option maxHeartbeats 4000000 in
theorem c_X7_far (l : Launch) (D : va_G) (cy : ClassId) (ad : Nat → Nat) (fu : Nat) (l1 : Int32) (l2 : Int32) (x : Mem) : Ct l D cy ad shX yX7_far cX7_far 3 (some .int) 2 80 [.ref (ad 7), .int l1, .int l2] x (pr (F_X7_far fu l1 l2 x) x) := by
  refine ct_of [some (.ref (ad 7)), some (.int l1), some (.int l2)] (by decide) (Nat.le_of_ble_eq_true rfl) rfl rfl ?_
  intro p e s m args below meth c A X
  have X : Cx p s m args meth c RX7 cX7_far 3 (some .int) D cy ad shX A := X
  unfold F_X7_far
  refine s_aload_n (pc := 0) X rfl dX7_far_0 ?_
  refine s_getR (pc := 1) X shX_7 rfl fl_RX7_25 dX7_far_1 ?_
  refine s_iload_n (pc := 4) X rfl dX7_far_4 ?_
  refine s_aload_n (pc := 5) X rfl dX7_far_5 ?_
  refine s_getR (pc := 6) X shX_7 rfl fl_RX7_21 dX7_far_6 ?_
  refine s_getR (pc := 9) X shX_1 rfl fl_RX7_75 dX7_far_9 ?_
  refine s_iload_n (pc := 12) X rfl dX7_far_12 ?_
  refine p_iald (pc := 13) X shX_10 dX7_far_13 ?_
  refine s_aload_n (pc := 14) X rfl dX7_far_14 ?_
  refine s_getR (pc := 15) X shX_7 rfl fl_RX7_21 dX7_far_15 ?_
  refine s_getR (pc := 18) X shX_1 rfl fl_RX7_78 dX7_far_18 ?_
  refine s_iload_n (pc := 21) X rfl dX7_far_21 ?_
  refine p_iald (pc := 22) X shX_11 dX7_far_22 ?_
  refine p_callV (pc := 23) (As := [.int l1, .int (x 10 (l2 : Int32).toNatClampNeg), .int (x 11 (l2 : Int32).toNatClampNeg)]) (st := []) X lk_RX7_81 (c_X5_wayTo l D cy ad fu _ _ _ _) shX_4 rfl rfl rfl rfl ⟨by decide, by decide⟩ (Nat.le_of_ble_eq_true rfl) dX7_far_23 (fun r_1 => ?_)
  exact p_iret (pc := 26) X dX7_far_26

-- X7_keep
def L_X7_keep_7 (fu : Nat) : Nat → Int32 → Mem → (Mem → Res) → Res
  | 0, _, _, _ => none
  | n + 1, l2, x, K => (if (x 7 6) ≤ l2 then (K x) else (chk l2 4 (chk l2 4 (letm (wr x 31 (l2 : Int32).toNatClampNeg (x 32 (l2 : Int32).toNatClampNeg)) (fun x_2 => (L_X7_keep_7 fu n (l2 + 1) x_2 K))))))
set_option maxRecDepth 100000 in
set_option maxHeartbeats 4000000 in
theorem tL_X7_keep_7 {p : Program} {l : Launch} {e : Env} {s : State} {m : MethodId} {args : Array Value} {below : List Frame} {meth : Method} {c : Code} {D : va_G} {cy : ClassId} {ad : Nat → Nat} {A : Nat → Prop} {fu : Nat} (X : Cx p s m args meth c RX7 cX7_keep 3 none D cy ad shX A) {K : Mem → Res} (hK : ∀ (x : Mem), Sim p l e ({ frames := 1, cells := 0, slots := 0, locals := 40 } : Room) s m args below meth c 3 none D cy ad shX A 33 [none, none, none] [] x (K x)) : ∀ (n : Nat) (l2 : Int32) (x : Mem), Sim p l e ({ frames := 1, cells := 0, slots := 0, locals := 40 } : Room) s m args below meth c 3 none D cy ad shX A 7 [some (.ref (ad 7)), none, some (.int l2)] [] x (L_X7_keep_7 fu n l2 x K) := by
  intro n
  induction n with
  | zero =>
    intro l2 x
    rw [L_X7_keep_7]
    exact s_none
  | succ n ih =>
    intro l2 x
    rw [L_X7_keep_7]
    refine s_iload_n (pc := 7) X rfl dX7_keep_7 ?_
    refine s_aload_n (pc := 8) X rfl dX7_keep_8 ?_
    refine s_getI (pc := 9) X shX_7 rfl fl_RX7_33 dX7_keep_9 ?_
    refine s_icmp_ge (pc := 12) X 33 rfl dX7_keep_12 ?_ ?_
    · refine s_mask [false, false, false] ?_
      exact hK _
    · refine s_aload_n (pc := 15) X rfl dX7_keep_15 ?_
      refine s_getR (pc := 16) X shX_7 rfl fl_RX7_15 dX7_keep_16 ?_
      refine s_iload_n (pc := 19) X rfl dX7_keep_19 ?_
      refine s_aload_n (pc := 20) X rfl dX7_keep_20 ?_
      refine s_getR (pc := 21) X shX_7 rfl fl_RX7_18 dX7_keep_21 ?_
      refine s_iload_n (pc := 24) X rfl dX7_keep_24 ?_
      refine s_iald (pc := 25) X shX_32 dX7_keep_25 ?_
      refine s_iast (pc := 26) X shX_31 dX7_keep_26 ?_
      refine s_letm (fun x_2 => ?_)
      refine s_iinc (pc := 27) X [some (.ref (ad 7)), none, some (.int (l2 + 1))] rfl (by decide) rfl ic_1 dX7_keep_27 ?_
      refine s_goto (pc := 30) X 7 rfl dX7_keep_30 ?_
      exact ih _ _

def F_X7_keep (fu : Nat) (l1 : Int32) (x : Mem) : Res :=
  (letm (wr x 7 7 l1) (fun x_1 => (L_X7_keep_7 fu fu 0 x_1 (fun x_3 => (some (0, x_3))))))
set_option maxRecDepth 100000 in
set_option maxHeartbeats 4000000 in
theorem c_X7_keep (l : Launch) (D : va_G) (cy : ClassId) (ad : Nat → Nat) (fu : Nat) (l1 : Int32) (x : Mem) : Ct l D cy ad shX yX7_keep cX7_keep 3 none 1 40 [.ref (ad 7), .int l1] x (F_X7_keep fu l1 x) := by
  refine ct_of [some (.ref (ad 7)), some (.int l1), none] (by decide) (Nat.le_of_ble_eq_true rfl) rfl rfl ?_
  intro p e s m args below meth c A X
  have X : Cx p s m args meth c RX7 cX7_keep 3 none D cy ad shX A := X
  unfold F_X7_keep
  refine s_aload_n (pc := 0) X rfl dX7_keep_0 ?_
  refine s_iload_n (pc := 1) X rfl dX7_keep_1 ?_
  refine s_put (pc := 2) X shX_7 rfl fp_RX7_47 dX7_keep_2 ?_
  refine s_letm (fun x_1 => ?_)
  refine s_iconst (pc := 5) X ic_0 dX7_keep_5 ?_
  refine s_istore_n (pc := 6) X [some (.ref (ad 7)), some (.int l1), some (.int 0)] rfl (by decide) dX7_keep_6 ?_
  refine s_mask [true, false, true] ?_
  refine tL_X7_keep_7 X (fun x_3 => ?_) fu _ _
  exact s_vret (pc := 33) X dX7_keep_33

-- X7_tryFrom
def L_X7_tryFrom_53 (fu : Nat) (rc : Int32 → Int32 → Int32 → Mem → Res) (l1 : Int32) (l2 : Int32) (l3 : Int32) (l4 : Int32) (l5 : Int32) : Nat → Int32 → Mem → (Mem → Res) → Res
  | 0, _, _, _ => none
  | n + 1, l6, x, K => (if (x 4 0) ≤ l6 then (K x) else (if (((l2 : Int32) >>> (l6 &&& 31)) &&& 1) = 0 then (clp (F_X7_mayTake fu l6 l4 x) (fun r_4 => (if r_4 = 0 then (L_X7_tryFrom_53 fu rc l1 l2 l3 l4 l5 n (l6 + 1) x K) else (chk l1 4 (letm (wr x 32 (l1 : Int32).toNatClampNeg l6) (fun x_5 => (clp (F_X7_far fu l6 l4 x_5) (fun r_6 => (letv (l5 * r_6) (fun l7_7 => (cl (rc (l1 + 1) (l2 ||| ((1 : Int32) <<< (l6 &&& 31))) (l3 + l7_7) x_5) (fun _ x_8 => (L_X7_tryFrom_53 fu rc l1 l2 l3 l4 l5 n (l6 + 1) x_8 K))))))))))))) else (L_X7_tryFrom_53 fu rc l1 l2 l3 l4 l5 n (l6 + 1) x K)))
set_option maxRecDepth 100000 in
set_option maxHeartbeats 4000000 in
theorem tL_X7_tryFrom_53 {p : Program} {l : Launch} {e : Env} {s : State} {m : MethodId} {args : Array Value} {below : List Frame} {meth : Method} {c : Code} {D : va_G} {cy : ClassId} {ad : Nat → Nat} {A : Nat → Prop} {fu d : Nat} (X : Cx p s m args meth c RX7 cX7_tryFrom 8 none D cy ad shX A) {rc : Int32 → Int32 → Int32 → Mem → Res} (hrc : ∀ (a0 a1 a2 : Int32) (x : Mem), Ct l D cy ad shX yX7_tryFrom cX7_tryFrom 8 none (4 + d) (40 * (4 + d)) [.ref (ad 7), .int a0, .int a1, .int a2] x (rc a0 a1 a2 x)) {l1 : Int32} {l2 : Int32} {l3 : Int32} {l4 : Int32} {l5 : Int32} {K : Mem → Res} (hK : ∀ (x : Mem), Sim p l e ({ frames := (4 + (d + 1)), cells := 0, slots := 0, locals := (40 * (4 + (d + 1))) } : Room) s m args below meth c 8 none D cy ad shX A 129 [some (.ref (ad 7)), some (.int l1), some (.int l2), some (.int l3), none, some (.int l5), none, none] [] x (K x)) : ∀ (n : Nat) (l6 : Int32) (x : Mem), Sim p l e ({ frames := (4 + (d + 1)), cells := 0, slots := 0, locals := (40 * (4 + (d + 1))) } : Room) s m args below meth c 8 none D cy ad shX A 53 [some (.ref (ad 7)), some (.int l1), some (.int l2), some (.int l3), some (.int l4), some (.int l5), some (.int l6), none] [] x (L_X7_tryFrom_53 fu rc l1 l2 l3 l4 l5 n l6 x K) := by
  intro n
  induction n with
  | zero =>
    intro l6 x
    rw [L_X7_tryFrom_53]
    exact s_none
  | succ n ih =>
    intro l6 x
    rw [L_X7_tryFrom_53]
    refine s_iload (pc := 53) X rfl dX7_tryFrom_53 ?_
    refine s_aload_n (pc := 55) X rfl dX7_tryFrom_55 ?_
    refine s_getR (pc := 56) X shX_7 rfl fl_RX7_25 dX7_tryFrom_56 ?_
    refine s_getI (pc := 59) X shX_4 rfl fl_RX7_61 dX7_tryFrom_59 ?_
    refine s_icmp_ge (pc := 62) X 129 rfl dX7_tryFrom_62 ?_ ?_
    · refine s_mask [true, true, true, true, false, true, false, false] ?_
      exact hK _
    · refine s_iload_n (pc := 65) X rfl dX7_tryFrom_65 ?_
      refine s_iload (pc := 66) X rfl dX7_tryFrom_66 ?_
      refine s_ishr (pc := 68) X dX7_tryFrom_68 ?_
      refine s_iconst (pc := 69) X ic_1 dX7_tryFrom_69 ?_
      refine s_iand (pc := 70) X dX7_tryFrom_70 ?_
      refine s_if_ne (pc := 71) X 123 rfl dX7_tryFrom_71 ?_ ?_
      · refine s_iinc (pc := 123) X [some (.ref (ad 7)), some (.int l1), some (.int l2), some (.int l3), some (.int l4), some (.int l5), some (.int (l6 + 1)), none] rfl (by decide) rfl ic_1 dX7_tryFrom_123 ?_
        refine s_goto (pc := 126) X 53 rfl dX7_tryFrom_126 ?_
        exact ih _ _
      · refine s_aload_n (pc := 74) X rfl dX7_tryFrom_74 ?_
        refine s_iload (pc := 75) X rfl dX7_tryFrom_75 ?_
        refine s_iload (pc := 77) X rfl dX7_tryFrom_77 ?_
        refine s_callVp (pc := 79) (As := [.int l6, .int l4]) (st := []) X lk_RX7_64 (c_X7_mayTake l D cy ad fu _ _ _) shX_7 rfl rfl rfl rfl ⟨by show 3 + 1 ≤ (4 + (d + 1)); omega, by show 8 + (3 + 11) + 120 ≤ (40 * (4 + (d + 1))); omega⟩ (Nat.le_of_ble_eq_true rfl) dX7_tryFrom_79 (fun r_4 => ?_)
        refine s_if_eq (pc := 82) X 123 rfl dX7_tryFrom_82 ?_ ?_
        · refine s_iinc (pc := 123) X [some (.ref (ad 7)), some (.int l1), some (.int l2), some (.int l3), some (.int l4), some (.int l5), some (.int (l6 + 1)), none] rfl (by decide) rfl ic_1 dX7_tryFrom_123 ?_
          refine s_goto (pc := 126) X 53 rfl dX7_tryFrom_126 ?_
          exact ih _ _
        · refine s_aload_n (pc := 85) X rfl dX7_tryFrom_85 ?_
          refine s_getR (pc := 86) X shX_7 rfl fl_RX7_18 dX7_tryFrom_86 ?_
          refine s_iload_n (pc := 89) X rfl dX7_tryFrom_89 ?_
          refine s_iload (pc := 90) X rfl dX7_tryFrom_90 ?_
          refine s_iast (pc := 92) X shX_32 dX7_tryFrom_92 ?_
          refine s_letm (fun x_5 => ?_)
          refine s_iload (pc := 93) X rfl dX7_tryFrom_93 ?_
          refine s_aload_n (pc := 95) X rfl dX7_tryFrom_95 ?_
          refine s_iload (pc := 96) X rfl dX7_tryFrom_96 ?_
          refine s_iload (pc := 98) X rfl dX7_tryFrom_98 ?_
          refine s_callVp (pc := 100) (As := [.int l6, .int l4]) (st := [.int l5]) X lk_RX7_68 (c_X7_far l D cy ad fu _ _ _) shX_7 rfl rfl rfl rfl ⟨by show 2 + 1 ≤ (4 + (d + 1)); omega, by show 8 + (3 + 11) + 80 ≤ (40 * (4 + (d + 1))); omega⟩ (Nat.le_of_ble_eq_true rfl) dX7_tryFrom_100 (fun r_6 => ?_)
          refine s_imul (pc := 103) X dX7_tryFrom_103 ?_
          refine s_letv (fun l7_7 => ?_)
          refine s_istore (pc := 104) X [some (.ref (ad 7)), some (.int l1), some (.int l2), some (.int l3), some (.int l4), some (.int l5), some (.int l6), some (.int l7_7)] rfl (by decide) dX7_tryFrom_104 ?_
          refine s_aload_n (pc := 106) X rfl dX7_tryFrom_106 ?_
          refine s_iload_n (pc := 107) X rfl dX7_tryFrom_107 ?_
          refine s_iconst (pc := 108) X ic_1 dX7_tryFrom_108 ?_
          refine s_iadd (pc := 109) X dX7_tryFrom_109 ?_
          refine s_iload_n (pc := 110) X rfl dX7_tryFrom_110 ?_
          refine s_iconst (pc := 111) X ic_1 dX7_tryFrom_111 ?_
          refine s_iload (pc := 112) X rfl dX7_tryFrom_112 ?_
          refine s_ishl (pc := 114) X dX7_tryFrom_114 ?_
          refine s_ior (pc := 115) X dX7_tryFrom_115 ?_
          refine s_iload_n (pc := 116) X rfl dX7_tryFrom_116 ?_
          refine s_iload (pc := 117) X rfl dX7_tryFrom_117 ?_
          refine s_iadd (pc := 119) X dX7_tryFrom_119 ?_
          refine s_callS0 (pc := 120) (As := [.ref (ad 7), .int (l1 + 1), .int (l2 ||| ((1 : Int32) <<< (l6 &&& 31))), .int (l3 + l7_7)]) (st := []) X lk_RX7_50 (hrc _ _ _ _) rfl rfl ⟨by show (4 + d) + 1 ≤ (4 + (d + 1)); omega, by show 8 + (8 + 11) + (40 * (4 + d)) ≤ (40 * (4 + (d + 1))); omega⟩ (Nat.le_of_ble_eq_true rfl) dX7_tryFrom_120 (fun _ x_8 => ?_)
          refine s_iinc (pc := 123) X [some (.ref (ad 7)), some (.int l1), some (.int l2), some (.int l3), some (.int l4), some (.int l5), some (.int (l6 + 1)), some (.int l7_7)] rfl (by decide) rfl ic_1 dX7_tryFrom_123 ?_
          refine s_goto (pc := 126) X 53 rfl dX7_tryFrom_126 ?_
          refine s_mask [true, true, true, true, true, true, true, false] ?_
          exact ih _ _

def F_X7_tryFrom (fu : Nat) : Nat → Int32 → Int32 → Int32 → Mem → Res
  | 0, _, _, _, _ => none
  | d + 1, l1, l2, l3, x => (if l3 < (x 7 7) then (if (x 7 6) ≤ l1 then (cl (F_X7_keep fu l3 x) (fun _ x_1 => (some (0, x_1)))) else (if l1 < 4 then (chk l1 4 (letv (x 30 (l1 : Int32).toNatClampNeg) (fun l4_2 => (chk l4_2 12 (letv ((x 12 (l4_2 : Int32).toNatClampNeg) + 1) (fun l5_3 => (L_X7_tryFrom_53 fu (F_X7_tryFrom fu d) l1 l2 l3 l4_2 l5_3 fu 0 x (fun x_9 => (chk l1 4 (letm (wr x_9 32 (l1 : Int32).toNatClampNeg 5) (fun x_10 => (cl (F_X7_tryFrom fu d (l1 + 1) l2 (l3 + (l5_3 * 100)) x_10) (fun _ x_11 => (some (0, x_11))))))))))))))) else (cl (F_X7_keep fu l3 x) (fun _ x_12 => (some (0, x_12)))))) else (some (0, x)))
set_option maxRecDepth 100000 in
set_option maxHeartbeats 4000000 in
theorem c_X7_tryFrom (l : Launch) (D : va_G) (cy : ClassId) (ad : Nat → Nat) (fu : Nat) : ∀ (d : Nat) (l1 : Int32) (l2 : Int32) (l3 : Int32) (x : Mem), Ct l D cy ad shX yX7_tryFrom cX7_tryFrom 8 none (4 + d) (40 * (4 + d)) [.ref (ad 7), .int l1, .int l2, .int l3] x (F_X7_tryFrom fu d l1 l2 l3 x) := by
  intro d
  induction d with
  | zero => intro l1 l2 l3 x r x' h; rw [F_X7_tryFrom] at h; cases h
  | succ d hrc =>
    intro l1 l2 l3 x
    refine ct_of [some (.ref (ad 7)), some (.int l1), some (.int l2), some (.int l3), none, none, none, none] (by decide) (Nat.le_of_ble_eq_true rfl) rfl rfl ?_
    intro p e s m args below meth c A X
    have X : Cx p s m args meth c RX7 cX7_tryFrom 8 none D cy ad shX A := X
    rw [F_X7_tryFrom]
    refine s_iload_n (pc := 0) X rfl dX7_tryFrom_0 ?_
    refine s_aload_n (pc := 1) X rfl dX7_tryFrom_1 ?_
    refine s_getI (pc := 2) X shX_7 rfl fl_RX7_47 dX7_tryFrom_2 ?_
    refine s_icmp_lt (pc := 5) X 9 rfl dX7_tryFrom_5 ?_ ?_
    · refine s_iload_n (pc := 9) X rfl dX7_tryFrom_9 ?_
      refine s_aload_n (pc := 10) X rfl dX7_tryFrom_10 ?_
      refine s_getI (pc := 11) X shX_7 rfl fl_RX7_33 dX7_tryFrom_11 ?_
      refine s_icmp_ge (pc := 14) X 22 rfl dX7_tryFrom_14 ?_ ?_
      · refine s_aload_n (pc := 22) X rfl dX7_tryFrom_22 ?_
        refine s_iload_n (pc := 23) X rfl dX7_tryFrom_23 ?_
        refine s_callV0 (pc := 24) (As := [.int l3]) (st := []) X lk_RX7_54 (c_X7_keep l D cy ad fu _ _) shX_7 rfl rfl rfl rfl ⟨by show 1 + 1 ≤ (4 + (d + 1)); omega, by show 8 + (3 + 11) + 40 ≤ (40 * (4 + (d + 1))); omega⟩ (Nat.le_of_ble_eq_true rfl) dX7_tryFrom_24 (fun _ x_1 => ?_)
        exact s_vret (pc := 27) X dX7_tryFrom_27
      · refine s_iload_n (pc := 17) X rfl dX7_tryFrom_17 ?_
        refine s_iconst (pc := 18) X ic_4 dX7_tryFrom_18 ?_
        refine s_icmp_lt (pc := 19) X 28 rfl dX7_tryFrom_19 ?_ ?_
        · refine s_aload_n (pc := 28) X rfl dX7_tryFrom_28 ?_
          refine s_getR (pc := 29) X shX_7 rfl fl_RX7_9 dX7_tryFrom_29 ?_
          refine s_iload_n (pc := 32) X rfl dX7_tryFrom_32 ?_
          refine s_iald (pc := 33) X shX_30 dX7_tryFrom_33 ?_
          refine s_letv (fun l4_2 => ?_)
          refine s_istore (pc := 34) X [some (.ref (ad 7)), some (.int l1), some (.int l2), some (.int l3), some (.int l4_2), none, none, none] rfl (by decide) dX7_tryFrom_34 ?_
          refine s_aload_n (pc := 36) X rfl dX7_tryFrom_36 ?_
          refine s_getR (pc := 37) X shX_7 rfl fl_RX7_21 dX7_tryFrom_37 ?_
          refine s_getR (pc := 40) X shX_1 rfl fl_RX7_58 dX7_tryFrom_40 ?_
          refine s_iload (pc := 43) X rfl dX7_tryFrom_43 ?_
          refine s_iald (pc := 45) X shX_12 dX7_tryFrom_45 ?_
          refine s_iconst (pc := 46) X ic_1 dX7_tryFrom_46 ?_
          refine s_iadd (pc := 47) X dX7_tryFrom_47 ?_
          refine s_letv (fun l5_3 => ?_)
          refine s_istore (pc := 48) X [some (.ref (ad 7)), some (.int l1), some (.int l2), some (.int l3), some (.int l4_2), some (.int l5_3), none, none] rfl (by decide) dX7_tryFrom_48 ?_
          refine s_iconst (pc := 50) X ic_0 dX7_tryFrom_50 ?_
          refine s_istore (pc := 51) X [some (.ref (ad 7)), some (.int l1), some (.int l2), some (.int l3), some (.int l4_2), some (.int l5_3), some (.int 0), none] rfl (by decide) dX7_tryFrom_51 ?_
          refine tL_X7_tryFrom_53 X hrc (fun x_9 => ?_) fu _ _
          refine s_aload_n (pc := 129) X rfl dX7_tryFrom_129 ?_
          refine s_getR (pc := 130) X shX_7 rfl fl_RX7_18 dX7_tryFrom_130 ?_
          refine s_iload_n (pc := 133) X rfl dX7_tryFrom_133 ?_
          refine s_iconst (pc := 134) X ic_5 dX7_tryFrom_134 ?_
          refine s_iast (pc := 135) X shX_32 dX7_tryFrom_135 ?_
          refine s_letm (fun x_10 => ?_)
          refine s_aload_n (pc := 136) X rfl dX7_tryFrom_136 ?_
          refine s_iload_n (pc := 137) X rfl dX7_tryFrom_137 ?_
          refine s_iconst (pc := 138) X ic_1 dX7_tryFrom_138 ?_
          refine s_iadd (pc := 139) X dX7_tryFrom_139 ?_
          refine s_iload_n (pc := 140) X rfl dX7_tryFrom_140 ?_
          refine s_iload_n (pc := 141) X rfl dX7_tryFrom_141 ?_
          refine s_iload (pc := 142) X rfl dX7_tryFrom_142 ?_
          refine s_bipush (pc := 144) X bp_100 dX7_tryFrom_144 ?_
          refine s_imul (pc := 146) X dX7_tryFrom_146 ?_
          refine s_iadd (pc := 147) X dX7_tryFrom_147 ?_
          refine s_callS0 (pc := 148) (As := [.ref (ad 7), .int (l1 + 1), .int l2, .int (l3 + (l5_3 * 100))]) (st := []) X lk_RX7_50 (hrc _ _ _ _) rfl rfl ⟨by show (4 + d) + 1 ≤ (4 + (d + 1)); omega, by show 8 + (8 + 11) + (40 * (4 + d)) ≤ (40 * (4 + (d + 1))); omega⟩ (Nat.le_of_ble_eq_true rfl) dX7_tryFrom_148 (fun _ x_11 => ?_)
          exact s_vret (pc := 151) X dX7_tryFrom_151
        · refine s_aload_n (pc := 22) X rfl dX7_tryFrom_22 ?_
          refine s_iload_n (pc := 23) X rfl dX7_tryFrom_23 ?_
          refine s_callV0 (pc := 24) (As := [.int l3]) (st := []) X lk_RX7_54 (c_X7_keep l D cy ad fu _ _) shX_7 rfl rfl rfl rfl ⟨by show 1 + 1 ≤ (4 + (d + 1)); omega, by show 8 + (3 + 11) + 40 ≤ (40 * (4 + (d + 1))); omega⟩ (Nat.le_of_ble_eq_true rfl) dX7_tryFrom_24 (fun _ x_12 => ?_)
          exact s_vret (pc := 27) X dX7_tryFrom_27
    · exact s_vret (pc := 8) X dX7_tryFrom_8

-- X7_findBest
def L_X7_findBest_7 (fu : Nat) : Nat → Int32 → Mem → (Mem → Res) → Res
  | 0, _, _, _ => none
  | n + 1, l1, x, K => (if (x 1 0) ≤ l1 then (K x) else (clp (F_X1_isWaiting fu l1 x) (fun r_2 => (if r_2 = 0 then (L_X7_findBest_7 fu n (l1 + 1) x K) else (if (4 : Int32) ≤ (x 7 6) then (L_X7_findBest_7 fu n (l1 + 1) x K) else (chk (x 7 6) 4 (letm (wr x 30 ((x 7 6) : Int32).toNatClampNeg l1) (fun x_3 => (letm (wr x_3 7 6 ((x_3 7 6) + 1)) (fun x_4 => (L_X7_findBest_7 fu n (l1 + 1) x_4 K)))))))))))
set_option maxRecDepth 100000 in
set_option maxHeartbeats 4000000 in
theorem tL_X7_findBest_7 {p : Program} {l : Launch} {e : Env} {s : State} {m : MethodId} {args : Array Value} {below : List Frame} {meth : Method} {c : Code} {D : va_G} {cy : ClassId} {ad : Nat → Nat} {A : Nat → Prop} {fu : Nat} (X : Cx p s m args meth c RX7 cX7_findBest 2 none D cy ad shX A) {K : Mem → Res} (hK : ∀ (x : Mem), Sim p l e ({ frames := 10, cells := 0, slots := 0, locals := 400 } : Room) s m args below meth c 2 none D cy ad shX A 63 [some (.ref (ad 7)), none] [] x (K x)) : ∀ (n : Nat) (l1 : Int32) (x : Mem), Sim p l e ({ frames := 10, cells := 0, slots := 0, locals := 400 } : Room) s m args below meth c 2 none D cy ad shX A 7 [some (.ref (ad 7)), some (.int l1)] [] x (L_X7_findBest_7 fu n l1 x K) := by
  intro n
  induction n with
  | zero =>
    intro l1 x
    rw [L_X7_findBest_7]
    exact s_none
  | succ n ih =>
    intro l1 x
    rw [L_X7_findBest_7]
    refine s_iload_n (pc := 7) X rfl dX7_findBest_7 ?_
    refine s_aload_n (pc := 8) X rfl dX7_findBest_8 ?_
    refine s_getR (pc := 9) X shX_7 rfl fl_RX7_21 dX7_findBest_9 ?_
    refine s_getI (pc := 12) X shX_1 rfl fl_RX7_37 dX7_findBest_12 ?_
    refine s_icmp_ge (pc := 15) X 63 rfl dX7_findBest_15 ?_ ?_
    · refine s_mask [true, false] ?_
      exact hK _
    · refine s_aload_n (pc := 18) X rfl dX7_findBest_18 ?_
      refine s_getR (pc := 19) X shX_7 rfl fl_RX7_29 dX7_findBest_19 ?_
      refine s_iload_n (pc := 22) X rfl dX7_findBest_22 ?_
      refine s_callVp (pc := 23) (As := [.int l1]) (st := []) X lk_RX7_40 (c_X1_isWaiting l D cy ad fu _ _) shX_5 rfl rfl rfl rfl ⟨by decide, by decide⟩ (Nat.le_of_ble_eq_true rfl) dX7_findBest_23 (fun r_2 => ?_)
      refine s_if_eq (pc := 26) X 57 rfl dX7_findBest_26 ?_ ?_
      · refine s_iinc (pc := 57) X [some (.ref (ad 7)), some (.int (l1 + 1))] rfl (by decide) rfl ic_1 dX7_findBest_57 ?_
        refine s_goto (pc := 60) X 7 rfl dX7_findBest_60 ?_
        exact ih _ _
      · refine s_aload_n (pc := 29) X rfl dX7_findBest_29 ?_
        refine s_getI (pc := 30) X shX_7 rfl fl_RX7_33 dX7_findBest_30 ?_
        refine s_iconst (pc := 33) X ic_4 dX7_findBest_33 ?_
        refine s_icmp_ge (pc := 34) X 57 rfl dX7_findBest_34 ?_ ?_
        · refine s_iinc (pc := 57) X [some (.ref (ad 7)), some (.int (l1 + 1))] rfl (by decide) rfl ic_1 dX7_findBest_57 ?_
          refine s_goto (pc := 60) X 7 rfl dX7_findBest_60 ?_
          exact ih _ _
        · refine s_aload_n (pc := 37) X rfl dX7_findBest_37 ?_
          refine s_getR (pc := 38) X shX_7 rfl fl_RX7_9 dX7_findBest_38 ?_
          refine s_aload_n (pc := 41) X rfl dX7_findBest_41 ?_
          refine s_getI (pc := 42) X shX_7 rfl fl_RX7_33 dX7_findBest_42 ?_
          refine s_iload_n (pc := 45) X rfl dX7_findBest_45 ?_
          refine s_iast (pc := 46) X shX_30 dX7_findBest_46 ?_
          refine s_letm (fun x_3 => ?_)
          refine s_aload_n (pc := 47) X rfl dX7_findBest_47 ?_
          refine s_dup (pc := 48) X rfl dX7_findBest_48 ?_
          refine s_getI (pc := 49) X shX_7 rfl fl_RX7_33 dX7_findBest_49 ?_
          refine s_iconst (pc := 52) X ic_1 dX7_findBest_52 ?_
          refine s_iadd (pc := 53) X dX7_findBest_53 ?_
          refine s_put (pc := 54) X shX_7 rfl fp_RX7_33 dX7_findBest_54 ?_
          refine s_letm (fun x_4 => ?_)
          refine s_iinc (pc := 57) X [some (.ref (ad 7)), some (.int (l1 + 1))] rfl (by decide) rfl ic_1 dX7_findBest_57 ?_
          refine s_goto (pc := 60) X 7 rfl dX7_findBest_60 ?_
          exact ih _ _

def F_X7_findBest (fu : Nat) (x : Mem) : Res :=
  (letm (wr x 7 6 0) (fun x_1 => (L_X7_findBest_7 fu fu 0 x_1 (fun x_5 => (letm (wr x_5 7 7 1000000) (fun x_6 => (cl (F_X7_tryFrom fu 5 0 0 0 x_6) (fun _ x_7 => (some (0, x_7))))))))))
set_option maxRecDepth 100000 in
set_option maxHeartbeats 4000000 in
theorem c_X7_findBest (l : Launch) (D : va_G) (cy : ClassId) (ad : Nat → Nat) (fu : Nat) (x : Mem) : Ct l D cy ad shX yX7_findBest cX7_findBest 2 none 10 400 [.ref (ad 7)] x (F_X7_findBest fu x) := by
  refine ct_of [some (.ref (ad 7)), none] (by decide) (Nat.le_of_ble_eq_true rfl) rfl rfl ?_
  intro p e s m args below meth c A X
  have X : Cx p s m args meth c RX7 cX7_findBest 2 none D cy ad shX A := X
  unfold F_X7_findBest
  refine s_aload_n (pc := 0) X rfl dX7_findBest_0 ?_
  refine s_iconst (pc := 1) X ic_0 dX7_findBest_1 ?_
  refine s_put (pc := 2) X shX_7 rfl fp_RX7_33 dX7_findBest_2 ?_
  refine s_letm (fun x_1 => ?_)
  refine s_iconst (pc := 5) X ic_0 dX7_findBest_5 ?_
  refine s_istore_n (pc := 6) X [some (.ref (ad 7)), some (.int 0)] rfl (by decide) dX7_findBest_6 ?_
  refine tL_X7_findBest_7 X (fun x_5 => ?_) fu _ _
  refine s_aload_n (pc := 63) X rfl dX7_findBest_63 ?_
  refine s_ldc (pc := 64) X k_RX7_46 dX7_findBest_64 ?_
  refine s_put (pc := 66) X shX_7 rfl fp_RX7_47 dX7_findBest_66 ?_
  refine s_letm (fun x_6 => ?_)
  refine s_aload_n (pc := 69) X rfl dX7_findBest_69 ?_
  refine s_iconst (pc := 70) X ic_0 dX7_findBest_70 ?_
  refine s_iconst (pc := 71) X ic_0 dX7_findBest_71 ?_
  refine s_iconst (pc := 72) X ic_0 dX7_findBest_72 ?_
  refine s_callS0 (pc := 73) (As := [.ref (ad 7), .int 0, .int 0, .int 0]) (st := []) X lk_RX7_50 (c_X7_tryFrom l D cy ad fu 5 _ _ _ _) rfl rfl ⟨by decide, by decide⟩ (Nat.le_of_ble_eq_true rfl) dX7_findBest_73 (fun _ x_7 => ?_)
  exact s_vret (pc := 76) X dX7_findBest_76

-- X7_servantFor
def L_X7_servantFor_2 (fu : Nat) (l1 : Int32) (x : Mem) : Nat → Int32 → (Option Int32) → Option Int32
  | 0, _, _ => none
  | n + 1, l2, K => (if (x 7 6) ≤ l2 then K else (chk l2 4 (if (x 30 (l2 : Int32).toNatClampNeg) = l1 then (chk l2 4 (if (x 31 (l2 : Int32).toNatClampNeg) = 5 then (L_X7_servantFor_2 fu l1 x n (l2 + 1) K) else (chk l2 4 (some (x 31 (l2 : Int32).toNatClampNeg))))) else (L_X7_servantFor_2 fu l1 x n (l2 + 1) K))))
set_option maxRecDepth 100000 in
set_option maxHeartbeats 4000000 in
theorem tL_X7_servantFor_2 {p : Program} {l : Launch} {e : Env} {s : State} {m : MethodId} {args : Array Value} {below : List Frame} {meth : Method} {c : Code} {D : va_G} {cy : ClassId} {ad : Nat → Nat} {A : Nat → Prop} {fu : Nat} (X : Cx p s m args meth c RX7 cX7_servantFor 3 (some .int) D cy ad shX A) {l1 : Int32} {x : Mem} {K : Option Int32} (hK : Sim p l e ({ frames := 1, cells := 0, slots := 0, locals := 40 } : Room) s m args below meth c 3 (some .int) D cy ad shX A 43 [none, none, none] [] x (pr K x)) : ∀ (n : Nat) (l2 : Int32), Sim p l e ({ frames := 1, cells := 0, slots := 0, locals := 40 } : Room) s m args below meth c 3 (some .int) D cy ad shX A 2 [some (.ref (ad 7)), some (.int l1), some (.int l2)] [] x (pr (L_X7_servantFor_2 fu l1 x n l2 K) x) := by
  intro n
  induction n with
  | zero =>
    intro l2
    rw [L_X7_servantFor_2]
    exact p_none
  | succ n ih =>
    intro l2
    rw [L_X7_servantFor_2]
    refine s_iload_n (pc := 2) X rfl dX7_servantFor_2 ?_
    refine s_aload_n (pc := 3) X rfl dX7_servantFor_3 ?_
    refine s_getI (pc := 4) X shX_7 rfl fl_RX7_33 dX7_servantFor_4 ?_
    refine p_icmp_ge (pc := 7) X 43 rfl dX7_servantFor_7 ?_ ?_
    · refine s_mask [false, false, false] ?_
      exact hK
    · refine s_aload_n (pc := 10) X rfl dX7_servantFor_10 ?_
      refine s_getR (pc := 11) X shX_7 rfl fl_RX7_9 dX7_servantFor_11 ?_
      refine s_iload_n (pc := 14) X rfl dX7_servantFor_14 ?_
      refine p_iald (pc := 15) X shX_30 dX7_servantFor_15 ?_
      refine s_iload_n (pc := 16) X rfl dX7_servantFor_16 ?_
      refine p_icmp_ne (pc := 17) X 37 rfl dX7_servantFor_17 ?_ ?_
      · refine s_iinc (pc := 37) X [some (.ref (ad 7)), some (.int l1), some (.int (l2 + 1))] rfl (by decide) rfl ic_1 dX7_servantFor_37 ?_
        refine s_goto (pc := 40) X 2 rfl dX7_servantFor_40 ?_
        exact ih _
      · refine s_aload_n (pc := 20) X rfl dX7_servantFor_20 ?_
        refine s_getR (pc := 21) X shX_7 rfl fl_RX7_15 dX7_servantFor_21 ?_
        refine s_iload_n (pc := 24) X rfl dX7_servantFor_24 ?_
        refine p_iald (pc := 25) X shX_31 dX7_servantFor_25 ?_
        refine s_iconst (pc := 26) X ic_5 dX7_servantFor_26 ?_
        refine p_icmp_eq (pc := 27) X 37 rfl dX7_servantFor_27 ?_ ?_
        · refine s_iinc (pc := 37) X [some (.ref (ad 7)), some (.int l1), some (.int (l2 + 1))] rfl (by decide) rfl ic_1 dX7_servantFor_37 ?_
          refine s_goto (pc := 40) X 2 rfl dX7_servantFor_40 ?_
          exact ih _
        · refine s_aload_n (pc := 30) X rfl dX7_servantFor_30 ?_
          refine s_getR (pc := 31) X shX_7 rfl fl_RX7_15 dX7_servantFor_31 ?_
          refine s_iload_n (pc := 34) X rfl dX7_servantFor_34 ?_
          refine p_iald (pc := 35) X shX_31 dX7_servantFor_35 ?_
          exact p_iret (pc := 36) X dX7_servantFor_36

def F_X7_servantFor (fu : Nat) (l1 : Int32) (x : Mem) : Option Int32 :=
  (L_X7_servantFor_2 fu l1 x fu 0 (some (-4)))
set_option maxRecDepth 100000 in
set_option maxHeartbeats 4000000 in
theorem c_X7_servantFor (l : Launch) (D : va_G) (cy : ClassId) (ad : Nat → Nat) (fu : Nat) (l1 : Int32) (x : Mem) : Ct l D cy ad shX yX7_servantFor cX7_servantFor 3 (some .int) 1 40 [.ref (ad 7), .int l1] x (pr (F_X7_servantFor fu l1 x) x) := by
  refine ct_of [some (.ref (ad 7)), some (.int l1), none] (by decide) (Nat.le_of_ble_eq_true rfl) rfl rfl ?_
  intro p e s m args below meth c A X
  have X : Cx p s m args meth c RX7 cX7_servantFor 3 (some .int) D cy ad shX A := X
  unfold F_X7_servantFor
  refine s_iconst (pc := 0) X ic_0 dX7_servantFor_0 ?_
  refine s_istore_n (pc := 1) X [some (.ref (ad 7)), some (.int l1), some (.int 0)] rfl (by decide) dX7_servantFor_1 ?_
  refine tL_X7_servantFor_2 X ?_ fu _
  refine s_bipush (pc := 43) X bp_m4 dX7_servantFor_43 ?_
  exact p_iret (pc := 45) X dX7_servantFor_45
