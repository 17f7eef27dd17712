def rm_X2_ofMostWorth : Room := { frames := 3, cells := 0, slots := 0, locals := 88 }
def F_X2_ofMostWorth_55 (k_13 : Int32 → Int32 → Int32 → Int32 → Mm → Option (Int32 × Mm)) (t : Nat) (a1 : Int32) (a2 : Int32) (a3 : Int32) (a4 : Int32) (m : Mm) : Option (Int32 × Mm) :=
  nm (a4 + (iI 1)) fun v1 =>
  k_13 a1 a2 a3 v1 m
set_option maxRecDepth 100000 in
set_option maxHeartbeats 4000000 in
theorem t_X2_ofMostWorth_55 {wn : Nat} (hn : NN ≤ wn) {pp : Program} {ll : Launch} {ee : Env} {ss : State} {mm : MethodId} {aa : Array Value} {bb : List Frame} {me : Method} {co : Code} {cx : CX}  {k_13 : Int32 → Int32 → Int32 → Int32 → Mm → Option (Int32 × Mm)}  {t : Nat} (C : CM pp ss mm aa me co cX2_ofMostWorth 6 RX2 cx ((some .int))) (ht : shp t = (9, 2))  (hk_13 : ∀ (a1 : Int32) (a2 : Int32) (a3 : Int32) (a4 : Int32) (m : Mm), TI pp ll ee rm_X2_ofMostWorth ss mm aa bb me co 6 cx wn 13 [(0, .ref (cx.2.2.1 + t)), (1, .int a1), (2, .ref (cx.2.2.1 + 2)), (3, .int a2), (4, .int a3), (5, .int a4)] [] m (k_13 a1 a2 a3 a4 m)) (a1 : Int32) (a2 : Int32) (a3 : Int32) (a4 : Int32) (m : Mm) : TI pp ll ee rm_X2_ofMostWorth ss mm aa bb me co 6 cx wn 55 [(0, .ref (cx.2.2.1 + t)), (1, .int a1), (2, .ref (cx.2.2.1 + 2)), (3, .int a2), (4, .int a3), (5, .int a4)] [] m (F_X2_ofMostWorth_55 k_13 t a1 a2 a3 a4 m) := by
  unfold F_X2_ofMostWorth_55
  refine T_iincN C.1 (fun v1 => [(5, .int v1), (0, .ref (cx.2.2.1 + t)), (1, .int a1), (2, .ref (cx.2.2.1 + 2)), (3, .int a2), (4, .int a3)]) dX2_ofMostWorth_55 5 rfl (by decide) (fun _ => rfl) (fun v1 => ?_)
  refine T_goto (tgt := 13) C.1 dX2_ofMostWorth_58 (by decide) ?_
  exact T_sub [1, 2, 3, 4, 5, 0] rfl (hk_13 a1 a2 a3 v1 m)
def F_X2_ofMostWorth_13 (t : Nat) : Nat → Int32 → Int32 → Int32 → Int32 → Mm → Option (Int32 × Mm)
  | 0, _, _, _, _, _ => none
  | f + 1, a1, a2, a3, a4, m =>
    (if (gI m t 4) ≤ a4 then
      some (a3, m)
    else
      bnd (F_X2_mayRob t a4 m) fun v1 m2 =>
      (if v1 = iI 0 then
        F_X2_ofMostWorth_55 (F_X2_ofMostWorth_13 t f) t a1 a2 a3 a4 m2
      else
        bnd (F_X4_worthFor a1 a4 m2) fun v3 m4 =>
        (if v3 ≤ a2 then
          F_X2_ofMostWorth_55 (F_X2_ofMostWorth_13 t f) t a1 a2 a3 a4 m4
        else
          bnd (F_X4_worthFor a1 a4 m4) fun v5 m6 =>
          F_X2_ofMostWorth_55 (F_X2_ofMostWorth_13 t f) t a1 v5 a4 a4 m6)))
set_option maxRecDepth 100000 in
set_option maxHeartbeats 4000000 in
theorem t_X2_ofMostWorth_13 {wn : Nat} (hn : NN ≤ wn) {pp : Program} {ll : Launch} {ee : Env} {ss : State} {mm : MethodId} {aa : Array Value} {bb : List Frame} {me : Method} {co : Code} {cx : CX}    {t : Nat} (C : CM pp ss mm aa me co cX2_ofMostWorth 6 RX2 cx ((some .int))) (ht : shp t = (9, 2))   : ∀ (f : Nat) (a1 : Int32) (a2 : Int32) (a3 : Int32) (a4 : Int32) (m : Mm), TI pp ll ee rm_X2_ofMostWorth ss mm aa bb me co 6 cx wn 13 [(0, .ref (cx.2.2.1 + t)), (1, .int a1), (2, .ref (cx.2.2.1 + 2)), (3, .int a2), (4, .int a3), (5, .int a4)] [] m (F_X2_ofMostWorth_13 t f a1 a2 a3 a4 m) := by
  intro f
  induction f with
  | zero => exact fun _ _ _ _ _ => T_none
  | succ f ih =>
    intro a1 a2 a3 a4 m
    unfold F_X2_ofMostWorth_13
    refine T_iload C.1 dX2_ofMostWorth_13 5 rfl ?_
    refine T_aload_n C.1 dX2_ofMostWorth_15 0 rfl ?_
    refine T_getI C.1 fd_X2_24 (fun _ _ _ _ => rfl) ht (Nat.le_trans (shp_le ht (by decide)) hn) dX2_ofMostWorth_16 ?_
    refine T_icmp_ge (tgt := 61) C.1 dX2_ofMostWorth_19 (by decide) ?_ ?_
    · refine T_iload C.1 dX2_ofMostWorth_61 4 rfl ?_
      exact T_iret C.1 C.2.1 C.2.2 dX2_ofMostWorth_63
    · refine T_aload_n C.1 dX2_ofMostWorth_22 0 rfl ?_
      refine T_iload C.1 dX2_ofMostWorth_23 5 rfl ?_
      refine T_aload_n C.1 dX2_ofMostWorth_25 2 rfl ?_
      refine T_callVI (rm := rm_X2_mayRob) [.int a4, .ref (cx.2.2.1 + 2)] [] C.1 dX2_ofMostWorth_26 mw_X2_mayRob wm_2_145 wm_2_146 wm_2_147 ⟨Nat.le_of_ble_eq_true rfl, Nat.le_of_ble_eq_true rfl⟩ ⟨rfl, rfl⟩ ⟨Nat.zero_le _, Nat.zero_le _⟩ rfl rfl (Nat.le_of_ble_eq_true rfl) ht (Nat.le_trans (shp_le ht (by decide)) hn) ⟨rfl, rfl⟩ (c_X2_mayRob hn ll cx t a4 m) (fun v1 m2 => ?_)
      refine T_if_eq (tgt := 55) C.1 dX2_ofMostWorth_29 (by decide) ?_ ?_
      · exact T_sub [0, 1, 2, 3, 4, 5] rfl (t_X2_ofMostWorth_55 hn C ht (ih) a1 a2 a3 a4 m2)
      · refine T_aload_n C.1 dX2_ofMostWorth_32 2 rfl ?_
        refine T_iload_n C.1 dX2_ofMostWorth_33 1 rfl ?_
        refine T_iload C.1 dX2_ofMostWorth_34 5 rfl ?_
        refine T_callVI (rm := rm_X4_worthFor) [.int a1, .int a4] [] C.1 dX2_ofMostWorth_36 mw_X4_worthFor wm_2_131 wm_2_132 wm_2_133 ⟨Nat.le_of_ble_eq_true rfl, Nat.le_of_ble_eq_true rfl⟩ ⟨rfl, rfl⟩ ⟨Nat.zero_le _, Nat.zero_le _⟩ rfl rfl (Nat.le_of_ble_eq_true rfl) sh2 (Nat.le_trans le2 hn) ⟨rfl, rfl⟩ (c_X4_worthFor hn ll cx a1 a4 m2) (fun v3 m4 => ?_)
        refine T_iload_n C.1 dX2_ofMostWorth_39 3 rfl ?_
        refine T_icmp_le (tgt := 55) C.1 dX2_ofMostWorth_40 (by decide) ?_ ?_
        · exact T_sub [0, 1, 2, 3, 4, 5] rfl (t_X2_ofMostWorth_55 hn C ht (ih) a1 a2 a3 a4 m4)
        · refine T_aload_n C.1 dX2_ofMostWorth_43 2 rfl ?_
          refine T_iload_n C.1 dX2_ofMostWorth_44 1 rfl ?_
          refine T_iload C.1 dX2_ofMostWorth_45 5 rfl ?_
          refine T_callVI (rm := rm_X4_worthFor) [.int a1, .int a4] [] C.1 dX2_ofMostWorth_47 mw_X4_worthFor wm_2_131 wm_2_132 wm_2_133 ⟨Nat.le_of_ble_eq_true rfl, Nat.le_of_ble_eq_true rfl⟩ ⟨rfl, rfl⟩ ⟨Nat.zero_le _, Nat.zero_le _⟩ rfl rfl (Nat.le_of_ble_eq_true rfl) sh2 (Nat.le_trans le2 hn) ⟨rfl, rfl⟩ (c_X4_worthFor hn ll cx a1 a4 m4) (fun v5 m6 => ?_)
          refine T_istore_n (lv' := [(3, .int v5), (0, .ref (cx.2.2.1 + t)), (1, .int a1), (2, .ref (cx.2.2.1 + 2)), (4, .int a3), (5, .int a4)]) C.1 dX2_ofMostWorth_50 (by decide) rfl ?_
          refine T_iload C.1 dX2_ofMostWorth_51 5 rfl ?_
          refine T_istore (lv' := [(4, .int a4), (3, .int v5), (0, .ref (cx.2.2.1 + t)), (1, .int a1), (2, .ref (cx.2.2.1 + 2)), (5, .int a4)]) C.1 dX2_ofMostWorth_53 (by decide) rfl ?_
          exact T_sub [2, 3, 4, 1, 0, 5] rfl (t_X2_ofMostWorth_55 hn C ht (ih) a1 v5 a4 a4 m6)
def F_X2_ofMostWorth  (t : Nat) (x1 : Int32) (m : Mm) : Option (Int32 × Mm) :=
  (if shp t = (9, 2) then
    bnd (F_X2_guess t x1 m) fun v1 m2 =>
    F_X2_ofMostWorth_13 t FU x1 v1 (iI (-1)) (iI 0) m2
  else none)
set_option maxRecDepth 100000 in
set_option maxHeartbeats 4000000 in
theorem c_X2_ofMostWorth {wn : Nat} (hn : NN ≤ wn) (ll : Launch) (cx : CX) (t : Nat) (x1 : Int32) (m : Mm) : MT ll yX2_ofMostWorth cX2_ofMostWorth 6 ((some .int)) rm_X2_ofMostWorth cx wn wn Lay cvI 0 0 [.ref (cx.2.2.1 + t), .int x1, .ref (cx.2.2.1 + 2)] m (F_X2_ofMostWorth t x1 m) := by
  refine MT_of (by decide) (Nat.le_of_ble_eq_true rfl) ?_
  intro pp ee ss mm aa bb me co hK hr hk hn0
  have C : CM pp ss mm aa me co cX2_ofMostWorth 6 RX2 cx ((some .int)) := ⟨hK, hr, hk⟩
  show TI pp ll ee rm_X2_ofMostWorth ss mm aa bb me co 6 cx wn 0 [(0, .ref (cx.2.2.1 + t)), (1, .int x1), (2, .ref (cx.2.2.1 + 2))] [] m (F_X2_ofMostWorth t x1 m)
  unfold F_X2_ofMostWorth
  refine T_if (fun ht => ?_) (fun _ => T_none)
  refine T_aload_n C.1 dX2_ofMostWorth_0 0 rfl ?_
  refine T_iload_n C.1 dX2_ofMostWorth_1 1 rfl ?_
  refine T_aload_n C.1 dX2_ofMostWorth_2 2 rfl ?_
  refine T_callVI (rm := rm_X2_guess) [.int x1, .ref (cx.2.2.1 + 2)] [] C.1 dX2_ofMostWorth_3 mw_X2_guess wm_2_127 wm_2_129 wm_p_2 ⟨Nat.le_of_ble_eq_true rfl, Nat.le_of_ble_eq_true rfl⟩ ⟨rfl, rfl⟩ ⟨Nat.zero_le _, Nat.zero_le _⟩ rfl rfl (Nat.le_of_ble_eq_true rfl) ht (Nat.le_trans (shp_le ht (by decide)) hn) ⟨rfl, rfl⟩ (c_X2_guess hn ll cx t x1 m) (fun v1 m2 => ?_)
  refine T_istore_n (lv' := [(3, .int v1), (0, .ref (cx.2.2.1 + t)), (1, .int x1), (2, .ref (cx.2.2.1 + 2))]) C.1 dX2_ofMostWorth_6 (by decide) rfl ?_
  refine T_iconst C.1 dX2_ofMostWorth_7 ?_
  refine T_istore (lv' := [(4, .int (iI (-1))), (3, .int v1), (0, .ref (cx.2.2.1 + t)), (1, .int x1), (2, .ref (cx.2.2.1 + 2))]) C.1 dX2_ofMostWorth_8 (by decide) rfl ?_
  refine T_iconst C.1 dX2_ofMostWorth_10 ?_
  refine T_istore (lv' := [(5, .int (iI 0)), (4, .int (iI (-1))), (3, .int v1), (0, .ref (cx.2.2.1 + t)), (1, .int x1), (2, .ref (cx.2.2.1 + 2))]) C.1 dX2_ofMostWorth_11 (by decide) rfl ?_
  exact T_sub [3, 4, 5, 2, 1, 0] rfl (t_X2_ofMostWorth_13 hn C ht FU x1 v1 (iI (-1)) (iI 0) m2)
def rm_X2_playTill : Room := { frames := 4, cells := 0, slots := 0, locals := 119 }
def F_X2_playTill_103 (k_9 : Int32 → Int32 → Int32 → Mm → Option (Int32 × Mm)) (t : Nat) (a1 : Int32) (a2 : Int32) (m : Mm) : Option (Int32 × Mm) :=
  nm (a2 + (iI 1)) fun v1 =>
  bnd (F_X2_whoseTurn t m) fun v2 m3 =>
  k_9 a1 v1 v2 m3
set_option maxRecDepth 100000 in
set_option maxHeartbeats 4000000 in
theorem t_X2_playTill_103 {wn : Nat} (hn : NN ≤ wn) {pp : Program} {ll : Launch} {ee : Env} {ss : State} {mm : MethodId} {aa : Array Value} {bb : List Frame} {me : Method} {co : Code} {cx : CX}  {k_9 : Int32 → Int32 → Int32 → Mm → Option (Int32 × Mm)}  {t : Nat} (C : CM pp ss mm aa me co cX2_playTill 7 RX2 cx ((some .int))) (ht : shp t = (9, 2))  (hk_9 : ∀ (a1 : Int32) (a2 : Int32) (a3 : Int32) (m : Mm), TI pp ll ee rm_X2_playTill ss mm aa bb me co 7 cx wn 9 [(0, .ref (cx.2.2.1 + t)), (1, .int a1), (2, .ref (cx.2.2.1 + 2)), (3, .int a2), (4, .int a3)] [] m (k_9 a1 a2 a3 m)) (a1 : Int32) (a2 : Int32) (m : Mm) : TI pp ll ee rm_X2_playTill ss mm aa bb me co 7 cx wn 103 [(0, .ref (cx.2.2.1 + t)), (1, .int a1), (2, .ref (cx.2.2.1 + 2)), (3, .int a2)] [] m (F_X2_playTill_103 k_9 t a1 a2 m) := by
  unfold F_X2_playTill_103
  refine T_iincN C.1 (fun v1 => [(3, .int v1), (0, .ref (cx.2.2.1 + t)), (1, .int a1), (2, .ref (cx.2.2.1 + 2))]) dX2_playTill_103 3 rfl (by decide) (fun _ => rfl) (fun v1 => ?_)
  refine T_aload_n C.1 dX2_playTill_106 1 rfl ?_
  refine T_aload_n C.1 dX2_playTill_107 3 rfl ?_
  refine T_callVI (rm := rm_X2_whoseTurn) [.ref (cx.2.2.1 + 2)] [] C.1 dX2_playTill_108 mw_X2_whoseTurn wm_2_122 wm_2_99 wm_2_100 ⟨Nat.le_of_ble_eq_true rfl, Nat.le_of_ble_eq_true rfl⟩ ⟨rfl, rfl⟩ ⟨Nat.zero_le _, Nat.zero_le _⟩ rfl rfl (Nat.le_of_ble_eq_true rfl) ht (Nat.le_trans (shp_le ht (by decide)) hn) ⟨rfl, rfl⟩ (c_X2_whoseTurn hn ll cx t m) (fun v2 m3 => ?_)
  refine T_istore (lv' := [(4, .int v2), (3, .int v1), (0, .ref (cx.2.2.1 + t)), (1, .int a1), (2, .ref (cx.2.2.1 + 2))]) C.1 dX2_playTill_111 (by decide) rfl ?_
  refine T_goto (tgt := 9) C.1 dX2_playTill_113 (by decide) ?_
  exact T_sub [2, 3, 4, 1, 0] rfl (hk_9 a1 v1 v2 m3)
def F_X2_playTill_76 (k_9 : Int32 → Int32 → Int32 → Mm → Option (Int32 × Mm)) (t : Nat) (a1 : Int32) (a2 : Int32) (a3 : Int32) (a4 : Int32) (m : Mm) : Option (Int32 × Mm) :=
  (if a4 = (iI (-1)) then
    bnd (F_X2_unwrap t a3 m) fun v3 m4 =>
    F_X2_playTill_103 (k_9) t a1 a2 m4
  else
    bnd (F_X2_rob t a3 a4 m) fun v1 m2 =>
    F_X2_playTill_103 (k_9) t a1 a2 m2)
set_option maxRecDepth 100000 in
set_option maxHeartbeats 4000000 in
theorem t_X2_playTill_76 {wn : Nat} (hn : NN ≤ wn) {pp : Program} {ll : Launch} {ee : Env} {ss : State} {mm : MethodId} {aa : Array Value} {bb : List Frame} {me : Method} {co : Code} {cx : CX}  {k_9 : Int32 → Int32 → Int32 → Mm → Option (Int32 × Mm)}  {t : Nat} (C : CM pp ss mm aa me co cX2_playTill 7 RX2 cx ((some .int))) (ht : shp t = (9, 2))  (hk_9 : ∀ (a1 : Int32) (a2 : Int32) (a3 : Int32) (m : Mm), TI pp ll ee rm_X2_playTill ss mm aa bb me co 7 cx wn 9 [(0, .ref (cx.2.2.1 + t)), (1, .int a1), (2, .ref (cx.2.2.1 + 2)), (3, .int a2), (4, .int a3)] [] m (k_9 a1 a2 a3 m)) (a1 : Int32) (a2 : Int32) (a3 : Int32) (a4 : Int32) (m : Mm) : TI pp ll ee rm_X2_playTill ss mm aa bb me co 7 cx wn 76 [(0, .ref (cx.2.2.1 + t)), (1, .int a1), (2, .ref (cx.2.2.1 + 2)), (3, .int a2), (4, .int a3)] [.int a4] m (F_X2_playTill_76 k_9 t a1 a2 a3 a4 m) := by
  unfold F_X2_playTill_76
  refine T_istore (lv' := [(6, .int a4), (0, .ref (cx.2.2.1 + t)), (1, .int a1), (2, .ref (cx.2.2.1 + 2)), (3, .int a2), (4, .int a3)]) C.1 dX2_playTill_76 (by decide) rfl ?_
  refine T_iload C.1 dX2_playTill_78 0 rfl ?_
  refine T_iconst C.1 dX2_playTill_80 ?_
  refine T_icmp_ne (tgt := 94) C.1 dX2_playTill_81 (by decide) ?_ ?_
  · refine T_aload_n C.1 dX2_playTill_94 1 rfl ?_
    refine T_iload C.1 dX2_playTill_95 5 rfl ?_
    refine T_iload C.1 dX2_playTill_97 0 rfl ?_
    refine T_callVI (rm := rm_X2_rob) [.int a3, .int a4] [] C.1 dX2_playTill_99 mw_X2_rob wm_2_166 wm_2_167 wm_2_168 ⟨Nat.le_of_ble_eq_true rfl, Nat.le_of_ble_eq_true rfl⟩ ⟨rfl, rfl⟩ ⟨Nat.zero_le _, Nat.zero_le _⟩ rfl rfl (Nat.le_of_ble_eq_true rfl) ht (Nat.le_trans (shp_le ht (by decide)) hn) ⟨rfl, rfl⟩ (c_X2_rob hn ll cx t a3 a4 m) (fun v1 m2 => ?_)
    refine T_pop C.1 dX2_playTill_102 rfl ?_
    exact T_sub [1, 2, 3, 4] rfl (t_X2_playTill_103 hn C ht (hk_9) a1 a2 m2)
  · refine T_aload_n C.1 dX2_playTill_84 1 rfl ?_
    refine T_iload C.1 dX2_playTill_85 5 rfl ?_
    refine T_callVI (rm := rm_X2_unwrap) [.int a3] [] C.1 dX2_playTill_87 mw_X2_unwrap wm_2_165 wm_2_107 wm_2_108 ⟨Nat.le_of_ble_eq_true rfl, Nat.le_of_ble_eq_true rfl⟩ ⟨rfl, rfl⟩ ⟨Nat.zero_le _, Nat.zero_le _⟩ rfl rfl (Nat.le_of_ble_eq_true rfl) ht (Nat.le_trans (shp_le ht (by decide)) hn) ⟨rfl, rfl⟩ (c_X2_unwrap hn ll cx t a3 m) (fun v3 m4 => ?_)
    refine T_pop C.1 dX2_playTill_90 rfl ?_
    refine T_goto (tgt := 103) C.1 dX2_playTill_91 (by decide) ?_
    exact T_sub [1, 2, 3, 4] rfl (t_X2_playTill_103 hn C ht (hk_9) a1 a2 m4)
def F_X2_playTill_9 (t : Nat) : Nat → Int32 → Int32 → Int32 → Mm → Option (Int32 × Mm)
  | 0, _, _, _, _ => none
  | f + 1, a1, a2, a3, m =>
    (if (iI 100) ≤ a2 then
      some (a2, m)
    else
      (if a3 < iI 0 then
        some (a2, m)
      else
        (if a1 ≤ (gI m t 4) then
          some (a2, m)
        else
          rd 7 a3 fun j1 =>
          nm (gI m 5 j1) fun v2 =>
          (if v2 = (iI 2) then
            bnd (F_X2_byTheLaw t a3 m) fun v7 m8 =>
            F_X2_playTill_76 (F_X2_playTill_9 t f) t a1 a2 a3 v7 m8
          else
            (if v2 = (iI 1) then
              bnd (F_X2_fromWhomItLikesLeast t a3 m) fun v5 m6 =>
              F_X2_playTill_76 (F_X2_playTill_9 t f) t a1 a2 a3 v5 m6
            else
              bnd (F_X2_ofMostWorth t a3 m) fun v3 m4 =>
              F_X2_playTill_76 (F_X2_playTill_9 t f) t a1 a2 a3 v3 m4)))))
set_option maxRecDepth 100000 in
set_option maxHeartbeats 4000000 in
theorem t_X2_playTill_9 {wn : Nat} (hn : NN ≤ wn) {pp : Program} {ll : Launch} {ee : Env} {ss : State} {mm : MethodId} {aa : Array Value} {bb : List Frame} {me : Method} {co : Code} {cx : CX}    {t : Nat} (C : CM pp ss mm aa me co cX2_playTill 7 RX2 cx ((some .int))) (ht : shp t = (9, 2))   : ∀ (f : Nat) (a1 : Int32) (a2 : Int32) (a3 : Int32) (m : Mm), TI pp ll ee rm_X2_playTill ss mm aa bb me co 7 cx wn 9 [(0, .ref (cx.2.2.1 + t)), (1, .int a1), (2, .ref (cx.2.2.1 + 2)), (3, .int a2), (4, .int a3)] [] m (F_X2_playTill_9 t f a1 a2 a3 m) := by
  intro f
  induction f with
  | zero => exact fun _ _ _ _ => T_none
  | succ f ih =>
    intro a1 a2 a3 m
    unfold F_X2_playTill_9
    refine T_iload_n C.1 dX2_playTill_9 3 rfl ?_
    refine T_bipush C.1 dX2_playTill_10 rfl ?_
    refine T_icmp_ge (tgt := 116) C.1 dX2_playTill_12 (by decide) ?_ ?_
    · refine T_iload_n C.1 dX2_playTill_116 3 rfl ?_
      exact T_iret C.1 C.2.1 C.2.2 dX2_playTill_117
    · refine T_iload C.1 dX2_playTill_15 4 rfl ?_
      refine T_if_lt (tgt := 116) C.1 dX2_playTill_17 (by decide) ?_ ?_
      · refine T_iload_n C.1 dX2_playTill_116 3 rfl ?_
        exact T_iret C.1 C.2.1 C.2.2 dX2_playTill_117
      · refine T_aload_n C.1 dX2_playTill_20 0 rfl ?_
        refine T_getI C.1 fd_X2_24 (fun _ _ _ _ => rfl) ht (Nat.le_trans (shp_le ht (by decide)) hn) dX2_playTill_21 ?_
        refine T_iload_n C.1 dX2_playTill_24 1 rfl ?_
        refine T_icmp_ge (tgt := 116) C.1 dX2_playTill_25 (by decide) ?_ ?_
        · refine T_iload_n C.1 dX2_playTill_116 3 rfl ?_
          exact T_iret C.1 C.2.1 C.2.2 dX2_playTill_117
        · refine T_aload_n C.1 dX2_playTill_28 2 rfl ?_
          refine T_getR (x := 5) C.1 fd_X2_86 (fun _ _ _ _ => rfl) sh2 (Nat.le_trans le2 hn) (fun _ h => h) rfl (by decide) dX2_playTill_29 ?_
          refine T_iload C.1 dX2_playTill_32 4 rfl ?_
          refine T_iald C.1 dX2_playTill_34 sh5 (Nat.le_trans le5 hn) (fun j1 => ?_)
          refine T_istoreN C.1 (fun v2 => [(5, .int v2), (0, .ref (cx.2.2.1 + t)), (1, .int a1), (2, .ref (cx.2.2.1 + 2)), (3, .int a2), (4, .int a3)]) dX2_playTill_35 (by decide) (fun _ => rfl) (fun v2 => ?_)
          refine T_iload C.1 dX2_playTill_37 0 rfl ?_
          refine T_iconst C.1 dX2_playTill_39 ?_
          refine T_icmp_ne (tgt := 53) C.1 dX2_playTill_40 (by decide) ?_ ?_
          · refine T_iload C.1 dX2_playTill_53 0 rfl ?_
            refine T_iconst C.1 dX2_playTill_55 ?_
            refine T_icmp_ne (tgt := 69) C.1 dX2_playTill_56 (by decide) ?_ ?_
            · refine T_aload_n C.1 dX2_playTill_69 1 rfl ?_
              refine T_iload C.1 dX2_playTill_70 5 rfl ?_
              refine T_aload_n C.1 dX2_playTill_72 3 rfl ?_
              refine T_callVI (rm := rm_X2_ofMostWorth) [.int a3, .ref (cx.2.2.1 + 2)] [] C.1 dX2_playTill_73 mw_X2_ofMostWorth wm_2_161 wm_2_163 wm_p_4 ⟨Nat.le_of_ble_eq_true rfl, Nat.le_of_ble_eq_true rfl⟩ ⟨rfl, rfl⟩ ⟨Nat.zero_le _, Nat.zero_le _⟩ rfl rfl (Nat.le_of_ble_eq_true rfl) ht (Nat.le_trans (shp_le ht (by decide)) hn) ⟨rfl, rfl⟩ (c_X2_ofMostWorth hn ll cx t a3 m) (fun v3 m4 => ?_)
              exact T_sub [1, 2, 3, 4, 5] rfl (t_X2_playTill_76 hn C ht (ih) a1 a2 a3 v3 m4)
            · refine T_aload_n C.1 dX2_playTill_59 1 rfl ?_
              refine T_iload C.1 dX2_playTill_60 5 rfl ?_
              refine T_aload_n C.1 dX2_playTill_62 3 rfl ?_
              refine T_callVI (rm := rm_X2_fromWhomItLikesLeast) [.int a3, .ref (cx.2.2.1 + 2)] [] C.1 dX2_playTill_63 mw_X2_fromWhomItLikesLeast wm_2_157 wm_2_159 wm_p_3 ⟨Nat.le_of_ble_eq_true rfl, Nat.le_of_ble_eq_true rfl⟩ ⟨rfl, rfl⟩ ⟨Nat.zero_le _, Nat.zero_le _⟩ rfl rfl (Nat.le_of_ble_eq_true rfl) ht (Nat.le_trans (shp_le ht (by decide)) hn) ⟨rfl, rfl⟩ (c_X2_fromWhomItLikesLeast hn ll cx t a3 m) (fun v5 m6 => ?_)
              refine T_goto (tgt := 76) C.1 dX2_playTill_66 (by decide) ?_
              exact T_sub [1, 2, 3, 4, 5] rfl (t_X2_playTill_76 hn C ht (ih) a1 a2 a3 v5 m6)
          · refine T_aload_n C.1 dX2_playTill_43 1 rfl ?_
            refine T_iload C.1 dX2_playTill_44 5 rfl ?_
            refine T_aload_n C.1 dX2_playTill_46 3 rfl ?_
            refine T_callVI (rm := rm_X2_byTheLaw) [.int a3, .ref (cx.2.2.1 + 2)] [] C.1 dX2_playTill_47 mw_X2_byTheLaw wm_2_123 wm_2_125 wm_p_1 ⟨Nat.le_of_ble_eq_true rfl, Nat.le_of_ble_eq_true rfl⟩ ⟨rfl, rfl⟩ ⟨Nat.zero_le _, Nat.zero_le _⟩ rfl rfl (Nat.le_of_ble_eq_true rfl) ht (Nat.le_trans (shp_le ht (by decide)) hn) ⟨rfl, rfl⟩ (c_X2_byTheLaw hn ll cx t a3 m) (fun v7 m8 => ?_)
            refine T_goto (tgt := 76) C.1 dX2_playTill_50 (by decide) ?_
            exact T_sub [1, 2, 3, 4, 5] rfl (t_X2_playTill_76 hn C ht (ih) a1 a2 a3 v7 m8)
def F_X2_playTill  (t : Nat) (x1 : Int32) (m : Mm) : Option (Int32 × Mm) :=
  (if shp t = (9, 2) then
    bnd (F_X2_whoseTurn t m) fun v1 m2 =>
    F_X2_playTill_9 t FU x1 (iI 0) v1 m2
  else none)
set_option maxRecDepth 100000 in
set_option maxHeartbeats 4000000 in
theorem c_X2_playTill {wn : Nat} (hn : NN ≤ wn) (ll : Launch) (cx : CX) (t : Nat) (x1 : Int32) (m : Mm) : MT ll yX2_playTill cX2_playTill 7 ((some .int)) rm_X2_playTill cx wn wn Lay cvI 0 0 [.ref (cx.2.2.1 + t), .int x1, .ref (cx.2.2.1 + 2)] m (F_X2_playTill t x1 m) := by
  refine MT_of (by decide) (Nat.le_of_ble_eq_true rfl) ?_
  intro pp ee ss mm aa bb me co hK hr hk hn0
  have C : CM pp ss mm aa me co cX2_playTill 7 RX2 cx ((some .int)) := ⟨hK, hr, hk⟩
  show TI pp ll ee rm_X2_playTill ss mm aa bb me co 7 cx wn 0 [(0, .ref (cx.2.2.1 + t)), (1, .int x1), (2, .ref (cx.2.2.1 + 2))] [] m (F_X2_playTill t x1 m)
  unfold F_X2_playTill
  refine T_if (fun ht => ?_) (fun _ => T_none)
  refine T_iconst C.1 dX2_playTill_0 ?_
  refine T_istore_n (lv' := [(3, .int (iI 0)), (0, .ref (cx.2.2.1 + t)), (1, .int x1), (2, .ref (cx.2.2.1 + 2))]) C.1 dX2_playTill_1 (by decide) rfl ?_
  refine T_aload_n C.1 dX2_playTill_2 1 rfl ?_
  refine T_aload_n C.1 dX2_playTill_3 3 rfl ?_
  refine T_callVI (rm := rm_X2_whoseTurn) [.ref (cx.2.2.1 + 2)] [] C.1 dX2_playTill_4 mw_X2_whoseTurn wm_2_122 wm_2_99 wm_2_100 ⟨Nat.le_of_ble_eq_true rfl, Nat.le_of_ble_eq_true rfl⟩ ⟨rfl, rfl⟩ ⟨Nat.zero_le _, Nat.zero_le _⟩ rfl rfl (Nat.le_of_ble_eq_true rfl) ht (Nat.le_trans (shp_le ht (by decide)) hn) ⟨rfl, rfl⟩ (c_X2_whoseTurn hn ll cx t m) (fun v1 m2 => ?_)
  refine T_istore (lv' := [(4, .int v1), (3, .int (iI 0)), (0, .ref (cx.2.2.1 + t)), (1, .int x1), (2, .ref (cx.2.2.1 + 2))]) C.1 dX2_playTill_7 (by decide) rfl ?_
  exact T_sub [2, 3, 4, 1, 0] rfl (t_X2_playTill_9 hn C ht FU x1 (iI 0) v1 m2)
def rm_X2_exchange : Room := { frames := 2, cells := 0, slots := 0, locals := 62 }
def F_X2_exchange  (t : Nat) (x1 : Int32) (x2 : Int32) (x3 : Int32) (m : Mm) : Option (Unit × Mm) :=
  (if shp t = (9, 2) then
    rd 7 x3 fun j1 =>
    nm (gI m (t + 3) j1) fun v2 =>
    (if v2 < iI 0 then
      some ((), m)
    else
      wrI 7 m (t + 2) v2 x2 fun m3 =>
      wrI 7 m3 (t + 3) x2 v2 fun m4 =>
      rd 7 x3 fun j5 =>
      wrI 7 m4 (t + 4) x3 ((gI m4 (t + 4) j5) + (iI 1)) fun m6 =>
      bnd (F_X2_give t x1 x3 m6) fun _ m8 =>
      some ((), m8))
  else none)
set_option maxRecDepth 100000 in
set_option maxHeartbeats 4000000 in
theorem c_X2_exchange {wn : Nat} (hn : NN ≤ wn) (ll : Launch) (cx : CX) (t : Nat) (x1 : Int32) (x2 : Int32) (x3 : Int32) (m : Mm) : MT ll yX2_exchange cX2_exchange 5 (none) rm_X2_exchange cx wn wn Lay cvV 0 0 [.ref (cx.2.2.1 + t), .int x1, .int x2, .int x3] m (F_X2_exchange t x1 x2 x3 m) := by
  refine MT_of (by decide) (Nat.le_of_ble_eq_true rfl) ?_
  intro pp ee ss mm aa bb me co hK hr hk hn0
  have C : CM pp ss mm aa me co cX2_exchange 5 RX2 cx (none) := ⟨hK, hr, hk⟩
  show TV pp ll ee rm_X2_exchange ss mm aa bb me co 5 cx wn 0 [(0, .ref (cx.2.2.1 + t)), (1, .int x1), (2, .int x2), (3, .int x3)] [] m (F_X2_exchange t x1 x2 x3 m)
  unfold F_X2_exchange
  refine T_if (fun ht => ?_) (fun _ => T_none)
  refine T_aload_n C.1 dX2_exchange_0 0 rfl ?_
  refine T_getR (x := (t + 3)) C.1 fd_X2_18 (fun _ _ _ _ => rfl) ht (Nat.le_trans (shp_le ht (by decide)) hn) (fun _ h => h) rfl (Nat.succ_ne_zero _) dX2_exchange_1 ?_
  refine T_iload_n C.1 dX2_exchange_4 3 rfl ?_
  refine T_iald C.1 dX2_exchange_5 (shr_2_3 ht) (Nat.le_trans (shp_le (shr_2_3 ht) (by decide)) hn) (fun j1 => ?_)
  refine T_istoreN C.1 (fun v2 => [(4, .int v2), (0, .ref (cx.2.2.1 + t)), (1, .int x1), (2, .int x2), (3, .int x3)]) dX2_exchange_6 (by decide) (fun _ => rfl) (fun v2 => ?_)
  refine T_iload C.1 dX2_exchange_8 0 rfl ?_
  refine T_if_lt (tgt := 45) C.1 dX2_exchange_10 (by decide) ?_ ?_
  · exact T_vret C.1 C.2.1 C.2.2 dX2_exchange_45
  · refine T_aload_n C.1 dX2_exchange_13 1 rfl ?_
    refine T_getR (x := (t + 2)) C.1 fd_X2_15 (fun _ _ _ _ => rfl) ht (Nat.le_trans (shp_le ht (by decide)) hn) (fun _ h => h) rfl (Nat.succ_ne_zero _) dX2_exchange_14 ?_
    refine T_iload C.1 dX2_exchange_17 0 rfl ?_
    refine T_iload_n C.1 dX2_exchange_19 3 rfl ?_
    refine T_iast C.1 LyI_Lay (shr_2_2 ht) (Nat.le_trans (shp_le (shr_2_2 ht) (by decide)) hn) dX2_exchange_20 (fun m3 => ?_)
    refine T_aload_n C.1 dX2_exchange_21 1 rfl ?_
    refine T_getR (x := (t + 3)) C.1 fd_X2_18 (fun _ _ _ _ => rfl) ht (Nat.le_trans (shp_le ht (by decide)) hn) (fun _ h => h) rfl (Nat.succ_ne_zero _) dX2_exchange_22 ?_
    refine T_iload_n C.1 dX2_exchange_25 3 rfl ?_
    refine T_iload C.1 dX2_exchange_26 0 rfl ?_
    refine T_iast C.1 LyI_Lay (shr_2_3 ht) (Nat.le_trans (shp_le (shr_2_3 ht) (by decide)) hn) dX2_exchange_28 (fun m4 => ?_)
    refine T_aload_n C.1 dX2_exchange_29 1 rfl ?_
    refine T_getR (x := (t + 4)) C.1 fd_X2_21 (fun _ _ _ _ => rfl) ht (Nat.le_trans (shp_le ht (by decide)) hn) (fun _ h => h) rfl (Nat.succ_ne_zero _) dX2_exchange_30 ?_
    refine T_iload_n C.1 dX2_exchange_33 4 rfl ?_
    refine T_dup2 C.1 dX2_exchange_34 rfl rfl ?_
    refine T_iald C.1 dX2_exchange_35 (shr_2_4 ht) (Nat.le_trans (shp_le (shr_2_4 ht) (by decide)) hn) (fun j5 => ?_)
    refine T_iconst C.1 dX2_exchange_36 ?_
    refine T_iadd C.1 dX2_exchange_37 ?_
    refine T_iast C.1 LyI_Lay (shr_2_4 ht) (Nat.le_trans (shp_le (shr_2_4 ht) (by decide)) hn) dX2_exchange_38 (fun m6 => ?_)
    refine T_aload_n C.1 dX2_exchange_39 1 rfl ?_
    refine T_iload_n C.1 dX2_exchange_40 2 rfl ?_
    refine T_iload_n C.1 dX2_exchange_41 4 rfl ?_
    refine T_callVV (rm := rm_X2_give) [.int x1, .int x3] [] C.1 dX2_exchange_42 mw_X2_give wm_2_110 wm_2_112 wm_p_0 ⟨Nat.le_of_ble_eq_true rfl, Nat.le_of_ble_eq_true rfl⟩ ⟨rfl, rfl⟩ ⟨Nat.zero_le _, Nat.zero_le _⟩ rfl rfl (Nat.le_of_ble_eq_true rfl) ht (Nat.le_trans (shp_le ht (by decide)) hn) ⟨rfl, rfl⟩ (c_X2_give hn ll cx t x1 x3 m6) (fun u7 m8 => ?_)
    exact T_vret C.1 C.2.1 C.2.2 dX2_exchange_45
def rm_X2_chooseOnceMore : Room := { frames := 3, cells := 0, slots := 0, locals := 86 }
def F_X2_chooseOnceMore_77 (k_33 : Int32 → Int32 → Int32 → Int32 → Int32 → Mm → Option (Unit × Mm)) (t : Nat) (a1 : Int32) (a2 : Int32) (a3 : Int32) (a4 : Int32) (a5 : Int32) (m : Mm) : Option (Unit × Mm) :=
  nm (a5 + (iI 1)) fun v1 =>
  k_33 a1 a2 a3 a4 v1 m
set_option maxRecDepth 100000 in
set_option maxHeartbeats 4000000 in
theorem t_X2_chooseOnceMore_77 {wn : Nat} (hn : NN ≤ wn) {pp : Program} {ll : Launch} {ee : Env} {ss : State} {mm : MethodId} {aa : Array Value} {bb : List Frame} {me : Method} {co : Code} {cx : CX}  {k_33 : Int32 → Int32 → Int32 → Int32 → Int32 → Mm → Option (Unit × Mm)}  {t : Nat} (C : CM pp ss mm aa me co cX2_chooseOnceMore 7 RX2 cx (none)) (ht : shp t = (9, 2))  (hk_33 : ∀ (a1 : Int32) (a2 : Int32) (a3 : Int32) (a4 : Int32) (a5 : Int32) (m : Mm), TV pp ll ee rm_X2_chooseOnceMore ss mm aa bb me co 7 cx wn 33 [(0, .ref (cx.2.2.1 + t)), (1, .ref (cx.2.2.1 + 2)), (2, .int a1), (3, .int a2), (4, .int a3), (5, .int a4), (6, .int a5)] [] m (k_33 a1 a2 a3 a4 a5 m)) (a1 : Int32) (a2 : Int32) (a3 : Int32) (a4 : Int32) (a5 : Int32) (m : Mm) : TV pp ll ee rm_X2_chooseOnceMore ss mm aa bb me co 7 cx wn 77 [(0, .ref (cx.2.2.1 + t)), (1, .ref (cx.2.2.1 + 2)), (2, .int a1), (3, .int a2), (4, .int a3), (5, .int a4), (6, .int a5)] [] m (F_X2_chooseOnceMore_77 k_33 t a1 a2 a3 a4 a5 m) := by
  unfold F_X2_chooseOnceMore_77
  refine T_iincN C.1 (fun v1 => [(6, .int v1), (0, .ref (cx.2.2.1 + t)), (1, .ref (cx.2.2.1 + 2)), (2, .int a1), (3, .int a2), (4, .int a3), (5, .int a4)]) dX2_chooseOnceMore_77 6 rfl (by decide) (fun _ => rfl) (fun v1 => ?_)
  refine T_goto (tgt := 33) C.1 dX2_chooseOnceMore_80 (by decide) ?_
  exact T_sub [1, 2, 3, 4, 5, 6, 0] rfl (hk_33 a1 a2 a3 a4 v1 m)
def F_X2_chooseOnceMore_33 (t : Nat) : Nat → Int32 → Int32 → Int32 → Int32 → Int32 → Mm → Option (Unit × Mm)
  | 0, _, _, _, _, _, _ => none
  | f + 1, a1, a2, a3, a4, a5, m =>
    (if (gI m t 4) ≤ a5 then
      (if a4 = (iI (-1)) then
        some ((), m)
      else
        (if a2 < iI 0 then
          some ((), m)
        else
          bnd (F_X2_exchange t a1 a2 a4 m) fun _ m2 =>
          some ((), m2)))
    else
      bnd (F_X2_isSafe t a5 m) fun v3 m4 =>
      (if v3 = iI 0 then
        bnd (F_X4_worthFor a1 a5 m4) fun v5 m6 =>
        (if v5 ≤ a3 then
          F_X2_chooseOnceMore_77 (F_X2_chooseOnceMore_33 t f) t a1 a2 a3 a4 a5 m6
        else
          bnd (F_X4_worthFor a1 a5 m6) fun v7 m8 =>
          F_X2_chooseOnceMore_77 (F_X2_chooseOnceMore_33 t f) t a1 a2 v7 a5 a5 m8)
      else
        F_X2_chooseOnceMore_77 (F_X2_chooseOnceMore_33 t f) t a1 a2 a3 a4 a5 m4))
set_option maxRecDepth 100000 in
set_option maxHeartbeats 4000000 in
theorem t_X2_chooseOnceMore_33 {wn : Nat} (hn : NN ≤ wn) {pp : Program} {ll : Launch} {ee : Env} {ss : State} {mm : MethodId} {aa : Array Value} {bb : List Frame} {me : Method} {co : Code} {cx : CX}    {t : Nat} (C : CM pp ss mm aa me co cX2_chooseOnceMore 7 RX2 cx (none)) (ht : shp t = (9, 2))   : ∀ (f : Nat) (a1 : Int32) (a2 : Int32) (a3 : Int32) (a4 : Int32) (a5 : Int32) (m : Mm), TV pp ll ee rm_X2_chooseOnceMore ss mm aa bb me co 7 cx wn 33 [(0, .ref (cx.2.2.1 + t)), (1, .ref (cx.2.2.1 + 2)), (2, .int a1), (3, .int a2), (4, .int a3), (5, .int a4), (6, .int a5)] [] m (F_X2_chooseOnceMore_33 t f a1 a2 a3 a4 a5 m) := by
  intro f
  induction f with
  | zero => exact fun _ _ _ _ _ _ => T_none
  | succ f ih =>
    intro a1 a2 a3 a4 a5 m
    unfold F_X2_chooseOnceMore_33
    refine T_iload C.1 dX2_chooseOnceMore_33 6 rfl ?_
    refine T_aload_n C.1 dX2_chooseOnceMore_35 0 rfl ?_
    refine T_getI C.1 fd_X2_24 (fun _ _ _ _ => rfl) ht (Nat.le_trans (shp_le ht (by decide)) hn) dX2_chooseOnceMore_36 ?_
    refine T_icmp_ge (tgt := 83) C.1 dX2_chooseOnceMore_39 (by decide) ?_ ?_
    · refine T_iload C.1 dX2_chooseOnceMore_83 5 rfl ?_
      refine T_iconst C.1 dX2_chooseOnceMore_85 ?_
      refine T_icmp_eq (tgt := 101) C.1 dX2_chooseOnceMore_86 (by decide) ?_ ?_
      · exact T_vret C.1 C.2.1 C.2.2 dX2_chooseOnceMore_101
      · refine T_iload_n C.1 dX2_chooseOnceMore_89 3 rfl ?_
        refine T_if_lt (tgt := 101) C.1 dX2_chooseOnceMore_90 (by decide) ?_ ?_
        · exact T_vret C.1 C.2.1 C.2.2 dX2_chooseOnceMore_101
        · refine T_aload_n C.1 dX2_chooseOnceMore_93 0 rfl ?_
          refine T_iload_n C.1 dX2_chooseOnceMore_94 2 rfl ?_
          refine T_iload_n C.1 dX2_chooseOnceMore_95 3 rfl ?_
          refine T_iload C.1 dX2_chooseOnceMore_96 5 rfl ?_
          refine T_callVV (rm := rm_X2_exchange) [.int a1, .int a2, .int a4] [] C.1 dX2_chooseOnceMore_98 mw_X2_exchange wm_2_186 wm_2_188 wm_p_5 ⟨Nat.le_of_ble_eq_true rfl, Nat.le_of_ble_eq_true rfl⟩ ⟨rfl, rfl⟩ ⟨Nat.zero_le _, Nat.zero_le _⟩ rfl rfl (Nat.le_of_ble_eq_true rfl) ht (Nat.le_trans (shp_le ht (by decide)) hn) ⟨rfl, rfl⟩ (c_X2_exchange hn ll cx t a1 a2 a4 m) (fun u1 m2 => ?_)
          exact T_vret C.1 C.2.1 C.2.2 dX2_chooseOnceMore_101
    · refine T_aload_n C.1 dX2_chooseOnceMore_42 0 rfl ?_
      refine T_iload C.1 dX2_chooseOnceMore_43 6 rfl ?_
      refine T_aload_n C.1 dX2_chooseOnceMore_45 1 rfl ?_
      refine T_callVI (rm := rm_X2_isSafe) [.int a5, .ref (cx.2.2.1 + 2)] [] C.1 dX2_chooseOnceMore_46 mw_X2_isSafe wm_2_149 wm_2_150 wm_2_151 ⟨Nat.le_of_ble_eq_true rfl, Nat.le_of_ble_eq_true rfl⟩ ⟨rfl, rfl⟩ ⟨Nat.zero_le _, Nat.zero_le _⟩ rfl rfl (Nat.le_of_ble_eq_true rfl) ht (Nat.le_trans (shp_le ht (by decide)) hn) ⟨rfl, rfl⟩ (c_X2_isSafe hn ll cx t a5 m) (fun v3 m4 => ?_)
      refine T_if_ne (tgt := 77) C.1 dX2_chooseOnceMore_49 (by decide) ?_ ?_
      · exact T_sub [0, 1, 2, 3, 4, 5, 6] rfl (t_X2_chooseOnceMore_77 hn C ht (ih) a1 a2 a3 a4 a5 m4)
      · refine T_aload_n C.1 dX2_chooseOnceMore_52 1 rfl ?_
        refine T_iload_n C.1 dX2_chooseOnceMore_53 2 rfl ?_
        refine T_iload C.1 dX2_chooseOnceMore_54 6 rfl ?_
        refine T_callVI (rm := rm_X4_worthFor) [.int a1, .int a5] [] C.1 dX2_chooseOnceMore_56 mw_X4_worthFor wm_2_131 wm_2_132 wm_2_133 ⟨Nat.le_of_ble_eq_true rfl, Nat.le_of_ble_eq_true rfl⟩ ⟨rfl, rfl⟩ ⟨Nat.zero_le _, Nat.zero_le _⟩ rfl rfl (Nat.le_of_ble_eq_true rfl) sh2 (Nat.le_trans le2 hn) ⟨rfl, rfl⟩ (c_X4_worthFor hn ll cx a1 a5 m4) (fun v5 m6 => ?_)
        refine T_iload C.1 dX2_chooseOnceMore_59 4 rfl ?_
        refine T_icmp_le (tgt := 77) C.1 dX2_chooseOnceMore_61 (by decide) ?_ ?_
        · exact T_sub [0, 1, 2, 3, 4, 5, 6] rfl (t_X2_chooseOnceMore_77 hn C ht (ih) a1 a2 a3 a4 a5 m6)
        · refine T_aload_n C.1 dX2_chooseOnceMore_64 1 rfl ?_
          refine T_iload_n C.1 dX2_chooseOnceMore_65 2 rfl ?_
          refine T_iload C.1 dX2_chooseOnceMore_66 6 rfl ?_
          refine T_callVI (rm := rm_X4_worthFor) [.int a1, .int a5] [] C.1 dX2_chooseOnceMore_68 mw_X4_worthFor wm_2_131 wm_2_132 wm_2_133 ⟨Nat.le_of_ble_eq_true rfl, Nat.le_of_ble_eq_true rfl⟩ ⟨rfl, rfl⟩ ⟨Nat.zero_le _, Nat.zero_le _⟩ rfl rfl (Nat.le_of_ble_eq_true rfl) sh2 (Nat.le_trans le2 hn) ⟨rfl, rfl⟩ (c_X4_worthFor hn ll cx a1 a5 m6) (fun v7 m8 => ?_)
          refine T_istore (lv' := [(4, .int v7), (0, .ref (cx.2.2.1 + t)), (1, .ref (cx.2.2.1 + 2)), (2, .int a1), (3, .int a2), (5, .int a4), (6, .int a5)]) C.1 dX2_chooseOnceMore_71 (by decide) rfl ?_
          refine T_iload C.1 dX2_chooseOnceMore_73 6 rfl ?_
          refine T_istore (lv' := [(5, .int a5), (4, .int v7), (0, .ref (cx.2.2.1 + t)), (1, .ref (cx.2.2.1 + 2)), (2, .int a1), (3, .int a2), (6, .int a5)]) C.1 dX2_chooseOnceMore_75 (by decide) rfl ?_
          exact T_sub [2, 3, 4, 5, 1, 0, 6] rfl (t_X2_chooseOnceMore_77 hn C ht (ih) a1 a2 v7 a5 a5 m8)
def F_X2_chooseOnceMore  (t : Nat) (m : Mm) : Option (Unit × Mm) :=
  (if shp t = (9, 2) then
    zb (iI 1) (nm (pI m t 7 (iI 1)) fun m1 =>
    rd 7 (iI 0) fun j2 =>
    nm (gI m1 (t + 1) j2) fun v3 =>
    rd 7 v3 fun j4 =>
    nm (gI m1 (t + 2) j4) fun v5 =>
    bnd (F_X4_worthFor v3 v5 m1) fun v6 m7 =>
    F_X2_chooseOnceMore_33 t FU v3 v5 v6 (iI (-1)) (iI 0) m7)
  else none)
set_option maxRecDepth 100000 in
set_option maxHeartbeats 4000000 in
theorem c_X2_chooseOnceMore {wn : Nat} (hn : NN ≤ wn) (ll : Launch) (cx : CX) (t : Nat) (m : Mm) : MT ll yX2_chooseOnceMore cX2_chooseOnceMore 7 (none) rm_X2_chooseOnceMore cx wn wn Lay cvV 0 0 [.ref (cx.2.2.1 + t), .ref (cx.2.2.1 + 2)] m (F_X2_chooseOnceMore t m) := by
  refine MT_of (by decide) (Nat.le_of_ble_eq_true rfl) ?_
  intro pp ee ss mm aa bb me co hK hr hk hn0
  have C : CM pp ss mm aa me co cX2_chooseOnceMore 7 RX2 cx (none) := ⟨hK, hr, hk⟩
  show TV pp ll ee rm_X2_chooseOnceMore ss mm aa bb me co 7 cx wn 0 [(0, .ref (cx.2.2.1 + t)), (1, .ref (cx.2.2.1 + 2))] [] m (F_X2_chooseOnceMore t m)
  unfold F_X2_chooseOnceMore
  refine T_if (fun ht => ?_) (fun _ => T_none)
  refine T_aload_n C.1 dX2_chooseOnceMore_0 0 rfl ?_
  refine T_iconst C.1 dX2_chooseOnceMore_1 ?_
  refine T_putZ C.1 LyI_Lay fd_X2_34 ht (Nat.le_trans (shp_le ht (by decide)) hn) dX2_chooseOnceMore_2 (fun m1 => ?_)
  refine T_aload_n C.1 dX2_chooseOnceMore_5 0 rfl ?_
  refine T_getR (x := (t + 1)) C.1 fd_X2_9 (fun _ _ _ _ => rfl) ht (Nat.le_trans (shp_le ht (by decide)) hn) (fun _ h => h) rfl (Nat.succ_ne_zero _) dX2_chooseOnceMore_6 ?_
  refine T_iconst C.1 dX2_chooseOnceMore_9 ?_
  refine T_iald C.1 dX2_chooseOnceMore_10 (shr_2_1 ht) (Nat.le_trans (shp_le (shr_2_1 ht) (by decide)) hn) (fun j2 => ?_)
  refine T_istore_nN C.1 (fun v3 => [(2, .int v3), (0, .ref (cx.2.2.1 + t)), (1, .ref (cx.2.2.1 + 2))]) dX2_chooseOnceMore_11 (by decide) (fun _ => rfl) (fun v3 => ?_)
  refine T_aload_n C.1 dX2_chooseOnceMore_12 1 rfl ?_
  refine T_getR (x := (t + 2)) C.1 fd_X2_15 (fun _ _ _ _ => rfl) ht (Nat.le_trans (shp_le ht (by decide)) hn) (fun _ h => h) rfl (Nat.succ_ne_zero _) dX2_chooseOnceMore_13 ?_
  refine T_iload_n C.1 dX2_chooseOnceMore_16 0 rfl ?_
  refine T_iald C.1 dX2_chooseOnceMore_17 (shr_2_2 ht) (Nat.le_trans (shp_le (shr_2_2 ht) (by decide)) hn) (fun j4 => ?_)
  refine T_istore_nN C.1 (fun v5 => [(3, .int v5), (2, .int v3), (0, .ref (cx.2.2.1 + t)), (1, .ref (cx.2.2.1 + 2))]) dX2_chooseOnceMore_18 (by decide) (fun _ => rfl) (fun v5 => ?_)
  refine T_aload_n C.1 dX2_chooseOnceMore_19 3 rfl ?_
  refine T_iload_n C.1 dX2_chooseOnceMore_20 1 rfl ?_
  refine T_iload_n C.1 dX2_chooseOnceMore_21 0 rfl ?_
  refine T_callVI (rm := rm_X4_worthFor) [.int v3, .int v5] [] C.1 dX2_chooseOnceMore_22 mw_X4_worthFor wm_2_131 wm_2_132 wm_2_133 ⟨Nat.le_of_ble_eq_true rfl, Nat.le_of_ble_eq_true rfl⟩ ⟨rfl, rfl⟩ ⟨Nat.zero_le _, Nat.zero_le _⟩ rfl rfl (Nat.le_of_ble_eq_true rfl) sh2 (Nat.le_trans le2 hn) ⟨rfl, rfl⟩ (c_X4_worthFor hn ll cx v3 v5 m1) (fun v6 m7 => ?_)
  refine T_istore (lv' := [(4, .int v6), (3, .int v5), (2, .int v3), (0, .ref (cx.2.2.1 + t)), (1, .ref (cx.2.2.1 + 2))]) C.1 dX2_chooseOnceMore_25 (by decide) rfl ?_
  refine T_iconst C.1 dX2_chooseOnceMore_27 ?_
  refine T_istore (lv' := [(5, .int (iI (-1))), (4, .int v6), (3, .int v5), (2, .int v3), (0, .ref (cx.2.2.1 + t)), (1, .ref (cx.2.2.1 + 2))]) C.1 dX2_chooseOnceMore_28 (by decide) rfl ?_
  refine T_iconst C.1 dX2_chooseOnceMore_30 ?_
  refine T_istore (lv' := [(6, .int (iI 0)), (5, .int (iI (-1))), (4, .int v6), (3, .int v5), (2, .int v3), (0, .ref (cx.2.2.1 + t)), (1, .ref (cx.2.2.1 + 2))]) C.1 dX2_chooseOnceMore_31 (by decide) rfl ?_
  exact T_sub [5, 6, 4, 3, 2, 1, 0] rfl (t_X2_chooseOnceMore_33 hn C ht FU v3 v5 v6 (iI (-1)) (iI 0) m7)
def rm_X2_closeByLaw : Room := { frames := 4, cells := 0, slots := 0, locals := 112 }
def F_X2_closeByLaw  (t : Nat) (m : Mm) : Option (Unit × Mm) :=
  (if shp t = (9, 2) then
    (if (gI m 2 5) = (iI 1) then
      bnd (F_X2_hasEnded t m) fun v1 m2 =>
      (if v1 = iI 0 then
        some ((), m2)
      else
        bnd (F_X2_chooseOnceMore t m2) fun _ m4 =>
        some ((), m4))
    else
      some ((), m))
  else none)
set_option maxRecDepth 100000 in
set_option maxHeartbeats 4000000 in
theorem c_X2_closeByLaw {wn : Nat} (hn : NN ≤ wn) (ll : Launch) (cx : CX) (t : Nat) (m : Mm) : MT ll yX2_closeByLaw cX2_closeByLaw 2 (none) rm_X2_closeByLaw cx wn wn Lay cvV 0 0 [.ref (cx.2.2.1 + t), .ref (cx.2.2.1 + 2)] m (F_X2_closeByLaw t m) := by
  refine MT_of (by decide) (Nat.le_of_ble_eq_true rfl) ?_
  intro pp ee ss mm aa bb me co hK hr hk hn0
  have C : CM pp ss mm aa me co cX2_closeByLaw 2 RX2 cx (none) := ⟨hK, hr, hk⟩
  show TV pp ll ee rm_X2_closeByLaw ss mm aa bb me co 2 cx wn 0 [(0, .ref (cx.2.2.1 + t)), (1, .ref (cx.2.2.1 + 2))] [] m (F_X2_closeByLaw t m)
  unfold F_X2_closeByLaw
  refine T_if (fun ht => ?_) (fun _ => T_none)
  refine T_aload_n C.1 dX2_closeByLaw_0 1 rfl ?_
  refine T_getI C.1 fd_X2_129 (fun _ _ _ _ => rfl) sh2 (Nat.le_trans le2 hn) dX2_closeByLaw_1 ?_
  refine T_iconst C.1 dX2_closeByLaw_4 ?_
  refine T_icmp_ne (tgt := 21) C.1 dX2_closeByLaw_5 (by decide) ?_ ?_
  · exact T_vret C.1 C.2.1 C.2.2 dX2_closeByLaw_21
  · refine T_aload_n C.1 dX2_closeByLaw_8 0 rfl ?_
    refine T_aload_n C.1 dX2_closeByLaw_9 1 rfl ?_
    refine T_callVI (rm := rm_X2_hasEnded) [.ref (cx.2.2.1 + 2)] [] C.1 dX2_closeByLaw_10 mw_X2_hasEnded wm_2_223 wm_2_175 wm_2_176 ⟨Nat.le_of_ble_eq_true rfl, Nat.le_of_ble_eq_true rfl⟩ ⟨rfl, rfl⟩ ⟨Nat.zero_le _, Nat.zero_le _⟩ rfl rfl (Nat.le_of_ble_eq_true rfl) ht (Nat.le_trans (shp_le ht (by decide)) hn) ⟨rfl, rfl⟩ (c_X2_hasEnded hn ll cx t m) (fun v1 m2 => ?_)
    refine T_if_eq (tgt := 21) C.1 dX2_closeByLaw_13 (by decide) ?_ ?_
    · exact T_vret C.1 C.2.1 C.2.2 dX2_closeByLaw_21
    · refine T_aload_n C.1 dX2_closeByLaw_16 0 rfl ?_
      refine T_aload_n C.1 dX2_closeByLaw_17 1 rfl ?_
      refine T_callVV (rm := rm_X2_chooseOnceMore) [.ref (cx.2.2.1 + 2)] [] C.1 dX2_closeByLaw_18 mw_X2_chooseOnceMore wm_2_224 wm_2_183 wm_2_184 ⟨Nat.le_of_ble_eq_true rfl, Nat.le_of_ble_eq_true rfl⟩ ⟨rfl, rfl⟩ ⟨Nat.zero_le _, Nat.zero_le _⟩ rfl rfl (Nat.le_of_ble_eq_true rfl) ht (Nat.le_trans (shp_le ht (by decide)) hn) ⟨rfl, rfl⟩ (c_X2_chooseOnceMore hn ll cx t m2) (fun u3 m4 => ?_)
      exact T_vret C.1 C.2.1 C.2.2 dX2_closeByLaw_21
def rm_X2_worths : Room := { frames := 2, cells := 0, slots := 0, locals := 63 }
def F_X2_worths_4 (t : Nat) : Nat → Int32 → Int32 → Mm → Option (Int32 × Mm)
  | 0, _, _, _ => none
  | f + 1, a1, a2, m =>
    (if (gI m 2 0) ≤ a2 then
      some (a1, m)
    else
      rd 7 a2 fun j1 =>
      bnd (F_X4_worthFor a2 (gI m (t + 2) j1) m) fun v2 m3 =>
      nm (a1 + v2) fun v4 =>
      nm (a2 + (iI 1)) fun v5 =>
      F_X2_worths_4 t f v4 v5 m3)
set_option maxRecDepth 100000 in
set_option maxHeartbeats 4000000 in
theorem t_X2_worths_4 {wn : Nat} (hn : NN ≤ wn) {pp : Program} {ll : Launch} {ee : Env} {ss : State} {mm : MethodId} {aa : Array Value} {bb : List Frame} {me : Method} {co : Code} {cx : CX}    {t : Nat} (C : CM pp ss mm aa me co cX2_worths 4 RX2 cx ((some .int))) (ht : shp t = (9, 2))   : ∀ (f : Nat) (a1 : Int32) (a2 : Int32) (m : Mm), TI pp ll ee rm_X2_worths ss mm aa bb me co 4 cx wn 4 [(0, .ref (cx.2.2.1 + t)), (1, .ref (cx.2.2.1 + 2)), (2, .int a1), (3, .int a2)] [] m (F_X2_worths_4 t f a1 a2 m) := by
  intro f
  induction f with
  | zero => exact fun _ _ _ => T_none
  | succ f ih =>
    intro a1 a2 m
    unfold F_X2_worths_4
    refine T_iload_n C.1 dX2_worths_4 3 rfl ?_
    refine T_aload_n C.1 dX2_worths_5 1 rfl ?_
    refine T_getI C.1 fd_X2_57 (fun _ _ _ _ => rfl) sh2 (Nat.le_trans le2 hn) dX2_worths_6 ?_
    refine T_icmp_ge (tgt := 32) C.1 dX2_worths_9 (by decide) ?_ ?_
    · refine T_iload_n C.1 dX2_worths_32 2 rfl ?_
      exact T_iret C.1 C.2.1 C.2.2 dX2_worths_33
    · refine T_iload_n C.1 dX2_worths_12 2 rfl ?_
      refine T_aload_n C.1 dX2_worths_13 1 rfl ?_
      refine T_iload_n C.1 dX2_worths_14 3 rfl ?_
      refine T_aload_n C.1 dX2_worths_15 0 rfl ?_
      refine T_getR (x := (t + 2)) C.1 fd_X2_15 (fun _ _ _ _ => rfl) ht (Nat.le_trans (shp_le ht (by decide)) hn) (fun _ h => h) rfl (Nat.succ_ne_zero _) dX2_worths_16 ?_
      refine T_iload_n C.1 dX2_worths_19 3 rfl ?_
      refine T_iald C.1 dX2_worths_20 (shr_2_2 ht) (Nat.le_trans (shp_le (shr_2_2 ht) (by decide)) hn) (fun j1 => ?_)
      refine T_callVI (rm := rm_X4_worthFor) [.int a2, .int (gI m (t + 2) j1)] [.int a1] C.1 dX2_worths_21 mw_X4_worthFor wm_2_131 wm_2_132 wm_2_133 ⟨Nat.le_of_ble_eq_true rfl, Nat.le_of_ble_eq_true rfl⟩ ⟨rfl, rfl⟩ ⟨Nat.zero_le _, Nat.zero_le _⟩ rfl rfl (Nat.le_of_ble_eq_true rfl) sh2 (Nat.le_trans le2 hn) ⟨rfl, rfl⟩ (c_X4_worthFor hn ll cx a2 (gI m (t + 2) j1) m) (fun v2 m3 => ?_)
      refine T_iadd C.1 dX2_worths_24 ?_
      refine T_istore_nN C.1 (fun v4 => [(2, .int v4), (0, .ref (cx.2.2.1 + t)), (1, .ref (cx.2.2.1 + 2)), (3, .int a2)]) dX2_worths_25 (by decide) (fun _ => rfl) (fun v4 => ?_)
      refine T_iincN C.1 (fun v5 => [(3, .int v5), (2, .int v4), (0, .ref (cx.2.2.1 + t)), (1, .ref (cx.2.2.1 + 2))]) dX2_worths_26 3 rfl (by decide) (fun _ => rfl) (fun v5 => ?_)
      refine T_goto (tgt := 4) C.1 dX2_worths_29 (by decide) ?_
      exact T_sub [2, 3, 1, 0] rfl (ih v4 v5 m3)
def F_X2_worths  (t : Nat) (m : Mm) : Option (Int32 × Mm) :=
  (if shp t = (9, 2) then
    F_X2_worths_4 t FU (iI 0) (iI 0) m
  else none)
set_option maxRecDepth 100000 in
set_option maxHeartbeats 4000000 in
theorem c_X2_worths {wn : Nat} (hn : NN ≤ wn) (ll : Launch) (cx : CX) (t : Nat) (m : Mm) : MT ll yX2_worths cX2_worths 4 ((some .int)) rm_X2_worths cx wn wn Lay cvI 0 0 [.ref (cx.2.2.1 + t), .ref (cx.2.2.1 + 2)] m (F_X2_worths t m) := by
  refine MT_of (by decide) (Nat.le_of_ble_eq_true rfl) ?_
  intro pp ee ss mm aa bb me co hK hr hk hn0
  have C : CM pp ss mm aa me co cX2_worths 4 RX2 cx ((some .int)) := ⟨hK, hr, hk⟩
  show TI pp ll ee rm_X2_worths ss mm aa bb me co 4 cx wn 0 [(0, .ref (cx.2.2.1 + t)), (1, .ref (cx.2.2.1 + 2))] [] m (F_X2_worths t m)
  unfold F_X2_worths
  refine T_if (fun ht => ?_) (fun _ => T_none)
  refine T_iconst C.1 dX2_worths_0 ?_
  refine T_istore_n (lv' := [(2, .int (iI 0)), (0, .ref (cx.2.2.1 + t)), (1, .ref (cx.2.2.1 + 2))]) C.1 dX2_worths_1 (by decide) rfl ?_
  refine T_iconst C.1 dX2_worths_2 ?_
  refine T_istore_n (lv' := [(3, .int (iI 0)), (2, .int (iI 0)), (0, .ref (cx.2.2.1 + t)), (1, .ref (cx.2.2.1 + 2))]) C.1 dX2_worths_3 (by decide) rfl ?_
  exact T_sub [2, 3, 1, 0] rfl (t_X2_worths_4 hn C ht FU (iI 0) (iI 0) m)
def rm_X3_clear : Room := { frames := 1, cells := 0, slots := 0, locals := 40 }
def F_X3_clear  (t : Nat) (m : Mm) : Option (Unit × Mm) :=
  (if shp t = (9, 3) then
    nm (pI m t 2 (iI 0)) fun m1 =>
    nm (pI m1 t 3 (iI (-1))) fun m2 =>
    some ((), m2)
  else none)
set_option maxRecDepth 100000 in
set_option maxHeartbeats 4000000 in
theorem c_X3_clear {wn : Nat} (hn : NN ≤ wn) (ll : Launch) (cx : CX) (t : Nat) (m : Mm) : MT ll yX3_clear cX3_clear 1 (none) rm_X3_clear cx wn wn Lay cvV 0 0 [.ref (cx.2.2.1 + t)] m (F_X3_clear t m) := by
  refine MT_of (by decide) (Nat.le_of_ble_eq_true rfl) ?_
  intro pp ee ss mm aa bb me co hK hr hk hn0
  have C : CM pp ss mm aa me co cX3_clear 1 RX3 cx (none) := ⟨hK, hr, hk⟩
  show TV pp ll ee rm_X3_clear ss mm aa bb me co 1 cx wn 0 [(0, .ref (cx.2.2.1 + t))] [] m (F_X3_clear t m)
  unfold F_X3_clear
  refine T_if (fun ht => ?_) (fun _ => T_none)
  refine T_aload_n C.1 dX3_clear_0 0 rfl ?_
  refine T_iconst C.1 dX3_clear_1 ?_
  refine T_putI C.1 LyI_Lay fd_X3_19 ht (Nat.le_trans (shp_le ht (by decide)) hn) dX3_clear_2 (fun m1 => ?_)
  refine T_aload_n C.1 dX3_clear_5 0 rfl ?_
  refine T_iconst C.1 dX3_clear_6 ?_
  refine T_putI C.1 LyI_Lay fd_X3_23 ht (Nat.le_trans (shp_le ht (by decide)) hn) dX3_clear_7 (fun m2 => ?_)
  exact T_vret C.1 C.2.1 C.2.2 dX3_clear_10
def rm_X3_write : Room := { frames := 1, cells := 0, slots := 0, locals := 40 }
def F_X3_write  (t : Nat) (x1 : Int32) (x2 : Int32) (m : Mm) : Option (Unit × Mm) :=
  (if shp t = (9, 3) then
    (if (iI 121) ≤ (gI m t 2) then
      some ((), m)
    else
      wrI 121 m (t + 1) (gI m t 2) (nC x1) fun m1 =>
      wrI 121 m1 (t + 2) (gI m1 t 2) x2 fun m2 =>
      nm (pI m2 t 2 ((gI m2 t 2) + (iI 1))) fun m3 =>
      some ((), m3))
  else none)
set_option maxRecDepth 100000 in
set_option maxHeartbeats 4000000 in
theorem c_X3_write {wn : Nat} (hn : NN ≤ wn) (ll : Launch) (cx : CX) (t : Nat) (x1 : Int32) (x2 : Int32) (m : Mm) : MT ll yX3_write cX3_write 3 (none) rm_X3_write cx wn wn Lay cvV 0 0 [.ref (cx.2.2.1 + t), .int x1, .int x2] m (F_X3_write t x1 x2 m) := by
  refine MT_of (by decide) (Nat.le_of_ble_eq_true rfl) ?_
  intro pp ee ss mm aa bb me co hK hr hk hn0
  have C : CM pp ss mm aa me co cX3_write 3 RX3 cx (none) := ⟨hK, hr, hk⟩
  show TV pp ll ee rm_X3_write ss mm aa bb me co 3 cx wn 0 [(0, .ref (cx.2.2.1 + t)), (1, .int x1), (2, .int x2)] [] m (F_X3_write t x1 x2 m)
  unfold F_X3_write
  refine T_if (fun ht => ?_) (fun _ => T_none)
  refine T_aload_n C.1 dX3_write_0 0 rfl ?_
  refine T_getI C.1 fd_X3_19 (fun _ _ _ _ => rfl) ht (Nat.le_trans (shp_le ht (by decide)) hn) dX3_write_1 ?_
  refine T_bipush C.1 dX3_write_4 rfl ?_
  refine T_icmp_ge (tgt := 39) C.1 dX3_write_6 (by decide) ?_ ?_
  · exact T_vret C.1 C.2.1 C.2.2 dX3_write_39
  · refine T_aload_n C.1 dX3_write_9 0 rfl ?_
    refine T_getR (x := (t + 1)) C.1 fd_X3_11 (fun _ _ _ _ => rfl) ht (Nat.le_trans (shp_le ht (by decide)) hn) (fun _ h => h) rfl (Nat.succ_ne_zero _) dX3_write_10 ?_
    refine T_aload_n C.1 dX3_write_13 0 rfl ?_
    refine T_getI C.1 fd_X3_19 (fun _ _ _ _ => rfl) ht (Nat.le_trans (shp_le ht (by decide)) hn) dX3_write_14 ?_
    refine T_iload_n C.1 dX3_write_17 1 rfl ?_
    refine T_cast C.1 LyI_Lay (shr_3_1 ht) (Nat.le_trans (shp_le (shr_3_1 ht) (by decide)) hn) dX3_write_18 (fun m1 => ?_)
    refine T_aload_n C.1 dX3_write_19 0 rfl ?_
    refine T_getR (x := (t + 2)) C.1 fd_X3_15 (fun _ _ _ _ => rfl) ht (Nat.le_trans (shp_le ht (by decide)) hn) (fun _ h => h) rfl (Nat.succ_ne_zero _) dX3_write_20 ?_
    refine T_aload_n C.1 dX3_write_23 0 rfl ?_
    refine T_getI C.1 fd_X3_19 (fun _ _ _ _ => rfl) ht (Nat.le_trans (shp_le ht (by decide)) hn) dX3_write_24 ?_
    refine T_iload_n C.1 dX3_write_27 2 rfl ?_
    refine T_iast C.1 LyI_Lay (shr_3_2 ht) (Nat.le_trans (shp_le (shr_3_2 ht) (by decide)) hn) dX3_write_28 (fun m2 => ?_)
    refine T_aload_n C.1 dX3_write_29 0 rfl ?_
    refine T_dup C.1 dX3_write_30 rfl ?_
    refine T_getI C.1 fd_X3_19 (fun _ _ _ _ => rfl) ht (Nat.le_trans (shp_le ht (by decide)) hn) dX3_write_31 ?_
    refine T_iconst C.1 dX3_write_34 ?_
    refine T_iadd C.1 dX3_write_35 ?_
    refine T_putI C.1 LyI_Lay fd_X3_19 ht (Nat.le_trans (shp_le ht (by decide)) hn) dX3_write_36 (fun m3 => ?_)
    exact T_vret C.1 C.2.1 C.2.2 dX3_write_39
def rm_X3_writeIf : Room := { frames := 2, cells := 0, slots := 0, locals := 62 }
def F_X3_writeIf  (t : Nat) (m : Mm) : Option (Unit × Mm) :=
  (if shp t = (9, 3) then
    nm (pI m t 3 (gI m t 2)) fun m1 =>
    bnd (F_X3_write t (iI 63) (gI m1 t 2) m1) fun _ m3 =>
    some ((), m3)
  else none)
set_option maxRecDepth 100000 in
set_option maxHeartbeats 4000000 in
theorem c_X3_writeIf {wn : Nat} (hn : NN ≤ wn) (ll : Launch) (cx : CX) (t : Nat) (m : Mm) : MT ll yX3_writeIf cX3_writeIf 1 (none) rm_X3_writeIf cx wn wn Lay cvV 0 0 [.ref (cx.2.2.1 + t)] m (F_X3_writeIf t m) := by
  refine MT_of (by decide) (Nat.le_of_ble_eq_true rfl) ?_
  intro pp ee ss mm aa bb me co hK hr hk hn0
  have C : CM pp ss mm aa me co cX3_writeIf 1 RX3 cx (none) := ⟨hK, hr, hk⟩
  show TV pp ll ee rm_X3_writeIf ss mm aa bb me co 1 cx wn 0 [(0, .ref (cx.2.2.1 + t))] [] m (F_X3_writeIf t m)
  unfold F_X3_writeIf
  refine T_if (fun ht => ?_) (fun _ => T_none)
  refine T_aload_n C.1 dX3_writeIf_0 0 rfl ?_
  refine T_aload_n C.1 dX3_writeIf_1 0 rfl ?_
  refine T_getI C.1 fd_X3_19 (fun _ _ _ _ => rfl) ht (Nat.le_trans (shp_le ht (by decide)) hn) dX3_writeIf_2 ?_
  refine T_putI C.1 LyI_Lay fd_X3_23 ht (Nat.le_trans (shp_le ht (by decide)) hn) dX3_writeIf_5 (fun m1 => ?_)
  refine T_aload_n C.1 dX3_writeIf_8 0 rfl ?_
  refine T_bipush C.1 dX3_writeIf_9 rfl ?_
  refine T_aload_n C.1 dX3_writeIf_11 0 rfl ?_
  refine T_getI C.1 fd_X3_19 (fun _ _ _ _ => rfl) ht (Nat.le_trans (shp_le ht (by decide)) hn) dX3_writeIf_12 ?_
  refine T_callVV (rm := rm_X3_write) [.int (iI 63), .int (gI m1 t 2)] [] C.1 dX3_writeIf_15 mw_X3_write wm_4_75 wm_4_53 wm_4_54 ⟨Nat.le_of_ble_eq_true rfl, Nat.le_of_ble_eq_true rfl⟩ ⟨rfl, rfl⟩ ⟨Nat.zero_le _, Nat.zero_le _⟩ rfl rfl (Nat.le_of_ble_eq_true rfl) ht (Nat.le_trans (shp_le ht (by decide)) hn) ⟨rfl, rfl⟩ (c_X3_write hn ll cx t (iI 63) (gI m1 t 2) m1) (fun u2 m3 => ?_)
  exact T_vret C.1 C.2.1 C.2.2 dX3_writeIf_18
def rm_X3_writeEndOfLine : Room := { frames := 2, cells := 0, slots := 0, locals := 62 }
def F_X3_writeEndOfLine_29 (t : Nat)  (m : Mm) : Option (Unit × Mm) :=
  nm (pI m t 3 (iI (-1))) fun m1 =>
  bnd (F_X3_write t (iI 59) (iI 0) m1) fun _ m3 =>
  some ((), m3)
set_option maxRecDepth 100000 in
set_option maxHeartbeats 4000000 in
theorem t_X3_writeEndOfLine_29 {wn : Nat} (hn : NN ≤ wn) {pp : Program} {ll : Launch} {ee : Env} {ss : State} {mm : MethodId} {aa : Array Value} {bb : List Frame} {me : Method} {co : Code} {cx : CX}    {t : Nat} (C : CM pp ss mm aa me co cX3_writeEndOfLine 1 RX3 cx (none)) (ht : shp t = (9, 3))    (m : Mm) : TV pp ll ee rm_X3_writeEndOfLine ss mm aa bb me co 1 cx wn 29 [(0, .ref (cx.2.2.1 + t))] [] m (F_X3_writeEndOfLine_29 t m) := by
  unfold F_X3_writeEndOfLine_29
  refine T_aload_n C.1 dX3_writeEndOfLine_29 0 rfl ?_
  refine T_iconst C.1 dX3_writeEndOfLine_30 ?_
  refine T_putI C.1 LyI_Lay fd_X3_23 ht (Nat.le_trans (shp_le ht (by decide)) hn) dX3_writeEndOfLine_31 (fun m1 => ?_)
  refine T_aload_n C.1 dX3_writeEndOfLine_34 0 rfl ?_
  refine T_bipush C.1 dX3_writeEndOfLine_35 rfl ?_
  refine T_iconst C.1 dX3_writeEndOfLine_37 ?_
  refine T_callVV (rm := rm_X3_write) [.int (iI 59), .int (iI 0)] [] C.1 dX3_writeEndOfLine_38 mw_X3_write wm_4_75 wm_4_53 wm_4_54 ⟨Nat.le_of_ble_eq_true rfl, Nat.le_of_ble_eq_true rfl⟩ ⟨rfl, rfl⟩ ⟨Nat.zero_le _, Nat.zero_le _⟩ rfl rfl (Nat.le_of_ble_eq_true rfl) ht (Nat.le_trans (shp_le ht (by decide)) hn) ⟨rfl, rfl⟩ (c_X3_write hn ll cx t (iI 59) (iI 0) m1) (fun u2 m3 => ?_)
  exact T_vret C.1 C.2.1 C.2.2 dX3_writeEndOfLine_41
def F_X3_writeEndOfLine  (t : Nat) (m : Mm) : Option (Unit × Mm) :=
  (if shp t = (9, 3) then
    (if (gI m t 3) < iI 0 then
      F_X3_writeEndOfLine_29 t m
    else
      (if (iI 121) ≤ (gI m t 3) then
        F_X3_writeEndOfLine_29 t m
      else
        wrI 121 m (t + 2) (gI m t 3) (gI m t 2) fun m1 =>
        F_X3_writeEndOfLine_29 t m1))
  else none)
set_option maxRecDepth 100000 in
set_option maxHeartbeats 4000000 in
theorem c_X3_writeEndOfLine {wn : Nat} (hn : NN ≤ wn) (ll : Launch) (cx : CX) (t : Nat) (m : Mm) : MT ll yX3_writeEndOfLine cX3_writeEndOfLine 1 (none) rm_X3_writeEndOfLine cx wn wn Lay cvV 0 0 [.ref (cx.2.2.1 + t)] m (F_X3_writeEndOfLine t m) := by
  refine MT_of (by decide) (Nat.le_of_ble_eq_true rfl) ?_
  intro pp ee ss mm aa bb me co hK hr hk hn0
  have C : CM pp ss mm aa me co cX3_writeEndOfLine 1 RX3 cx (none) := ⟨hK, hr, hk⟩
  show TV pp ll ee rm_X3_writeEndOfLine ss mm aa bb me co 1 cx wn 0 [(0, .ref (cx.2.2.1 + t))] [] m (F_X3_writeEndOfLine t m)
  unfold F_X3_writeEndOfLine
  refine T_if (fun ht => ?_) (fun _ => T_none)
  refine T_aload_n C.1 dX3_writeEndOfLine_0 0 rfl ?_
  refine T_getI C.1 fd_X3_23 (fun _ _ _ _ => rfl) ht (Nat.le_trans (shp_le ht (by decide)) hn) dX3_writeEndOfLine_1 ?_
  refine T_if_lt (tgt := 29) C.1 dX3_writeEndOfLine_4 (by decide) ?_ ?_
  · exact T_sub [0] rfl (t_X3_writeEndOfLine_29 hn C ht m)
  · refine T_aload_n C.1 dX3_writeEndOfLine_7 0 rfl ?_
    refine T_getI C.1 fd_X3_23 (fun _ _ _ _ => rfl) ht (Nat.le_trans (shp_le ht (by decide)) hn) dX3_writeEndOfLine_8 ?_
    refine T_bipush C.1 dX3_writeEndOfLine_11 rfl ?_
    refine T_icmp_ge (tgt := 29) C.1 dX3_writeEndOfLine_13 (by decide) ?_ ?_
    · exact T_sub [0] rfl (t_X3_writeEndOfLine_29 hn C ht m)
    · refine T_aload_n C.1 dX3_writeEndOfLine_16 0 rfl ?_
      refine T_getR (x := (t + 2)) C.1 fd_X3_15 (fun _ _ _ _ => rfl) ht (Nat.le_trans (shp_le ht (by decide)) hn) (fun _ h => h) rfl (Nat.succ_ne_zero _) dX3_writeEndOfLine_17 ?_
      refine T_aload_n C.1 dX3_writeEndOfLine_20 0 rfl ?_
      refine T_getI C.1 fd_X3_23 (fun _ _ _ _ => rfl) ht (Nat.le_trans (shp_le ht (by decide)) hn) dX3_writeEndOfLine_21 ?_
      refine T_aload_n C.1 dX3_writeEndOfLine_24 0 rfl ?_
      refine T_getI C.1 fd_X3_19 (fun _ _ _ _ => rfl) ht (Nat.le_trans (shp_le ht (by decide)) hn) dX3_writeEndOfLine_25 ?_
      refine T_iast C.1 LyI_Lay (shr_3_2 ht) (Nat.le_trans (shp_le (shr_3_2 ht) (by decide)) hn) dX3_writeEndOfLine_28 (fun m1 => ?_)
      exact T_sub [0] rfl (t_X3_writeEndOfLine_29 hn C ht m1)
def rm_X3_nameOf : Room := { frames := 1, cells := 0, slots := 0, locals := 40 }
def F_X3_nameOf  (x1 : Int32) (m : Mm) : Option (Int32 × Mm) :=
  tsw x1 (108) [(some ((iI 3), m)),
   (some ((iI (-1)), m)),
   (some ((iI (-1)), m)),
   (some ((iI 4), m)),
   (some ((iI (-1)), m)),
   (some ((iI (-1)), m)),
   (some ((iI 5), m)),
   (some ((iI (-1)), m)),
   (some ((iI 2), m)),
   (some ((iI (-1)), m)),
   (some ((iI (-1)), m)),
   (some ((iI 0), m)),
   (some ((iI 1), m))] (some ((iI (-1)), m))
set_option maxRecDepth 100000 in
set_option maxHeartbeats 4000000 in
theorem c_X3_nameOf {wn : Nat} (hn : NN ≤ wn) (ll : Launch) (cx : CX) (x1 : Int32) (m : Mm) : MT ll yX3_nameOf cX3_nameOf 1 ((some .int)) rm_X3_nameOf cx wn wn Lay cvI 0 0 [.int x1] m (F_X3_nameOf x1 m) := by
  refine MT_of (by decide) (Nat.le_of_ble_eq_true rfl) ?_
  intro pp ee ss mm aa bb me co hK hr hk hn0
  have C : CM pp ss mm aa me co cX3_nameOf 1 RX3 cx ((some .int)) := ⟨hK, hr, hk⟩
  show TI pp ll ee rm_X3_nameOf ss mm aa bb me co 1 cx wn 0 [(0, .int x1)] [] m (F_X3_nameOf x1 m)
  unfold F_X3_nameOf
  refine T_iload_n C.1 dX3_nameOf_0 0 rfl ?_
  refine T_tsw (lo := (108)) (os := [73, 79, 79, 75, 79, 79, 77, 79, 71, 79, 79, 67, 69]) C.1 dX3_nameOf_1 rfl (by decide) (tgd := 80) (by decide) ⟨⟨74, by decide, ?_⟩, ⟨80, by decide, ?_⟩, ⟨80, by decide, ?_⟩, ⟨76, by decide, ?_⟩, ⟨80, by decide, ?_⟩, ⟨80, by decide, ?_⟩, ⟨78, by decide, ?_⟩, ⟨80, by decide, ?_⟩, ⟨72, by decide, ?_⟩, ⟨80, by decide, ?_⟩, ⟨80, by decide, ?_⟩, ⟨68, by decide, ?_⟩, ⟨70, by decide, ?_⟩, trivial⟩ ?_
  · show TI pp ll ee rm_X3_nameOf ss mm aa bb me co 1 cx wn _ _ _ _ _
    refine T_iconst C.1 dX3_nameOf_74 ?_
    exact T_iret C.1 C.2.1 C.2.2 dX3_nameOf_75
  · show TI pp ll ee rm_X3_nameOf ss mm aa bb me co 1 cx wn _ _ _ _ _
    refine T_iconst C.1 dX3_nameOf_80 ?_
    exact T_iret C.1 C.2.1 C.2.2 dX3_nameOf_81
  · show TI pp ll ee rm_X3_nameOf ss mm aa bb me co 1 cx wn _ _ _ _ _
    refine T_iconst C.1 dX3_nameOf_80 ?_
    exact T_iret C.1 C.2.1 C.2.2 dX3_nameOf_81
  · show TI pp ll ee rm_X3_nameOf ss mm aa bb me co 1 cx wn _ _ _ _ _
    refine T_iconst C.1 dX3_nameOf_76 ?_
    exact T_iret C.1 C.2.1 C.2.2 dX3_nameOf_77
  · show TI pp ll ee rm_X3_nameOf ss mm aa bb me co 1 cx wn _ _ _ _ _
    refine T_iconst C.1 dX3_nameOf_80 ?_
    exact T_iret C.1 C.2.1 C.2.2 dX3_nameOf_81
  · show TI pp ll ee rm_X3_nameOf ss mm aa bb me co 1 cx wn _ _ _ _ _
    refine T_iconst C.1 dX3_nameOf_80 ?_
    exact T_iret C.1 C.2.1 C.2.2 dX3_nameOf_81
  · show TI pp ll ee rm_X3_nameOf ss mm aa bb me co 1 cx wn _ _ _ _ _
    refine T_iconst C.1 dX3_nameOf_78 ?_
    exact T_iret C.1 C.2.1 C.2.2 dX3_nameOf_79
  · show TI pp ll ee rm_X3_nameOf ss mm aa bb me co 1 cx wn _ _ _ _ _
    refine T_iconst C.1 dX3_nameOf_80 ?_
    exact T_iret C.1 C.2.1 C.2.2 dX3_nameOf_81
  · show TI pp ll ee rm_X3_nameOf ss mm aa bb me co 1 cx wn _ _ _ _ _
    refine T_iconst C.1 dX3_nameOf_72 ?_
    exact T_iret C.1 C.2.1 C.2.2 dX3_nameOf_73
  · show TI pp ll ee rm_X3_nameOf ss mm aa bb me co 1 cx wn _ _ _ _ _
    refine T_iconst C.1 dX3_nameOf_80 ?_
    exact T_iret C.1 C.2.1 C.2.2 dX3_nameOf_81
  · show TI pp ll ee rm_X3_nameOf ss mm aa bb me co 1 cx wn _ _ _ _ _
    refine T_iconst C.1 dX3_nameOf_80 ?_
    exact T_iret C.1 C.2.1 C.2.2 dX3_nameOf_81
  · show TI pp ll ee rm_X3_nameOf ss mm aa bb me co 1 cx wn _ _ _ _ _
    refine T_iconst C.1 dX3_nameOf_68 ?_
    exact T_iret C.1 C.2.1 C.2.2 dX3_nameOf_69
  · show TI pp ll ee rm_X3_nameOf ss mm aa bb me co 1 cx wn _ _ _ _ _
    refine T_iconst C.1 dX3_nameOf_70 ?_
    exact T_iret C.1 C.2.1 C.2.2 dX3_nameOf_71
  · show TI pp ll ee rm_X3_nameOf ss mm aa bb me co 1 cx wn _ _ _ _ _
    refine T_iconst C.1 dX3_nameOf_80 ?_
    exact T_iret C.1 C.2.1 C.2.2 dX3_nameOf_81
def rm_X4_isOne : Room := { frames := 1, cells := 0, slots := 0, locals := 40 }
def F_X4_isOne  (x1 : Int32) (m : Mm) : Option (Int32 × Mm) :=
  (if x1 < iI 0 then
    rz (iI 0) m
  else
    (if (gI m 2 0) ≤ x1 then
      rz (iI 0) m
    else
      rz (iI 1) m))
set_option maxRecDepth 100000 in
set_option maxHeartbeats 4000000 in
theorem c_X4_isOne {wn : Nat} (hn : NN ≤ wn) (ll : Launch) (cx : CX) (x1 : Int32) (m : Mm) : MT ll yX4_isOne cX4_isOne 2 ((some .boolean)) rm_X4_isOne cx wn wn Lay cvI 0 0 [.ref (cx.2.2.1 + 2), .int x1] m (F_X4_isOne x1 m) := by
  refine MT_of (by decide) (Nat.le_of_ble_eq_true rfl) ?_
  intro pp ee ss mm aa bb me co hK hr hk hn0
  have C : CM pp ss mm aa me co cX4_isOne 2 RX4 cx ((some .boolean)) := ⟨hK, hr, hk⟩
  show TI pp ll ee rm_X4_isOne ss mm aa bb me co 2 cx wn 0 [(0, .ref (cx.2.2.1 + 2)), (1, .int x1)] [] m (F_X4_isOne x1 m)
  unfold F_X4_isOne
  refine T_iload_n C.1 dX4_isOne_0 1 rfl ?_
  refine T_if_lt (tgt := 16) C.1 dX4_isOne_1 (by decide) ?_ ?_
  · refine T_iconst C.1 dX4_isOne_16 ?_
    exact T_zret C.1 C.2.1 C.2.2 dX4_isOne_17
  · refine T_iload_n C.1 dX4_isOne_4 1 rfl ?_
    refine T_aload_n C.1 dX4_isOne_5 0 rfl ?_
    refine T_getI C.1 fd_X4_9 (fun _ _ _ _ => rfl) sh2 (Nat.le_trans le2 hn) dX4_isOne_6 ?_
    refine T_icmp_ge (tgt := 16) C.1 dX4_isOne_9 (by decide) ?_ ?_
    · refine T_iconst C.1 dX4_isOne_16 ?_
      exact T_zret C.1 C.2.1 C.2.2 dX4_isOne_17
    · refine T_iconst C.1 dX4_isOne_12 ?_
      refine T_goto (tgt := 17) C.1 dX4_isOne_13 (by decide) ?_
      exact T_zret C.1 C.2.1 C.2.2 dX4_isOne_17
def rm_X4_isPair : Room := { frames := 2, cells := 0, slots := 0, locals := 61 }
def F_X4_isPair  (x1 : Int32) (m : Mm) : Option (Int32 × Mm) :=
  (if x1 < iI 0 then
    rz (iI 0) m
  else
    (if (iI 70) ≤ x1 then
      rz (iI 0) m
    else
      dvI x1 (iI 10) fun v1 =>
      bnd (F_X4_isOne v1 m) fun v2 m3 =>
      (if v2 = iI 0 then
        rz (iI 0) m3
      else
        rmI x1 (iI 10) fun v4 =>
        bnd (F_X4_isOne v4 m3) fun v5 m6 =>
        (if v5 = iI 0 then
          rz (iI 0) m6
        else
          rz (iI 1) m6))))
set_option maxRecDepth 100000 in
set_option maxHeartbeats 4000000 in
theorem c_X4_isPair {wn : Nat} (hn : NN ≤ wn) (ll : Launch) (cx : CX) (x1 : Int32) (m : Mm) : MT ll yX4_isPair cX4_isPair 2 ((some .boolean)) rm_X4_isPair cx wn wn Lay cvI 0 0 [.ref (cx.2.2.1 + 2), .int x1] m (F_X4_isPair x1 m) := by
  refine MT_of (by decide) (Nat.le_of_ble_eq_true rfl) ?_
  intro pp ee ss mm aa bb me co hK hr hk hn0
  have C : CM pp ss mm aa me co cX4_isPair 2 RX4 cx ((some .boolean)) := ⟨hK, hr, hk⟩
  show TI pp ll ee rm_X4_isPair ss mm aa bb me co 2 cx wn 0 [(0, .ref (cx.2.2.1 + 2)), (1, .int x1)] [] m (F_X4_isPair x1 m)
  unfold F_X4_isPair
  refine T_iload_n C.1 dX4_isPair_0 1 rfl ?_
  refine T_if_lt (tgt := 36) C.1 dX4_isPair_1 (by decide) ?_ ?_
  · refine T_iconst C.1 dX4_isPair_36 ?_
    exact T_zret C.1 C.2.1 C.2.2 dX4_isPair_37
  · refine T_iload_n C.1 dX4_isPair_4 1 rfl ?_
    refine T_bipush C.1 dX4_isPair_5 rfl ?_
    refine T_icmp_ge (tgt := 36) C.1 dX4_isPair_7 (by decide) ?_ ?_
    · refine T_iconst C.1 dX4_isPair_36 ?_
      exact T_zret C.1 C.2.1 C.2.2 dX4_isPair_37
    · refine T_aload_n C.1 dX4_isPair_10 0 rfl ?_
      refine T_iload_n C.1 dX4_isPair_11 1 rfl ?_
      refine T_bipush C.1 dX4_isPair_12 rfl ?_
      refine T_idiv C.1 dX4_isPair_14 (fun v1 => ?_)
      refine T_callVI (rm := rm_X4_isOne) [.int v1] [] C.1 dX4_isPair_15 mw_X4_isOne wm_2_84 wm_2_85 wm_2_86 ⟨Nat.le_of_ble_eq_true rfl, Nat.le_of_ble_eq_true rfl⟩ ⟨rfl, rfl⟩ ⟨Nat.zero_le _, Nat.zero_le _⟩ rfl rfl (Nat.le_of_ble_eq_true rfl) sh2 (Nat.le_trans le2 hn) ⟨rfl, rfl⟩ (c_X4_isOne hn ll cx v1 m) (fun v2 m3 => ?_)
      refine T_if_eq (tgt := 36) C.1 dX4_isPair_18 (by decide) ?_ ?_
      · refine T_iconst C.1 dX4_isPair_36 ?_
        exact T_zret C.1 C.2.1 C.2.2 dX4_isPair_37
      · refine T_aload_n C.1 dX4_isPair_21 0 rfl ?_
        refine T_iload_n C.1 dX4_isPair_22 1 rfl ?_
        refine T_bipush C.1 dX4_isPair_23 rfl ?_
        refine T_irem C.1 dX4_isPair_25 (fun v4 => ?_)
        refine T_callVI (rm := rm_X4_isOne) [.int v4] [] C.1 dX4_isPair_26 mw_X4_isOne wm_2_84 wm_2_85 wm_2_86 ⟨Nat.le_of_ble_eq_true rfl, Nat.le_of_ble_eq_true rfl⟩ ⟨rfl, rfl⟩ ⟨Nat.zero_le _, Nat.zero_le _⟩ rfl rfl (Nat.le_of_ble_eq_true rfl) sh2 (Nat.le_trans le2 hn) ⟨rfl, rfl⟩ (c_X4_isOne hn ll cx v4 m3) (fun v5 m6 => ?_)
        refine T_if_eq (tgt := 36) C.1 dX4_isPair_29 (by decide) ?_ ?_
        · refine T_iconst C.1 dX4_isPair_36 ?_
          exact T_zret C.1 C.2.1 C.2.2 dX4_isPair_37
        · refine T_iconst C.1 dX4_isPair_32 ?_
          refine T_goto (tgt := 37) C.1 dX4_isPair_33 (by decide) ?_
          exact T_zret C.1 C.2.1 C.2.2 dX4_isPair_37
