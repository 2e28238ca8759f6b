def ph_ca (a k : Int) (A B : Prop) : Prop := (a = k → A) ∧ (¬ a = k → B)
def A_fill_l5 (n : Int) (x1 : Int) (x3 : Int) (Q : (Int → Int) → Prop) (Kh : Int → (Int → Int) → Prop) (x2 : Int) (zz : Int → Int) : Prop :=
  ph_lt x2 x3 (ph_ix x2 n (ph_nm (ph_u zz x2 x1) (fun zz_13 => ph_nm (x2 + 1) (fun x2_14 => Kh x2_14 zz_13)))) (Q zz)
def A_fill_wp (n : Int) (zz : Int → Int) (x1 : Int) (Q : (Int → Int) → Prop) : Prop :=
  ph_nm (n : Int) (fun x3_4 => ∃ kk, ph_it (fun _ _ => False) (A_fill_l5 n x1 x3_4  Q) kk 0 zz)
def F_holds_wp (x0 : Int) (Q : Int → Prop) : Prop :=
  ph_lt x0 0 (ph_bo 0 (Q 0)) (ph_lt x0 144 (ph_bo 1 (Q 1)) (ph_bo 0 (Q 0)))
def F_changePrice_wp (pr : Int → Int) (x1 : Int) (x2 : Int) (Q : Int → (Int → Int) → Prop) : Prop :=
  ph_ix x1 144 (ph_nm (pr x1) (fun x3_6 => ph_ix x1 144 (ph_nm (ph_u pr x1 x2) (fun pr_13 => Q x3_6 pr_13))))
def F_beside_wp (x0 : Int) (x1 : Int) (Q : Int → Prop) : Prop :=
  ph_dv x0 12 (ph_nm (x0 % 12) (fun x2_4 => ph_rr x1 (ph_ca x1 0 (ph_lt x0 12 (Q (-1)) (Q (x0 - 12))) (ph_ca x1 1 (ph_lt 0 x2_4 (Q (x0 - 1)) (Q (-1))) (ph_ca x1 2 (ph_lt x2_4 11 (Q (x0 + 1)) (Q (-1))) (ph_lt x0 132 (Q (x0 + 12)) (Q (-1))))))))
def F_waitFor_wp (rg : Int → Int) (nx : Int → Int) (wt : Int) (x1 : Int) (x2 : Int) (Q : (Int → Int) → (Int → Int) → (Int) → Prop) : Prop :=
  ph_dv x2 10 (ph_nm (x2 % 10) (fun x3_4 => ph_ix x3_4 10 (ph_ix x1 144 (ph_nm (ph_u nx x1 (rg x3_4)) (fun nx_16 => ph_ix x3_4 10 (ph_nm (ph_u rg x3_4 x1) (fun rg_23 => ph_nm (wt + 1) (fun wt_31 => Q rg_23 nx_16 wt_31))))))))
def F_reachFrom_j94 (pr : Int → Int) (lf : Int → Int) (rg : Int → Int) (nx : Int → Int) (wt : Int) (x1 : Int) (x2 : Int) (x3 : Int) (x4 : Int) (x5 : Int) (Q : (Int → Int) → (Int → Int) → (Int → Int) → (Int) → Prop) (Kh : Int → (Int → Int) → (Int → Int) → (Int → Int) → (Int) → Prop) : Prop :=
  ph_ix x5 144 (ph_nm (ph_u lf x5 x3) (fun lf_101 => ph_nm (x4 + 1) (fun x4_102 => Kh x4_102 lf_101 rg nx wt)))
def F_reachFrom_l23 (pr : Int → Int) (x1 : Int) (x2 : Int) (x3 : Int) (Q : (Int → Int) → (Int → Int) → (Int → Int) → (Int) → Prop) (Kh : Int → (Int → Int) → (Int → Int) → (Int → Int) → (Int) → Prop) (x4 : Int) (lf : Int → Int) (rg : Int → Int) (nx : Int → Int) (wt : Int) : Prop :=
  ph_lt x4 4 (F_beside_wp x1 x4 (fun r_32 => ph_eq r_32 (-1) (ph_nm (x4 + 1) (fun x4_102 => Kh x4_102 lf rg nx wt)) (ph_ix r_32 144 (ph_lt x3 (lf r_32) (ph_ix r_32 144 (ph_eq (lf r_32) 1073741824 (ph_ix r_32 144 (ph_lt 0 (pr r_32) (ph_ix r_32 144 (F_waitFor_wp rg nx wt r_32 (x2 + (pr r_32)) (fun rg_91 nx_91 wt_91 => F_reachFrom_j94 pr lf rg_91 nx_91 wt_91 x1 x2 x3 x4 r_32  Q Kh))) (F_reachFrom_j94 pr lf rg nx wt x1 x2 x3 x4 r_32  Q Kh))) (F_reachFrom_j94 pr lf rg nx wt x1 x2 x3 x4 r_32  Q Kh))) (ph_nm (x4 + 1) (fun x4_102 => Kh x4_102 lf rg nx wt)))))) (Q lf rg nx wt)
def F_reachFrom_wp (pr : Int → Int) (lf : Int → Int) (rg : Int → Int) (nx : Int → Int) (wt : Int) (x1 : Int) (x2 : Int) (Q : (Int → Int) → (Int → Int) → (Int → Int) → (Int) → Prop) : Prop :=
  ph_ix x1 144 (ph_ix x1 144 (ph_nm (((lf x1) + ((pr x1) * 256)) + 1) (fun x3_19 => ∃ kk, ph_it (fun _ _ _ _ _ => False) (F_reachFrom_l23 pr x1 x2 x3_19  Q) kk 0 lf rg nx wt)))
def F_workOff_l22 (pr : Int → Int) (x1 : Int) (Q : (Int → Int) → (Int → Int) → (Int → Int) → (Int) → Prop) (Kh : Int → Int → (Int → Int) → (Int → Int) → (Int → Int) → (Int) → Prop) (x3 : Int) (x4 : Int) (lf : Int → Int) (rg : Int → Int) (nx : Int → Int) (wt : Int) : Prop :=
  ph_lt x4 144 (ph_eq x3 (-1) (Q lf rg nx wt) (ph_nm (wt - 1) (fun wt_42 => F_reachFrom_wp pr lf rg nx wt_42 x3 x1 (fun lf_48 rg_48 nx_48 wt_48 => ph_ix x3 144 (ph_nm (nx_48 x3) (fun x3_57 => ph_nm (x4 + 1) (fun x4_58 => Kh x3_57 x4_58 lf_48 rg_48 nx_48 wt_48))))))) (Q lf rg nx wt)
def F_workOff_wp (pr : Int → Int) (lf : Int → Int) (rg : Int → Int) (nx : Int → Int) (wt : Int) (x1 : Int) (Q : (Int → Int) → (Int → Int) → (Int → Int) → (Int) → Prop) : Prop :=
  ph_dv x1 10 (ph_nm (x1 % 10) (fun x2_4 => ph_ix x2_4 10 (ph_nm (rg x2_4) (fun x3_11 => ph_ix x2_4 10 (ph_nm (ph_u rg x2_4 (-1)) (fun rg_18 => ∃ kk, ph_it (fun _ _ _ _ _ _ => False) (F_workOff_l22 pr x1  Q) kk x3_11 0 lf rg_18 nx wt))))))
def F_searchBackFrom_l51 (pr : Int → Int) (Q : (Int → Int) → (Int → Int) → (Int → Int) → (Int) → Prop) (Kh : Int → (Int → Int) → (Int → Int) → (Int → Int) → (Int) → Prop) (x2 : Int) (lf : Int → Int) (rg : Int → Int) (nx : Int → Int) (wt : Int) : Prop :=
  ph_lt 0 wt (ph_lt 1296 x2 (Q lf rg nx wt) (F_workOff_wp pr lf rg nx wt x2 (fun lf_67 rg_67 nx_67 wt_67 => ph_nm (x2 + 1) (fun x2_70 => Kh x2_70 lf_67 rg_67 nx_67 wt_67)))) (Q lf rg nx wt)
def F_searchBackFrom_wp (pr : Int → Int) (lf : Int → Int) (rg : Int → Int) (nx : Int → Int) (wt : Int) (x1 : Int) (Q : (Int → Int) → (Int → Int) → (Int → Int) → (Int) → Prop) : Prop :=
  A_fill_wp 144 lf 1073741824 (fun lf_6 => A_fill_wp 10 rg (-1) (fun rg_14 => ph_ix x1 144 (ph_nm (ph_u lf_6 x1 0) (fun lf_23 => ph_ix x1 144 (ph_lt 0 (pr x1) (ph_ix x1 144 (F_waitFor_wp rg_14 nx 0 x1 (pr x1) (fun rg_46 nx_46 wt_46 => ∃ kk, ph_it (fun _ _ _ _ _ => False) (F_searchBackFrom_l51 pr  Q) kk 0 lf_23 rg_46 nx_46 wt_46))) (∃ kk, ph_it (fun _ _ _ _ _ => False) (F_searchBackFrom_l51 pr  Q) kk 0 lf_23 rg_14 nx 0))))))
def F_stepFrom_l2 (pr : Int → Int) (lf : Int → Int) (x1 : Int) (Q : Int → Prop) (Kh : Int → Prop) (x2 : Int) : Prop :=
  ph_lt x2 4 (F_beside_wp x1 x2 (fun r_9 => ph_eq r_9 (-1) (ph_nm (x2 + 1) (fun x2_57 => Kh x2_57)) (ph_ix r_9 144 (ph_lt 0 (pr r_9) (ph_ix r_9 144 (ph_ix r_9 144 (ph_ix x1 144 (ph_eq (((lf r_9) + ((pr r_9) * 256)) + 1) (lf x1) (Q r_9) (ph_nm (x2 + 1) (fun x2_57 => Kh x2_57)))))) (ph_nm (x2 + 1) (fun x2_57 => Kh x2_57)))))) (Q (-1))
def F_stepFrom_wp (pr : Int → Int) (lf : Int → Int) (x1 : Int) (Q : Int → Prop) : Prop :=
  ∃ kk, ph_it (fun _ => False) (F_stepFrom_l2 pr lf x1  Q) kk 0
def F_walk_l5 (pr : Int → Int) (lf : Int → Int) (x2 : Int) (Q : (Int → Int) → (Int) → Prop) (Kh : Int → Int → (Int → Int) → (Int) → Prop) (x3 : Int) (x4 : Int) (fd : Int → Int) (fl : Int) : Prop :=
  ph_lt x4 144 (ph_eq x3 (-1) (Q fd fl) (ph_ix x4 144 (ph_nm (ph_u fd x4 x3) (fun fd_25 => ph_nm (x4 + 1) (fun fl_31 => ph_eq x3 x2 (ph_nm (x4 + 1) (fun x4_49 => Kh (-1) x4_49 fd_25 fl_31)) (F_stepFrom_wp pr lf x3 (fun r_45 => ph_nm (x4 + 1) (fun x4_49 => Kh r_45 x4_49 fd_25 fl_31)))))))) (Q fd fl)
def F_walk_wp (pr : Int → Int) (lf : Int → Int) (fd : Int → Int) (fl : Int) (x1 : Int) (x2 : Int) (Q : (Int → Int) → (Int) → Prop) : Prop :=
  ∃ kk, ph_it (fun _ _ _ _ => False) (F_walk_l5 pr lf x2  Q) kk x1 0 fd fl
def F_find_wp (pr : Int → Int) (lf : Int → Int) (rg : Int → Int) (nx : Int → Int) (fd : Int → Int) (wt : Int) (fl : Int) (fp : Int) (x1 : Int) (x2 : Int) (Q : Int → (Int → Int) → (Int → Int) → (Int → Int) → (Int → Int) → (Int) → (Int) → (Int) → Prop) : Prop :=
  F_searchBackFrom_wp pr lf rg nx wt x2 (fun lf_7 rg_7 nx_7 wt_7 => ph_ix x1 144 (ph_eq (lf_7 x1) 1073741824 (ph_bo 0 (Q 0 lf_7 rg_7 nx_7 fd wt_7 0 fp)) (ph_ix x1 144 (ph_dv (lf_7 x1) 256 (ph_nm ((lf_7 x1) / 256) (fun fp_34 => F_walk_wp pr lf_7 fd 0 x1 x2 (fun fd_40 fl_40 => ph_bo 1 (Q 1 lf_7 rg_7 nx_7 fd_40 wt_7 fl_40 fp_34))))))))
def F_foundPrice_wp (fp : Int) (Q : Int → Prop) : Prop :=
  Q fp
def F_foundLength_wp (fl : Int) (Q : Int → Prop) : Prop :=
  Q fl
def F_foundCell_wp (fd : Int → Int) (fl : Int) (x1 : Int) (Q : Int → Prop) : Prop :=
  ph_lt x1 0 (Q (-1)) (ph_lt x1 fl (ph_ix x1 144 (Q (fd x1))) (Q (-1)))
def N_holds_wp (nn : Int) (x1 : Int) (Q : Int → Prop) : Prop :=
  ph_lt x1 0 (ph_bo 0 (Q 0)) (ph_lt x1 nn (ph_bo 1 (Q 1)) (ph_bo 0 (Q 0)))
def N_isFull_wp (nn : Int) (Q : Int → Prop) : Prop :=
  ph_lt nn 24 (ph_bo 0 (Q 0)) (ph_bo 1 (Q 1))
def N_add_wp (nc : Int → Int) (na : Int → Int) (ns : Int → Int) (nu : Int → Int) (ai : Int → Int) (rl : Int → Int) (nn : Int) (x1 : Int) (x2 : Int) (x3 : Int) (x4 : Int) (Q : Int → (Int → Int) → (Int → Int) → (Int → Int) → (Int → Int) → (Int → Int) → (Int → Int) → (Int) → Prop) : Prop :=
  ph_ix nn 24 (ph_nm (ph_u nc nn x1) (fun nc_13 => ph_ix nn 24 (ph_nm (ph_u na nn x2) (fun na_21 => ph_ix nn 24 (ph_nm (ph_u ns nn x3) (fun ns_29 => ph_ix nn 24 (ph_nm (ph_u nu nn x4) (fun nu_38 => ph_bo 0 (ph_ix nn 24 (ph_nm (ph_u ai nn 0) (fun ai_46 => ph_ix nn 24 (ph_nm (ph_u rl nn 0) (fun rl_54 => ph_nm (nn + 1) (fun nn_62 => Q nn nc_13 na_21 ns_29 nu_38 ai_46 rl_54 nn_62))))))))))))))
def N_addMain_j23 (nc : Int → Int) (na : Int → Int) (ns : Int → Int) (nu : Int → Int) (ai : Int → Int) (rl : Int → Int) (nn : Int) (x3 : Int) (s0 : Int) (s1 : Int) (Q : Int → (Int → Int) → (Int → Int) → (Int → Int) → (Int → Int) → (Int → Int) → (Int → Int) → (Int) → Prop) : Prop :=
  ph_bo s1 (ph_ix s0 24 (ph_nm (ph_u ai s0 s1) (fun ai_23 => Q x3 nc na ns nu ai_23 rl nn)))
def N_addMain_wp (nc : Int → Int) (na : Int → Int) (ns : Int → Int) (nu : Int → Int) (ai : Int → Int) (rl : Int → Int) (nn : Int) (x1 : Int) (x2 : Int) (Q : Int → (Int → Int) → (Int → Int) → (Int → Int) → (Int → Int) → (Int → Int) → (Int → Int) → (Int) → Prop) : Prop :=
  N_add_wp nc na ns nu ai rl nn x1 (-1) x2 0 (fun r_5 nc_5 na_5 ns_5 nu_5 ai_5 rl_5 nn_5 => ph_eq x2 0 (N_addMain_j23 nc_5 na_5 ns_5 nu_5 ai_5 rl_5 nn_5 r_5 r_5 1  Q ) (N_addMain_j23 nc_5 na_5 ns_5 nu_5 ai_5 rl_5 nn_5 r_5 r_5 0  Q ))
def N_layRun_j74 (fd : Int → Int) (fl : Int) (rl : Int → Int) (rc : Int → Int) (x1 : Int) (x3 : Int) (x5 : Int) (x6 : Int) (s0 : Int) (Q : Int → (Int → Int) → (Int → Int) → Prop) (Kh : Int → Int → (Int → Int) → Prop) : Prop :=
  F_foundCell_wp fd fl x5 (fun r_85 => ph_ix x6 3456 (ph_nm (ph_u rc x6 r_85) (fun rc_88 => ph_nm (x5 + 1) (fun x5_89 => Kh s0 x5_89 rc_88))))
def N_layRun_l32 (fd : Int → Int) (fl : Int) (rl : Int → Int) (x1 : Int) (x3 : Int) (Q : Int → (Int → Int) → (Int → Int) → Prop) (Kh : Int → Int → (Int → Int) → Prop) (x4 : Int) (x5 : Int) (rc : Int → Int) : Prop :=
  ph_lt x5 x3 (ph_nm ((x1 * 144) + x5) (fun x6_46 => ph_eq x4 0 (ph_ix x6_46 3456 (F_foundCell_wp fd fl x5 (fun r_63 => ph_eq (rc x6_46) r_63 (N_layRun_j74 fd fl rl rc x1 x3 x5 x6_46 0  Q Kh) (N_layRun_j74 fd fl rl rc x1 x3 x5 x6_46 1  Q Kh)))) (N_layRun_j74 fd fl rl rc x1 x3 x5 x6_46 1  Q Kh))) (ph_bo x4 (Q x4 rl rc))
def N_layRun_j20 (fd : Int → Int) (fl : Int) (rl : Int → Int) (rc : Int → Int) (x1 : Int) (x3 : Int) (s0 : Int) (Q : Int → (Int → Int) → (Int → Int) → Prop) : Prop :=
  ph_ix x1 24 (ph_nm (ph_u rl x1 x3) (fun rl_28 => ∃ kk, ph_it (fun _ _ _ => False) (N_layRun_l32 fd fl rl_28 x1 x3  Q) kk s0 0 rc))
def N_layRun_wp (fd : Int → Int) (fl : Int) (rl : Int → Int) (rc : Int → Int) (x1 : Int) (Q : Int → (Int → Int) → (Int → Int) → Prop) : Prop :=
  F_foundLength_wp fl (fun r_1 => ph_ix x1 24 (ph_eq (rl x1) r_1 (N_layRun_j20 fd fl rl rc x1 r_1 0  Q ) (N_layRun_j20 fd fl rl rc x1 r_1 1  Q )))
def N_addHung_wp (fd : Int → Int) (fl : Int) (nc : Int → Int) (na : Int → Int) (ns : Int → Int) (nu : Int → Int) (ai : Int → Int) (rl : Int → Int) (rc : Int → Int) (nn : Int) (x1 : Int) (x2 : Int) (x3 : Int) (Q : Int → (Int → Int) → (Int → Int) → (Int → Int) → (Int → Int) → (Int → Int) → (Int → Int) → (Int → Int) → (Int) → Prop) : Prop :=
  ph_ix x1 24 (N_add_wp nc na ns nu ai rl nn x2 x1 (ns x1) x3 (fun r_10 nc_10 na_10 ns_10 nu_10 ai_10 rl_10 nn_10 => N_layRun_wp fd fl rl_10 rc r_10 (fun r_20 rl_20 rc_20 => Q r_10 nc_10 na_10 ns_10 nu_10 ai_10 rl_20 rc_20 nn_10)))
def N_removeFrom_wp (nn : Int) (x1 : Int) (Q : Int → (Int) → Prop) : Prop :=
  ph_nm (nn - x1) (fun x2_6 => Q x2_6 x1)
def N_changeUnits_wp (nu : Int → Int) (x1 : Int) (x2 : Int) (Q : Int → (Int → Int) → Prop) : Prop :=
  ph_ix x1 24 (ph_nm (nu x1) (fun x3_6 => ph_ix x1 24 (ph_nm (ph_u nu x1 x2) (fun nu_13 => Q x3_6 nu_13))))
def N_changeAired_wp (ai : Int → Int) (x1 : Int) (x2 : Int) (Q : Int → (Int → Int) → Prop) : Prop :=
  ph_ix x1 24 (ph_nm (ai x1) (fun x3_6 => ph_bo x2 (ph_ix x1 24 (ph_nm (ph_u ai x1 x2) (fun ai_13 => ph_bo x3_6 (Q x3_6 ai_13))))))
def N_number_wp (nn : Int) (Q : Int → Prop) : Prop :=
  Q nn
def N_isMain_wp (na : Int → Int) (x1 : Int) (Q : Int → Prop) : Prop :=
  ph_ix x1 24 (ph_eq (na x1) (-1) (ph_bo 1 (Q 1)) (ph_bo 0 (Q 0)))
def N_isDrain_wp (ns : Int → Int) (x1 : Int) (Q : Int → Prop) : Prop :=
  ph_ix x1 24 (ph_eq (ns x1) 0 (ph_bo 1 (Q 1)) (ph_bo 0 (Q 0)))
def N_isAired_wp (ai : Int → Int) (x1 : Int) (Q : Int → Prop) : Prop :=
  ph_ix x1 24 (ph_bo (ai x1) (Q (ai x1)))
def N_hasTrap_wp (ns : Int → Int) (nu : Int → Int) (x1 : Int) (Q : Int → Prop) : Prop :=
  N_isDrain_wp ns x1 (fun r_2 => ph_eq r_2 0 (ph_bo 0 (Q 0)) (ph_ix x1 24 (ph_lt 0 (nu x1) (ph_bo 1 (Q 1)) (ph_bo 0 (Q 0)))))
def N_cellOf_wp (nc : Int → Int) (x1 : Int) (Q : Int → Prop) : Prop :=
  ph_ix x1 24 (Q (nc x1))
def N_aboveOf_wp (na : Int → Int) (x1 : Int) (Q : Int → Prop) : Prop :=
  ph_ix x1 24 (Q (na x1))
def N_cellAbove_wp (nc : Int → Int) (na : Int → Int) (x1 : Int) (Q : Int → Prop) : Prop :=
  ph_ix x1 24 (ph_nm (na x1) (fun x2_6 => ph_eq x2_6 (-1) (ph_ix x1 24 (Q (nc x1))) (ph_ix x2_6 24 (Q (nc x2_6)))))
def N_sortOf_wp (ns : Int → Int) (x1 : Int) (Q : Int → Prop) : Prop :=
  ph_ix x1 24 (Q (ns x1))
def N_unitsOf_wp (nu : Int → Int) (x1 : Int) (Q : Int → Prop) : Prop :=
  ph_ix x1 24 (Q (nu x1))
def N_cellsOfRun_wp (rl : Int → Int) (x1 : Int) (Q : Int → Prop) : Prop :=
  ph_ix x1 24 (Q (rl x1))
def N_hasRunCell_wp (rl : Int → Int) (x1 : Int) (x2 : Int) (Q : Int → Prop) : Prop :=
  ph_lt x2 0 (ph_bo 0 (Q 0)) (ph_ix x1 24 (ph_lt x2 (rl x1) (ph_bo 1 (Q 1)) (ph_bo 0 (Q 0))))
def N_runCell_wp (rc : Int → Int) (x1 : Int) (x2 : Int) (Q : Int → Prop) : Prop :=
  ph_ix ((x1 * 144) + x2) 3456 (Q (rc ((x1 * 144) + x2)))
def N_steps_wp (na : Int → Int) (rl : Int → Int) (x1 : Int) (Q : Int → Prop) : Prop :=
  N_isMain_wp na x1 (fun r_2 => ph_eq r_2 0 (ph_ix x1 24 (Q ((rl x1) - 1))) (Q 0))
def N_lengthOf_wp (na : Int → Int) (rl : Int → Int) (x1 : Int) (Q : Int → Prop) : Prop :=
  N_steps_wp na rl x1 (fun r_2 => Q (r_2 * 50))
def N_turnsOf_l4 (rl : Int → Int) (rc : Int → Int) (x1 : Int) (Q : Int → Prop) (Kh : Int → Int → Prop) (x2 : Int) (x3 : Int) : Prop :=
  ph_ix x1 24 (ph_lt x3 (rl x1) (N_runCell_wp rc x1 (x3 - 1) (fun r_19 => N_runCell_wp rc x1 (x3 - 2) (fun r_27 => ph_nm (r_19 - r_27) (fun x4_31 => N_runCell_wp rc x1 x3 (fun r_36 => N_runCell_wp rc x1 (x3 - 1) (fun r_44 => ph_eq (r_36 - r_44) x4_31 (ph_nm (x3 + 1) (fun x3_56 => Kh x2 x3_56)) (ph_nm (x2 + 1) (fun x2_53 => ph_nm (x3 + 1) (fun x3_56 => Kh x2_53 x3_56))))))))) (Q x2))
def N_turnsOf_wp (rl : Int → Int) (rc : Int → Int) (x1 : Int) (Q : Int → Prop) : Prop :=
  ∃ kk, ph_it (fun _ _ => False) (N_turnsOf_l4 rl rc x1  Q) kk 0 2
def N_lengthToAir_l7 (na : Int → Int) (ai : Int → Int) (rl : Int → Int) (Q : Int → Prop) (Kh : Int → Int → Int → Prop) (x2 : Int) (x3 : Int) (x4 : Int) : Prop :=
  ph_lt x4 24 (ph_eq x3 (-1) (Q x2) (ph_ix x3 24 (ph_eq (ai x3) 0 (N_lengthOf_wp na rl x3 (fun r_31 => ph_nm (x2 + r_31) (fun x2_35 => ph_ix x3 24 (ph_nm (na x3) (fun x3_42 => ph_nm (x4 + 1) (fun x4_43 => Kh x2_35 x3_42 x4_43)))))) (Q x2)))) (Q x2)
def N_lengthToAir_wp (na : Int → Int) (ai : Int → Int) (rl : Int → Int) (x1 : Int) (Q : Int → Prop) : Prop :=
  ∃ kk, ph_it (fun _ _ _ => False) (N_lengthToAir_l7 na ai rl  Q) kk 0 x1 0
def N_mains_l4 (na : Int → Int) (nn : Int) (Q : Int → Prop) (Kh : Int → Int → Prop) (x1 : Int) (x2 : Int) : Prop :=
  ph_lt x2 nn (N_isMain_wp na x2 (fun r_15 => ph_eq r_15 0 (ph_nm (x1 + 0) (fun x1_27 => ph_nm (x2 + 1) (fun x2_28 => Kh x1_27 x2_28))) (ph_nm (x1 + 1) (fun x1_27 => ph_nm (x2 + 1) (fun x2_28 => Kh x1_27 x2_28))))) (Q x1)
def N_mains_wp (na : Int → Int) (nn : Int) (Q : Int → Prop) : Prop :=
  ∃ kk, ph_it (fun _ _ => False) (N_mains_l4 na nn  Q) kk 0 0
def N_traps_l4 (ns : Int → Int) (nu : Int → Int) (nn : Int) (Q : Int → Prop) (Kh : Int → Int → Prop) (x1 : Int) (x2 : Int) : Prop :=
  ph_lt x2 nn (N_hasTrap_wp ns nu x2 (fun r_15 => ph_eq r_15 0 (ph_nm (x1 + 0) (fun x1_27 => ph_nm (x2 + 1) (fun x2_28 => Kh x1_27 x2_28))) (ph_nm (x1 + 1) (fun x1_27 => ph_nm (x2 + 1) (fun x2_28 => Kh x1_27 x2_28))))) (Q x1)
def N_traps_wp (ns : Int → Int) (nu : Int → Int) (nn : Int) (Q : Int → Prop) : Prop :=
  ∃ kk, ph_it (fun _ _ => False) (N_traps_l4 ns nu nn  Q) kk 0 0
def N_lengthOfAll_l4 (na : Int → Int) (rl : Int → Int) (nn : Int) (Q : Int → Prop) (Kh : Int → Int → Prop) (x1 : Int) (x2 : Int) : Prop :=
  ph_lt x2 nn (N_lengthOf_wp na rl x2 (fun r_15 => ph_nm (x1 + r_15) (fun x1_19 => ph_nm (x2 + 1) (fun x2_20 => Kh x1_19 x2_20)))) (Q x1)
def N_lengthOfAll_wp (na : Int → Int) (rl : Int → Int) (nn : Int) (Q : Int → Prop) : Prop :=
  ∃ kk, ph_it (fun _ _ => False) (N_lengthOfAll_l4 na rl nn  Q) kk 0 0
def N_turnsOfAll_l4 (rl : Int → Int) (rc : Int → Int) (nn : Int) (Q : Int → Prop) (Kh : Int → Int → Prop) (x1 : Int) (x2 : Int) : Prop :=
  ph_lt x2 nn (N_turnsOf_wp rl rc x2 (fun r_15 => ph_nm (x1 + r_15) (fun x1_19 => ph_nm (x2 + 1) (fun x2_20 => Kh x1_19 x2_20)))) (Q x1)
def N_turnsOfAll_wp (rl : Int → Int) (rc : Int → Int) (nn : Int) (Q : Int → Prop) : Prop :=
  ∃ kk, ph_it (fun _ _ => False) (N_turnsOfAll_l4 rl rc nn  Q) kk 0 0
def V_allows_wp (x0 : Int) (x1 : Int) (Q : Int → Prop) : Prop :=
  ph_lt x0 0 (ph_bo 0 (Q 0)) (ph_lt x0 4 (ph_ix x0 4 (ph_lt x1 (ph_least x0) (ph_bo 0 (Q 0)) (ph_ix x0 4 (ph_lt (ph_most x0) x1 (ph_bo 0 (Q 0)) (ph_bo 1 (Q 1)))))) (ph_bo 0 (Q 0)))
def V_allowsLimit_wp (x0 : Int) (x1 : Int) (Q : Int → Prop) : Prop :=
  ph_lt x0 0 (ph_bo 0 (Q 0)) (ph_lt x0 6 (ph_lt x1 1 (ph_bo 0 (Q 0)) (ph_lt 2000 x1 (ph_bo 0 (Q 0)) (ph_bo 1 (Q 1)))) (ph_bo 0 (Q 0)))
def V_changeValue_wp (rv : Int → Int) (x1 : Int) (x2 : Int) (Q : Int → (Int → Int) → Prop) : Prop :=
  ph_ix x1 4 (ph_nm (rv x1) (fun x3_6 => ph_ix x1 4 (ph_nm (ph_u rv x1 x2) (fun rv_13 => Q x3_6 rv_13))))
def V_wouldRise_j16 (li : Int → Int) (x1 : Int) (x2 : Int) (Q : Int → Prop) : Prop :=
  ph_eq x1 5 (ph_bo 1 (Q 1)) (ph_ix (x1 + 1) 6 (ph_lt x2 (li (x1 + 1)) (ph_bo 1 (Q 1)) (ph_bo 0 (Q 0))))
def V_wouldRise_wp (li : Int → Int) (x1 : Int) (x2 : Int) (Q : Int → Prop) : Prop :=
  ph_eq x1 0 (V_wouldRise_j16 li x1 x2  Q ) (ph_ix (x1 - 1) 6 (ph_lt (li (x1 - 1)) x2 (V_wouldRise_j16 li x1 x2  Q ) (ph_bo 0 (Q 0))))
def V_changeLimit_wp (li : Int → Int) (x1 : Int) (x2 : Int) (Q : Int → (Int → Int) → Prop) : Prop :=
  ph_ix x1 6 (ph_nm (li x1) (fun x3_6 => ph_ix x1 6 (ph_nm (ph_u li x1 x2) (fun li_13 => Q x3_6 li_13))))
def V_slope_wp (rv : Int → Int) (Q : Int → Prop) : Prop :=
  ph_ix 0 4 (Q (rv 0))
def V_cover_wp (rv : Int → Int) (Q : Int → Prop) : Prop :=
  ph_ix 1 4 (Q (rv 1))
def V_reach_wp (rv : Int → Int) (Q : Int → Prop) : Prop :=
  ph_ix 2 4 (Q (rv 2))
def V_bar_wp (rv : Int → Int) (Q : Int → Prop) : Prop :=
  ph_ix 3 4 (Q (rv 3))
def V_sizeFor_l8 (li : Int → Int) (x1 : Int) (Q : Int → Prop) (Kh : Int → Prop) (x3 : Int) : Prop :=
  ph_lt x3 6 (ph_ix x3 6 (ph_lt (li x3) x1 (ph_nm (x3 + 1) (fun x3_26 => Kh x3_26)) (Q x3))) (Q (-1))
def V_sizeFor_wp (li : Int → Int) (x1 : Int) (x2 : Int) (Q : Int → Prop) : Prop :=
  ph_lt x2 0 (Q (-1)) (∃ kk, ph_it (fun _ => False) (V_sizeFor_l8 li x1  Q) kk x2)
def K_wider_wp (x0 : Int) (x1 : Int) (Q : Int → Prop) : Prop :=
  ph_eq x0 (-1) (Q (-1)) (ph_eq x1 (-1) (Q (-1)) (ph_r2 x0 x1 (Q (max x0 x1))))
def K_settleSizes_l2 (na : Int → Int) (nu : Int → Int) (nn : Int) (li : Int → Int) (Ke34 : (Int → Int) → (Int → Int) → Prop) (Q : (Int → Int) → (Int → Int) → Prop) (Kh : Int → (Int → Int) → (Int → Int) → Prop) (x3 : Int) (ld : Int → Int) (sz : Int → Int) : Prop :=
  N_number_wp nn (fun r_4 => ph_lt x3 r_4 (N_unitsOf_wp nu x3 (fun r_17 => ph_ix x3 24 (ph_nm (ph_u ld x3 r_17) (fun ld_20 => ph_ix x3 24 (ph_nm (ph_u sz x3 0) (fun sz_27 => ph_nm (x3 + 1) (fun x3_28 => Kh x3_28 ld_20 sz_27))))))) (Ke34 ld sz))
def K_settleSizes_l41 (na : Int → Int) (nu : Int → Int) (nn : Int) (li : Int → Int) (Q : (Int → Int) → (Int → Int) → Prop) (Kh : Int → (Int → Int) → (Int → Int) → Prop) (x3 : Int) (ld : Int → Int) (sz : Int → Int) : Prop :=
  ph_lt x3 0 (Q ld sz) (N_aboveOf_wp na x3 (fun r_47 => ph_eq r_47 (-1) (ph_nm (x3 + (-1)) (fun x3_119 => Kh x3_119 ld sz)) (ph_ix x3 24 (ph_ix x3 24 (V_sizeFor_wp li (ld x3) (sz x3) (fun r_76 => ph_ix x3 24 (ph_nm (ph_u sz x3 r_76) (fun sz_79 => ph_ix r_47 24 (ph_ix x3 24 (ph_ix r_47 24 (ph_nm (ph_u ld r_47 ((ld r_47) + (ld x3))) (fun ld_95 => ph_ix r_47 24 (ph_ix x3 24 (K_wider_wp (sz_79 r_47) (sz_79 x3) (fun r_115 => ph_ix r_47 24 (ph_nm (ph_u sz_79 r_47 r_115) (fun sz_118 => ph_nm (x3 + (-1)) (fun x3_119 => Kh x3_119 ld_95 sz_118))))))))))))))))))
def K_settleSizes_wp (na : Int → Int) (nu : Int → Int) (nn : Int) (li : Int → Int) (ld : Int → Int) (sz : Int → Int) (Q : (Int → Int) → (Int → Int) → Prop) : Prop :=
  ∃ kk, ph_it (fun _ _ _ => False) (K_settleSizes_l2 na nu nn li (fun ld_34 sz_34 => N_number_wp nn (fun r_35 => ph_nm (r_35 - 1) (fun x3_40 => ∃ kk, ph_it (fun _ _ _ => False) (K_settleSizes_l41 na nu nn li  Q) kk x3_40 ld_34 sz_34))) Q) kk 0 ld sz
def K_settleLevels_j68 (na : Int → Int) (ns : Int → Int) (rl : Int → Int) (nn : Int) (rv : Int → Int) (lo : Int → Int) (ri : Int) (x3 : Int) (s0 : Int) (s1 : Int) (Q : (Int → Int) → (Int) → Prop) (Kh : Int → (Int → Int) → Prop) : Prop :=
  ph_ix s0 24 (ph_nm (ph_u lo s0 s1) (fun lo_68 => ph_nm (x3 + 1) (fun x3_69 => Kh x3_69 lo_68)))
def K_settleLevels_l12 (na : Int → Int) (ns : Int → Int) (rl : Int → Int) (nn : Int) (rv : Int → Int) (ri : Int) (Q : (Int → Int) → (Int) → Prop) (Kh : Int → (Int → Int) → Prop) (x3 : Int) (lo : Int → Int) : Prop :=
  N_number_wp nn (fun r_14 => ph_lt x3 r_14 (N_aboveOf_wp na x3 (fun r_22 => ph_eq r_22 (-1) (K_settleLevels_j68 na ns rl nn rv lo ri x3 x3 0  Q Kh) (N_isDrain_wp ns x3 (fun r_40 => ph_eq r_40 0 (K_settleLevels_j68 na ns rl nn rv lo ri x3 x3 0  Q Kh) (ph_ix r_22 24 (N_steps_wp na rl x3 (fun r_63 => K_settleLevels_j68 na ns rl nn rv lo ri x3 x3 ((lo r_22) + (ri * r_63))  Q Kh))))))) (Q lo ri))
def K_settleLevels_wp (na : Int → Int) (ns : Int → Int) (rl : Int → Int) (nn : Int) (rv : Int → Int) (lo : Int → Int) (ri : Int) (Q : (Int → Int) → (Int) → Prop) : Prop :=
  V_slope_wp rv (fun r_3 => ph_nm (5 * r_3) (fun ri_7 => ∃ kk, ph_it (fun _ _ => False) (K_settleLevels_l12 na ns rl nn rv ri_7  Q) kk 0 lo))
def K_settle_wp (na : Int → Int) (ns : Int → Int) (nu : Int → Int) (rl : Int → Int) (nn : Int) (rv : Int → Int) (li : Int → Int) (ld : Int → Int) (sz : Int → Int) (lo : Int → Int) (ri : Int) (Q : (Int → Int) → (Int → Int) → (Int → Int) → (Int) → Prop) : Prop :=
  K_settleSizes_wp na nu nn li ld sz (fun ld_3 sz_3 => K_settleLevels_wp na ns rl nn rv lo ri (fun lo_9 ri_9 => Q ld_3 sz_3 lo_9 ri_9))
def K_loadOf_wp (ld : Int → Int) (x1 : Int) (Q : Int → Prop) : Prop :=
  ph_ix x1 24 (Q (ld x1))
def K_sizeOf_wp (sz : Int → Int) (x1 : Int) (Q : Int → Prop) : Prop :=
  ph_ix x1 24 (Q (sz x1))
def K_levelAt_wp (lo : Int → Int) (ri : Int) (x1 : Int) (x2 : Int) (Q : Int → Prop) : Prop :=
  ph_ix x1 24 (Q ((lo x1) - (ri * x2)))
def K_isSafe_wp (na : Int → Int) (ns : Int → Int) (nu : Int → Int) (ai : Int → Int) (rl : Int → Int) (rv : Int → Int) (sz : Int → Int) (x3 : Int) (Q : Int → Prop) : Prop :=
  N_hasTrap_wp ns nu x3 (fun r_2 => ph_eq r_2 0 (ph_bo 0 (Q 0)) (N_isMain_wp na x3 (fun r_12 => ph_eq r_12 0 (ph_ix x3 24 (ph_eq (sz x3) (-1) (ph_bo 0 (Q 0)) (N_lengthToAir_wp na ai rl x3 (fun r_32 => V_reach_wp rv (fun r_36 => ph_ix x3 24 (ph_lt (r_36 * ((sz x3) + 1)) r_32 (ph_bo 0 (Q 0)) (ph_bo 1 (Q 1)))))))) (ph_bo 1 (Q 1)))))
def K_secondsOf_l34 (na : Int → Int) (ns : Int → Int) (nu : Int → Int) (rl : Int → Int) (sz : Int → Int) (x2 : Int) (Ke103 : Int → Prop) (Q : Int → Prop) (Kh : Int → Int → Int → Prop) (x3 : Int) (x4 : Int) (x5 : Int) : Prop :=
  ph_lt x5 24 (N_isMain_wp na x4 (fun r_44 => ph_eq r_44 0 (ph_ix x4 24 (ph_eq (sz x4) (-1) (Q (-1)) (ph_ix x4 24 (ph_nm ((sz x4) + 1) (fun x6_72 => N_lengthOf_wp na rl x4 (fun r_78 => ph_nm (x3 + ((r_78 * x6_72) * x6_72)) (fun x3_88 => N_aboveOf_wp na x4 (fun r_92 => ph_nm (x5 + 1) (fun x5_97 => Kh x3_88 r_92 x5_97))))))))) (Ke103 x3))) (Ke103 x3)
def K_secondsOf_j103 (na : Int → Int) (ns : Int → Int) (nu : Int → Int) (rl : Int → Int) (sz : Int → Int) (x2 : Int) (x3 : Int) (Q : Int → Prop) : Prop :=
  N_unitsOf_wp nu x2 (fun r_108 => ph_dv x3 (40 * r_108) (Q (x3 / (40 * r_108))))
def K_secondsOf_wp (na : Int → Int) (ns : Int → Int) (nu : Int → Int) (rl : Int → Int) (sz : Int → Int) (x2 : Int) (Q : Int → Prop) : Prop :=
  N_isMain_wp na x2 (fun r_2 => ph_eq r_2 0 (N_isDrain_wp ns x2 (fun r_10 => ph_eq r_10 0 (N_unitsOf_wp nu x2 (fun r_18 => ph_lt 0 r_18 (∃ kk, ph_it (fun _ _ _ => False) (K_secondsOf_l34 na ns nu rl sz x2 (fun x3_103 => K_secondsOf_j103 na ns nu rl sz x2 x3_103  Q ) Q) kk 0 x2 0) (Q (-1)))) (Q (-1)))) (Q (-1)))
def K_runsOfSize_l5 (na : Int → Int) (nn : Int) (sz : Int → Int) (x2 : Int) (Q : Int → Prop) (Kh : Int → Int → Prop) (x3 : Int) (x4 : Int) : Prop :=
  N_number_wp nn (fun r_8 => ph_lt x4 r_8 (N_isMain_wp na x4 (fun r_18 => ph_eq r_18 0 (ph_ix x4 24 (ph_eq (sz x4) x2 (ph_nm (x3 + 1) (fun x3_41 => ph_nm (x4 + 1) (fun x4_42 => Kh x3_41 x4_42))) (ph_nm (x3 + 0) (fun x3_41 => ph_nm (x4 + 1) (fun x4_42 => Kh x3_41 x4_42))))) (ph_nm (x3 + 0) (fun x3_41 => ph_nm (x4 + 1) (fun x4_42 => Kh x3_41 x4_42))))) (Q x3))
def K_runsOfSize_wp (na : Int → Int) (nn : Int) (sz : Int → Int) (x2 : Int) (Q : Int → Prop) : Prop :=
  ∃ kk, ph_it (fun _ _ => False) (K_runsOfSize_l5 na nn sz x2  Q) kk 0 0
def K_safeTraps_l5 (na : Int → Int) (ns : Int → Int) (nu : Int → Int) (ai : Int → Int) (rl : Int → Int) (nn : Int) (rv : Int → Int) (sz : Int → Int) (Q : Int → Prop) (Kh : Int → Int → Prop) (x3 : Int) (x4 : Int) : Prop :=
  N_number_wp nn (fun r_8 => ph_lt x4 r_8 (K_isSafe_wp na ns nu ai rl rv sz x4 (fun r_20 => ph_eq r_20 0 (ph_nm (x3 + 0) (fun x3_32 => ph_nm (x4 + 1) (fun x4_33 => Kh x3_32 x4_33))) (ph_nm (x3 + 1) (fun x3_32 => ph_nm (x4 + 1) (fun x4_33 => Kh x3_32 x4_33))))) (Q x3))
def K_safeTraps_wp (na : Int → Int) (ns : Int → Int) (nu : Int → Int) (ai : Int → Int) (rl : Int → Int) (nn : Int) (rv : Int → Int) (sz : Int → Int) (Q : Int → Prop) : Prop :=
  ∃ kk, ph_it (fun _ _ => False) (K_safeTraps_l5 na ns nu ai rl nn rv sz  Q) kk 0 0
def K_mostSeconds_l4 (na : Int → Int) (ns : Int → Int) (nu : Int → Int) (rl : Int → Int) (nn : Int) (sz : Int → Int) (Q : Int → Prop) (Kh : Int → Int → Prop) (x2 : Int) (x3 : Int) : Prop :=
  N_number_wp nn (fun r_6 => ph_lt x3 r_6 (K_secondsOf_wp na ns nu rl sz x3 (fun r_16 => ph_r2 x2 r_16 (ph_nm (max x2 r_16) (fun x2_22 => ph_nm (x3 + 1) (fun x3_23 => Kh x2_22 x3_23))))) (Q x2))
def K_mostSeconds_wp (na : Int → Int) (ns : Int → Int) (nu : Int → Int) (rl : Int → Int) (nn : Int) (sz : Int → Int) (Q : Int → Prop) : Prop :=
  ∃ kk, ph_it (fun _ _ => False) (K_mostSeconds_l4 na ns nu rl nn sz  Q) kk (-1) 0
def C_isDrainRun_wp (na : Int → Int) (ns : Int → Int) (x1 : Int) (Q : Int → Prop) : Prop :=
  N_isDrain_wp ns x1 (fun r_2 => ph_eq r_2 0 (ph_bo 0 (Q 0)) (N_isMain_wp na x1 (fun r_10 => ph_eq r_10 0 (ph_bo 1 (Q 1)) (ph_bo 0 (Q 0)))))
def C_mark_l3 (rl : Int → Int) (rc : Int → Int) (lo : Int → Int) (ri : Int) (x3 : Int) (Q : (Int → Int) → Prop) (Kh : Int → (Int → Int) → Prop) (x4 : Int) (lc : Int → Int) : Prop :=
  N_cellsOfRun_wp rl x3 (fun r_7 => ph_lt x4 r_7 (N_runCell_wp rc x3 x4 (fun r_21 => K_levelAt_wp lo ri x3 x4 (fun r_28 => ph_ix r_21 144 (ph_nm (ph_u lc r_21 r_28) (fun lc_31 => ph_nm (x4 + 1) (fun x4_32 => Kh x4_32 lc_31)))))) (Q lc))
def C_mark_wp (rl : Int → Int) (rc : Int → Int) (lo : Int → Int) (ri : Int) (lc : Int → Int) (x3 : Int) (Q : (Int → Int) → Prop) : Prop :=
  ∃ kk, ph_it (fun _ _ => False) (C_mark_l3 rl rc lo ri x3  Q) kk 0 lc
def C_areJoined_wp (na : Int → Int) (x1 : Int) (x2 : Int) (Q : Int → Prop) : Prop :=
  N_aboveOf_wp na x1 (fun r_2 => ph_eq r_2 x2 (ph_bo 1 (Q 1)) (N_aboveOf_wp na x2 (fun r_11 => ph_eq r_11 x1 (ph_bo 1 (Q 1)) (N_aboveOf_wp na x1 (fun r_20 => N_aboveOf_wp na x2 (fun r_25 => ph_eq r_20 r_25 (ph_bo 1 (Q 1)) (ph_bo 0 (Q 0))))))))
def C_leastCommonCell_j65 (rl : Int → Int) (rc : Int → Int) (lo : Int → Int) (ri : Int) (lc : Int → Int) (x3 : Int) (x4 : Int) (x5 : Int) (x6 : Int) (x7 : Int) (s0 : Int) (Q : Int → Prop) (Kh : Int → Int → Prop) : Prop :=
  ph_eq s0 0 (ph_nm (x6 + 1) (fun x6_89 => Kh x5 x6_89)) (ph_eq x5 (-1) (ph_nm (x6 + 1) (fun x6_89 => Kh x7 x6_89)) (ph_lt x7 x5 (ph_nm (x6 + 1) (fun x6_89 => Kh x7 x6_89)) (ph_nm (x6 + 1) (fun x6_89 => Kh x5 x6_89))))
def C_leastCommonCell_l6 (rl : Int → Int) (rc : Int → Int) (lo : Int → Int) (ri : Int) (lc : Int → Int) (x3 : Int) (x4 : Int) (Q : Int → Prop) (Kh : Int → Int → Prop) (x5 : Int) (x6 : Int) : Prop :=
  N_cellsOfRun_wp rl x4 (fun r_11 => ph_lt x6 r_11 (N_runCell_wp rc x4 x6 (fun r_22 => ph_ix r_22 144 (ph_nm (lc r_22) (fun x8_34 => ph_eq x8_34 (-1) (C_leastCommonCell_j65 rl rc lo ri lc x3 x4 x5 x6 r_22 0  Q Kh) (K_levelAt_wp lo ri x4 x6 (fun r_49 => ph_rr (x8_34 - r_49) (ph_lt (ph_ab (x8_34 - r_49)) x3 (C_leastCommonCell_j65 rl rc lo ri lc x3 x4 x5 x6 r_22 1  Q Kh) (C_leastCommonCell_j65 rl rc lo ri lc x3 x4 x5 x6 r_22 0  Q Kh)))))))) (Q x5))
def C_leastCommonCell_wp (rl : Int → Int) (rc : Int → Int) (lo : Int → Int) (ri : Int) (lc : Int → Int) (x3 : Int) (x4 : Int) (Q : Int → Prop) : Prop :=
  ∃ kk, ph_it (fun _ _ => False) (C_leastCommonCell_l6 rl rc lo ri lc x3 x4  Q) kk (-1) 0
def C_keepIfFirst_wp (cp : Int) (c1 : Int) (c2 : Int) (c3 : Int) (x1 : Int) (x2 : Int) (x3 : Int) (Q : (Int) → (Int) → (Int) → Prop) : Prop :=
  ph_eq cp 0 (Q x1 x2 x3) (Q c1 c2 c3)
def C_searchAbove_l6 (na : Int → Int) (ns : Int → Int) (rl : Int → Int) (rc : Int → Int) (nn : Int) (lo : Int → Int) (ri : Int) (lc : Int → Int) (x3 : Int) (x4 : Int) (Q : (Int) → (Int) → (Int) → (Int) → Prop) (Kh : Int → (Int) → (Int) → (Int) → (Int) → Prop) (x5 : Int) (cp : Int) (c1 : Int) (c2 : Int) (c3 : Int) : Prop :=
  N_number_wp nn (fun r_9 => ph_lt x5 r_9 (C_isDrainRun_wp na ns x5 (fun r_18 => ph_eq r_18 0 (ph_nm (x5 + 1) (fun x5_75 => Kh x5_75 cp c1 c2 c3)) (C_areJoined_wp na x4 x5 (fun r_29 => ph_eq r_29 0 (C_leastCommonCell_wp rl rc lo ri lc x3 x5 (fun r_44 => ph_eq r_44 (-1) (ph_nm (x5 + 1) (fun x5_75 => Kh x5_75 cp c1 c2 c3)) (C_keepIfFirst_wp cp c1 c2 c3 x4 x5 r_44 (fun c1_62 c2_62 c3_62 => ph_nm (cp + 1) (fun cp_72 => ph_nm (x5 + 1) (fun x5_75 => Kh x5_75 cp_72 c1_62 c2_62 c3_62)))))) (ph_nm (x5 + 1) (fun x5_75 => Kh x5_75 cp c1 c2 c3)))))) (Q cp c1 c2 c3))
def C_searchAbove_wp (na : Int → Int) (ns : Int → Int) (rl : Int → Int) (rc : Int → Int) (nn : Int) (lo : Int → Int) (ri : Int) (lc : Int → Int) (cp : Int) (c1 : Int) (c2 : Int) (c3 : Int) (x3 : Int) (x4 : Int) (Q : (Int) → (Int) → (Int) → (Int) → Prop) : Prop :=
  ph_nm (x4 + 1) (fun x5_4 => ∃ kk, ph_it (fun _ _ _ _ _ => False) (C_searchAbove_l6 na ns rl rc nn lo ri lc x3 x4  Q) kk x5_4 cp c1 c2 c3)
def C_unmark_l2 (rl : Int → Int) (rc : Int → Int) (x2 : Int) (Q : (Int → Int) → Prop) (Kh : Int → (Int → Int) → Prop) (x3 : Int) (lc : Int → Int) : Prop :=
  N_cellsOfRun_wp rl x2 (fun r_5 => ph_lt x3 r_5 (N_runCell_wp rc x2 x3 (fun r_18 => ph_ix r_18 144 (ph_nm (ph_u lc r_18 (-1)) (fun lc_22 => ph_nm (x3 + 1) (fun x3_23 => Kh x3_23 lc_22))))) (Q lc))
def C_unmark_wp (rl : Int → Int) (rc : Int → Int) (lc : Int → Int) (x2 : Int) (Q : (Int → Int) → Prop) : Prop :=
  ∃ kk, ph_it (fun _ _ => False) (C_unmark_l2 rl rc x2  Q) kk 0 lc
def C_search_l23 (na : Int → Int) (ns : Int → Int) (rl : Int → Int) (rc : Int → Int) (nn : Int) (lo : Int → Int) (ri : Int) (x3 : Int) (Q : (Int → Int) → (Int) → (Int) → (Int) → (Int) → Prop) (Kh : Int → (Int → Int) → (Int) → (Int) → (Int) → (Int) → Prop) (x4 : Int) (lc : Int → Int) (cp : Int) (c1 : Int) (c2 : Int) (c3 : Int) : Prop :=
  N_number_wp nn (fun r_26 => ph_lt x4 r_26 (C_isDrainRun_wp na ns x4 (fun r_35 => ph_eq r_35 0 (ph_nm (x4 + 1) (fun x4_65 => Kh x4_65 lc cp c1 c2 c3)) (C_mark_wp rl rc lo ri lc x4 (fun lc_46 => C_searchAbove_wp na ns rl rc nn lo ri lc_46 cp c1 c2 c3 x3 x4 (fun cp_55 c1_55 c2_55 c3_55 => C_unmark_wp rl rc lc_46 x4 (fun lc_62 => ph_nm (x4 + 1) (fun x4_65 => Kh x4_65 lc_62 cp_55 c1_55 c2_55 c3_55))))))) (Q lc cp c1 c2 c3))
def C_search_wp (na : Int → Int) (ns : Int → Int) (rl : Int → Int) (rc : Int → Int) (nn : Int) (lo : Int → Int) (ri : Int) (lc : Int → Int) (cp : Int) (c1 : Int) (c2 : Int) (c3 : Int) (x3 : Int) (Q : (Int → Int) → (Int) → (Int) → (Int) → (Int) → Prop) : Prop :=
  ∃ kk, ph_it (fun _ _ _ _ _ _ => False) (C_search_l23 na ns rl rc nn lo ri x3  Q) kk 0 lc 0 (-1) (-1) (-1)
def C_pairs_wp (cp : Int) (Q : Int → Prop) : Prop :=
  Q cp
def C_firstNode_wp (c1 : Int) (Q : Int → Prop) : Prop :=
  Q c1
def C_otherNode_wp (c2 : Int) (Q : Int → Prop) : Prop :=
  Q c2
def C_firstCell_wp (c3 : Int) (Q : Int → Prop) : Prop :=
  Q c3
def S_take_j63 (pi : Int → Int) (ps : Int) (wb : Int) (lp : Int) (ba : Int) (x2 : Int) (Q : (Int → Int) → (Int) → (Int) → (Int) → Prop) : Prop :=
  ph_nm (lp + x2) (fun lp_70 => ph_nm (ps + 1) (fun ps_80 => Q pi ps_80 wb lp_70))
def S_take_j39 (pi : Int → Int) (ps : Int) (wb : Int) (lp : Int) (ba : Int) (x2 : Int) (Q : (Int → Int) → (Int) → (Int) → (Int) → Prop) : Prop :=
  ph_eq x2 0 (Q pi ps wb lp) (ph_lt ps 12 (ph_ix ps 12 (ph_nm (ph_u pi ps x2) (fun pi_62 => S_take_j63 pi_62 ps wb lp ba x2  Q ))) (S_take_j63 pi ps wb lp ba x2  Q ))
def S_take_wp (pi : Int → Int) (ps : Int) (wb : Int) (lp : Int) (ba : Int) (x1 : Int) (Q : (Int → Int) → (Int) → (Int) → (Int) → Prop) : Prop :=
  ph_lt 0 ba (ph_lt ba x1 (ph_dv x1 ba (ph_nm (wb + (x1 / ba)) (fun wb_29 => ph_dv x1 ba (ph_nm (x1 % ba) (fun x2_38 => S_take_j39 pi ps wb_29 lp ba x2_38  Q ))))) (S_take_j39 pi ps wb lp ba x1  Q )) (S_take_j39 pi ps wb lp ba x1  Q )
def S_gather_l24 (na : Int → Int) (rl : Int → Int) (nn : Int) (sz : Int → Int) (ba : Int) (x3 : Int) (Q : (Int → Int) → (Int) → (Int) → (Int) → (Int) → Prop) (Kh : Int → (Int → Int) → (Int) → (Int) → (Int) → Prop) (x5 : Int) (pi : Int → Int) (ps : Int) (wb : Int) (lp : Int) : Prop :=
  N_number_wp nn (fun r_27 => ph_lt x5 r_27 (N_isMain_wp na x5 (fun r_36 => ph_eq r_36 0 (K_sizeOf_wp sz x5 (fun r_45 => ph_eq r_45 x3 (N_lengthOf_wp na rl x5 (fun r_56 => S_take_wp pi ps wb lp ba r_56 (fun pi_59 ps_59 wb_59 lp_59 => ph_nm (x5 + 1) (fun x5_62 => Kh x5_62 pi_59 ps_59 wb_59 lp_59)))) (ph_nm (x5 + 1) (fun x5_62 => Kh x5_62 pi ps wb lp)))) (ph_nm (x5 + 1) (fun x5_62 => Kh x5_62 pi ps wb lp)))) (Q pi ps wb lp ba))
def S_gather_wp (na : Int → Int) (rl : Int → Int) (nn : Int) (sz : Int → Int) (pi : Int → Int) (ps : Int) (wb : Int) (lp : Int) (ba : Int) (x3 : Int) (x4 : Int) (Q : (Int → Int) → (Int) → (Int) → (Int) → (Int) → Prop) : Prop :=
  ∃ kk, ph_it (fun _ _ _ _ _ => False) (S_gather_l24 na rl nn sz x4 x3  Q) kk 0 pi 0 0 0
def S_pieces_wp (ps : Int) (Q : Int → Prop) : Prop :=
  Q ps
def S_hasTooMany_wp (ps : Int) (Q : Int → Prop) : Prop :=
  ph_lt 12 ps (ph_bo 1 (Q 1)) (ph_bo 0 (Q 0))
def S_cutNext_wp (ba : Int) (x1 : Int) (x2 : Int) (Q : Int → Prop) : Prop :=
  ph_dv x1 4096 (ph_nm (x1 % 4096) (fun x3_5 => ph_lt ba (x3_5 + x2) (Q (((x1 - x3_5) + 4096) + x2)) (Q (x1 + x2))))
def S_bestCutting_l6 (pi : Int → Int) (be : Int → Int) (ba : Int) (x1 : Int) (x2 : Int) (Q : Int → Prop) (Kh : Int → Int → Prop) (x3 : Int) (x4 : Int) : Prop :=
  ph_lt x4 x2 (ph_nm (ph_shl 1 x4) (fun x5_16 => ph_eq (ph_and x1 x5_16) 0 (ph_nm (x4 + 1) (fun x4_50 => Kh x3 x4_50)) (ph_ix (ph_xor x1 x5_16) 4096 (ph_ix x4 12 (S_cutNext_wp ba (be (ph_xor x1 x5_16)) (pi x4) (fun r_43 => ph_r2 x3 r_43 (ph_nm (min x3 r_43) (fun x3_49 => ph_nm (x4 + 1) (fun x4_50 => Kh x3_49 x4_50))))))))) (Q x3)
def S_bestCutting_wp (pi : Int → Int) (be : Int → Int) (ba : Int) (x1 : Int) (x2 : Int) (Q : Int → Prop) : Prop :=
  ∃ kk, ph_it (fun _ _ => False) (S_bestCutting_l6 pi be ba x1 x2  Q) kk 53248 0
def S_barsForPieces_l28 (pi : Int → Int) (ps : Int) (ba : Int) (x1 : Int) (x2 : Int) (Ke51 : (Int → Int) → Prop) (Q : Int → (Int → Int) → Prop) (Kh : Int → (Int → Int) → Prop) (x3 : Int) (be : Int → Int) : Prop :=
  ph_lt x2 x3 (Ke51 be) (S_bestCutting_wp pi be ba x3 x1 (fun r_41 => ph_ix x3 4096 (ph_nm (ph_u be x3 r_41) (fun be_44 => ph_nm (x3 + 1) (fun x3_45 => Kh x3_45 be_44)))))
def S_barsForPieces_wp (pi : Int → Int) (be : Int → Int) (ps : Int) (ba : Int) (Q : Int → (Int → Int) → Prop) : Prop :=
  ph_r2 ps 12 (ph_nm (min ps 12) (fun x1_9 => ph_nm ((ph_shl 1 x1_9) - 1) (fun x2_15 => ph_ix 0 4096 (ph_nm (ph_u be 0 ba) (fun be_25 => ∃ kk, ph_it (fun _ _ => False) (S_barsForPieces_l28 pi ps ba x1_9 x2_15 (fun be_51 => ph_ix x2_15 4096 (ph_dv (be_51 x2_15) 4096 (Q ((be_51 x2_15) / 4096) be_51))) Q) kk 1 be_25)))))
def S_fewestBars_wp (pi : Int → Int) (be : Int → Int) (ps : Int) (wb : Int) (ba : Int) (Q : Int → (Int → Int) → Prop) : Prop :=
  S_barsForPieces_wp pi be ps ba (fun r_5 be_5 => Q (wb + r_5) be_5)
def S_waste_wp (pi : Int → Int) (be : Int → Int) (ps : Int) (lp : Int) (ba : Int) (Q : Int → (Int → Int) → Prop) : Prop :=
  S_barsForPieces_wp pi be ps ba (fun r_1 be_1 => Q ((r_1 * ba) - lp) be_1)
def H_isOutside_wp (x0 : Int) (x1 : Int) (Q : Int → Prop) : Prop :=
  ph_lt x0 0 (ph_bo 1 (Q 1)) (ph_lt x1 x0 (ph_bo 1 (Q 1)) (ph_bo 0 (Q 0)))
def H_price_wp (pr : Int → Int) (x1 : Int) (x2 : Int) (Q : Int → (Int → Int) → Prop) : Prop :=
  F_holds_wp x1 (fun r_1 => ph_eq r_1 0 (Q (-1001) pr) (H_isOutside_wp x2 9 (fun r_14 => ph_eq r_14 0 (F_changePrice_wp pr x1 x2 (fun r_30 pr_30 => Q r_30 pr_30)) (Q (-1002) pr))))
def H_cheapest_wp (pr : Int → Int) (lf : Int → Int) (rg : Int → Int) (nx : Int → Int) (fd : Int → Int) (wt : Int) (fl : Int) (fp : Int) (x1 : Int) (x2 : Int) (Q : Int → (Int → Int) → (Int → Int) → (Int → Int) → (Int → Int) → (Int) → (Int) → (Int) → Prop) : Prop :=
  F_holds_wp x1 (fun r_1 => ph_eq r_1 0 (Q (-1001) lf rg nx fd wt fl fp) (F_holds_wp x2 (fun r_8 => ph_eq r_8 0 (Q (-1001) lf rg nx fd wt fl fp) (F_find_wp pr lf rg nx fd wt fl fp x1 x2 (fun r_24 lf_24 rg_24 nx_24 fd_24 wt_24 fl_24 fp_24 => ph_eq r_24 0 (Q (-1) lf_24 rg_24 nx_24 fd_24 wt_24 fl_24 fp_24) (F_foundPrice_wp fp_24 (fun r_34 => Q r_34 lf_24 rg_24 nx_24 fd_24 wt_24 fl_24 fp_24)))))))
def H_way_wp (pr : Int → Int) (lf : Int → Int) (rg : Int → Int) (nx : Int → Int) (fd : Int → Int) (wt : Int) (fl : Int) (fp : Int) (x1 : Int) (x2 : Int) (x3 : Int) (Q : Int → (Int → Int) → (Int → Int) → (Int → Int) → (Int → Int) → (Int) → (Int) → (Int) → Prop) : Prop :=
  F_holds_wp x1 (fun r_1 => ph_eq r_1 0 (Q (-1001) lf rg nx fd wt fl fp) (F_holds_wp x2 (fun r_8 => ph_eq r_8 0 (Q (-1001) lf rg nx fd wt fl fp) (F_find_wp pr lf rg nx fd wt fl fp x1 x2 (fun r_24 lf_24 rg_24 nx_24 fd_24 wt_24 fl_24 fp_24 => ph_eq r_24 0 (Q (-1) lf_24 rg_24 nx_24 fd_24 wt_24 fl_24 fp_24) (F_foundCell_wp fd_24 fl_24 x3 (fun r_35 => Q r_35 lf_24 rg_24 nx_24 fd_24 wt_24 fl_24 fp_24)))))))
def H_main_wp (nc : Int → Int) (na : Int → Int) (ns : Int → Int) (nu : Int → Int) (ai : Int → Int) (rl : Int → Int) (nn : Int) (x1 : Int) (x2 : Int) (Q : Int → (Int → Int) → (Int → Int) → (Int → Int) → (Int → Int) → (Int → Int) → (Int → Int) → (Int) → Prop) : Prop :=
  F_holds_wp x1 (fun r_1 => ph_eq r_1 0 (Q (-1001) nc na ns nu ai rl nn) (H_isOutside_wp x2 1 (fun r_13 => ph_eq r_13 0 (N_isFull_wp nn (fun r_27 => ph_eq r_27 0 (N_addMain_wp nc na ns nu ai rl nn x1 x2 (fun r_45 nc_45 na_45 ns_45 nu_45 ai_45 rl_45 nn_45 => Q r_45 nc_45 na_45 ns_45 nu_45 ai_45 rl_45 nn_45)) (Q (-1004) nc na ns nu ai rl nn))) (Q (-1002) nc na ns nu ai rl nn))))
def H_hang_wp (pr : Int → Int) (lf : Int → Int) (rg : Int → Int) (nx : Int → Int) (fd : Int → Int) (wt : Int) (fl : Int) (fp : Int) (nc : Int → Int) (na : Int → Int) (ns : Int → Int) (nu : Int → Int) (ai : Int → Int) (rl : Int → Int) (rc : Int → Int) (nn : Int) (x1 : Int) (x2 : Int) (x3 : Int) (Q : Int → (Int → Int) → (Int → Int) → (Int → Int) → (Int → Int) → (Int) → (Int) → (Int) → (Int → Int) → (Int → Int) → (Int → Int) → (Int → Int) → (Int → Int) → (Int → Int) → (Int → Int) → (Int) → Prop) : Prop :=
  N_holds_wp nn x1 (fun r_5 => ph_eq r_5 0 (Q (-1001) lf rg nx fd wt fl fp nc na ns nu ai rl rc nn) (F_holds_wp x2 (fun r_12 => ph_eq r_12 0 (Q (-1001) lf rg nx fd wt fl fp nc na ns nu ai rl rc nn) (H_isOutside_wp x3 50 (fun r_25 => ph_eq r_25 0 (N_cellOf_wp nc x1 (fun r_41 => ph_eq x2 r_41 (Q (-1003) lf rg nx fd wt fl fp nc na ns nu ai rl rc nn) (N_cellOf_wp nc x1 (fun r_57 => F_find_wp pr lf rg nx fd wt fl fp x2 r_57 (fun r_60 lf_60 rg_60 nx_60 fd_60 wt_60 fl_60 fp_60 => ph_eq r_60 0 (Q (-1003) lf_60 rg_60 nx_60 fd_60 wt_60 fl_60 fp_60 nc na ns nu ai rl rc nn) (N_isFull_wp nn (fun r_74 => ph_eq r_74 0 (N_addHung_wp fd_60 fl_60 nc na ns nu ai rl rc nn x1 x2 x3 (fun r_97 nc_97 na_97 ns_97 nu_97 ai_97 rl_97 rc_97 nn_97 => Q r_97 lf_60 rg_60 nx_60 fd_60 wt_60 fl_60 fp_60 nc_97 na_97 ns_97 nu_97 ai_97 rl_97 rc_97 nn_97)) (Q (-1004) lf_60 rg_60 nx_60 fd_60 wt_60 fl_60 fp_60 nc na ns nu ai rl rc nn)))))))) (Q (-1002) lf rg nx fd wt fl fp nc na ns nu ai rl rc nn))))))
def H_units_wp (nu : Int → Int) (nn : Int) (x1 : Int) (x2 : Int) (Q : Int → (Int → Int) → Prop) : Prop :=
  N_holds_wp nn x1 (fun r_5 => ph_eq r_5 0 (Q (-1001) nu) (H_isOutside_wp x2 50 (fun r_18 => ph_eq r_18 0 (N_changeUnits_wp nu x1 x2 (fun r_34 nu_34 => Q r_34 nu_34)) (Q (-1002) nu))))
def H_truth_wp (x0 : Int) (Q : Int → Prop) : Prop :=
  ph_eq x0 0 (Q 0) (Q 1)
def H_air_wp (na : Int → Int) (ns : Int → Int) (ai : Int → Int) (nn : Int) (x1 : Int) (x2 : Int) (Q : Int → (Int → Int) → Prop) : Prop :=
  N_holds_wp nn x1 (fun r_5 => ph_eq r_5 0 (Q (-1001) ai) (N_isMain_wp na x1 (fun r_20 => ph_eq r_20 0 (N_isDrain_wp ns x1 (fun r_31 => ph_eq r_31 0 (Q (-1003) ai) (N_changeAired_wp ai x1 x2 (fun r_47 ai_47 => H_truth_wp r_47 (fun r_50 => Q r_50 ai_47))))) (Q (-1003) ai))))
def H_cut_wp (nn : Int) (x1 : Int) (Q : Int → (Int) → Prop) : Prop :=
  N_holds_wp nn x1 (fun r_5 => ph_eq r_5 0 (Q (-1001) nn) (N_removeFrom_wp nn x1 (fun r_16 nn_16 => Q r_16 nn_16)))
def H_lay_l4 (pr : Int → Int) (nc : Int → Int) (na : Int → Int) (nn : Int) (Q : Int → (Int → Int) → (Int → Int) → (Int → Int) → (Int → Int) → (Int) → (Int) → (Int) → (Int → Int) → (Int → Int) → Prop) (Kh : Int → Int → (Int → Int) → (Int → Int) → (Int → Int) → (Int → Int) → (Int) → (Int) → (Int) → (Int → Int) → (Int → Int) → Prop) (x1 : Int) (x2 : Int) (lf : Int → Int) (rg : Int → Int) (nx : Int → Int) (fd : Int → Int) (wt : Int) (fl : Int) (fp : Int) (rl : Int → Int) (rc : Int → Int) : Prop :=
  N_number_wp nn (fun r_9 => ph_lt x2 r_9 (N_isMain_wp na x2 (fun r_20 => ph_eq r_20 0 (N_cellOf_wp nc x2 (fun r_35 => N_cellAbove_wp nc na x2 (fun r_43 => F_find_wp pr lf rg nx fd wt fl fp r_35 r_43 (fun r_46 lf_46 rg_46 nx_46 fd_46 wt_46 fl_46 fp_46 => ph_eq r_46 0 (ph_nm (x2 + 1) (fun x2_70 => Kh x1 x2_70 lf_46 rg_46 nx_46 fd_46 wt_46 fl_46 fp_46 rl rc)) (N_layRun_wp fd_46 fl_46 rl rc x2 (fun r_61 rl_61 rc_61 => ph_eq r_61 0 (ph_nm (x2 + 1) (fun x2_70 => Kh x1 x2_70 lf_46 rg_46 nx_46 fd_46 wt_46 fl_46 fp_46 rl_61 rc_61)) (ph_nm (x1 + 1) (fun x1_67 => ph_nm (x2 + 1) (fun x2_70 => Kh x1_67 x2_70 lf_46 rg_46 nx_46 fd_46 wt_46 fl_46 fp_46 rl_61 rc_61))))))))) (ph_nm (x2 + 1) (fun x2_70 => Kh x1 x2_70 lf rg nx fd wt fl fp rl rc)))) (Q x1 lf rg nx fd wt fl fp rl rc))
def H_lay_wp (pr : Int → Int) (lf : Int → Int) (rg : Int → Int) (nx : Int → Int) (fd : Int → Int) (wt : Int) (fl : Int) (fp : Int) (nc : Int → Int) (na : Int → Int) (rl : Int → Int) (rc : Int → Int) (nn : Int) (Q : Int → (Int → Int) → (Int → Int) → (Int → Int) → (Int → Int) → (Int) → (Int) → (Int) → (Int → Int) → (Int → Int) → Prop) : Prop :=
  ∃ kk, ph_it (fun _ _ _ _ _ _ _ _ _ _ _ => False) (H_lay_l4 pr nc na nn  Q) kk 0 0 lf rg nx fd wt fl fp rl rc
def H_rule_wp (rv : Int → Int) (x1 : Int) (x2 : Int) (Q : Int → (Int → Int) → Prop) : Prop :=
  V_allows_wp x1 x2 (fun r_2 => ph_eq r_2 0 (Q (-1002) rv) (V_changeValue_wp rv x1 x2 (fun r_14 rv_14 => Q r_14 rv_14)))
def H_limit_wp (li : Int → Int) (x1 : Int) (x2 : Int) (Q : Int → (Int → Int) → Prop) : Prop :=
  V_allowsLimit_wp x1 x2 (fun r_2 => ph_eq r_2 0 (Q (-1002) li) (V_wouldRise_wp li x1 x2 (fun r_18 => ph_eq r_18 0 (Q (-1003) li) (V_changeLimit_wp li x1 x2 (fun r_30 li_30 => Q r_30 li_30)))))
def H_node_wp (nc : Int → Int) (na : Int → Int) (ns : Int → Int) (nu : Int → Int) (ai : Int → Int) (rl : Int → Int) (rc : Int → Int) (nn : Int) (rv : Int → Int) (li : Int → Int) (ld : Int → Int) (sz : Int → Int) (lo : Int → Int) (ri : Int) (x1 : Int) (x2 : Int) (Q : Int → (Int → Int) → (Int → Int) → (Int → Int) → (Int) → Prop) : Prop :=
  N_holds_wp nn x1 (fun r_5 => ph_eq r_5 0 (Q (-1001) ld sz lo ri) (H_isOutside_wp x2 11 (fun r_18 => ph_eq r_18 0 (K_settle_wp na ns nu rl nn rv li ld sz lo ri (fun ld_40 sz_40 lo_40 ri_40 => ph_rr x2 (ph_ca x2 0 (N_cellOf_wp nc x1 (fun r_109 => Q r_109 ld_40 sz_40 lo_40 ri_40)) (ph_ca x2 1 (N_aboveOf_wp na x1 (fun r_118 => Q r_118 ld_40 sz_40 lo_40 ri_40)) (ph_ca x2 2 (N_sortOf_wp ns x1 (fun r_127 => Q r_127 ld_40 sz_40 lo_40 ri_40)) (ph_ca x2 3 (N_unitsOf_wp nu x1 (fun r_136 => Q r_136 ld_40 sz_40 lo_40 ri_40)) (ph_ca x2 4 (N_isAired_wp ai x1 (fun r_145 => H_truth_wp r_145 (fun r_148 => Q r_148 ld_40 sz_40 lo_40 ri_40))) (ph_ca x2 5 (K_loadOf_wp ld_40 x1 (fun r_157 => Q r_157 ld_40 sz_40 lo_40 ri_40)) (ph_ca x2 6 (N_lengthOf_wp na rl x1 (fun r_166 => Q r_166 ld_40 sz_40 lo_40 ri_40)) (ph_ca x2 7 (N_turnsOf_wp rl rc x1 (fun r_175 => Q r_175 ld_40 sz_40 lo_40 ri_40)) (ph_ca x2 8 (K_sizeOf_wp sz_40 x1 (fun r_184 => Q r_184 ld_40 sz_40 lo_40 ri_40)) (ph_ca x2 9 (K_levelAt_wp lo_40 ri_40 x1 0 (fun r_194 => Q r_194 ld_40 sz_40 lo_40 ri_40)) (ph_ca x2 10 (K_isSafe_wp na ns nu ai rl rv sz_40 x1 (fun r_211 => H_truth_wp r_211 (fun r_214 => Q r_214 ld_40 sz_40 lo_40 ri_40))) (K_secondsOf_wp na ns nu rl sz_40 x1 (fun r_227 => Q r_227 ld_40 sz_40 lo_40 ri_40))))))))))))))) (Q (-1002) ld sz lo ri))))
def H_run_wp (rl : Int → Int) (rc : Int → Int) (nn : Int) (x1 : Int) (x2 : Int) (Q : Int → Prop) : Prop :=
  N_holds_wp nn x1 (fun r_5 => ph_eq r_5 0 (Q (-1001)) (N_hasRunCell_wp rl x1 x2 (fun r_21 => ph_eq r_21 0 (Q (-1)) (N_runCell_wp rc x1 x2 (fun r_33 => Q r_33)))))
def H_level_wp (na : Int → Int) (ns : Int → Int) (nu : Int → Int) (rl : Int → Int) (nn : Int) (rv : Int → Int) (li : Int → Int) (ld : Int → Int) (sz : Int → Int) (lo : Int → Int) (ri : Int) (x1 : Int) (x2 : Int) (Q : Int → (Int → Int) → (Int → Int) → (Int → Int) → (Int) → Prop) : Prop :=
  N_holds_wp nn x1 (fun r_5 => ph_eq r_5 0 (Q (-1001) ld sz lo ri) (N_isDrain_wp ns x1 (fun r_20 => ph_eq r_20 0 (Q (-1003) ld sz lo ri) (N_hasRunCell_wp rl x1 x2 (fun r_32 => ph_eq r_32 0 (Q (-1003) ld sz lo ri) (K_settle_wp na ns nu rl nn rv li ld sz lo ri (fun ld_54 sz_54 lo_54 ri_54 => K_levelAt_wp lo_54 ri_54 x1 x2 (fun r_63 => Q r_63 ld_54 sz_54 lo_54 ri_54))))))))
def H_clash_wp (na : Int → Int) (ns : Int → Int) (nu : Int → Int) (rl : Int → Int) (rc : Int → Int) (nn : Int) (rv : Int → Int) (li : Int → Int) (ld : Int → Int) (sz : Int → Int) (lo : Int → Int) (ri : Int) (lc : Int → Int) (cp : Int) (c1 : Int) (c2 : Int) (c3 : Int) (x1 : Int) (Q : Int → (Int → Int) → (Int → Int) → (Int → Int) → (Int) → (Int → Int) → (Int) → (Int) → (Int) → (Int) → Prop) : Prop :=
  H_isOutside_wp x1 2 (fun r_2 => ph_eq r_2 0 (K_settle_wp na ns nu rl nn rv li ld sz lo ri (fun ld_24 sz_24 lo_24 ri_24 => V_cover_wp rv (fun r_43 => C_search_wp na ns rl rc nn lo_24 ri_24 lc cp c1 c2 c3 r_43 (fun lc_46 cp_46 c1_46 c2_46 c3_46 => ph_rr x1 (ph_ca x1 0 (C_firstNode_wp c1_46 (fun r_80 => Q r_80 ld_24 sz_24 lo_24 ri_24 lc_46 cp_46 c1_46 c2_46 c3_46)) (ph_ca x1 1 (C_otherNode_wp c2_46 (fun r_88 => Q r_88 ld_24 sz_24 lo_24 ri_24 lc_46 cp_46 c1_46 c2_46 c3_46)) (C_firstCell_wp c3_46 (fun r_96 => Q r_96 ld_24 sz_24 lo_24 ri_24 lc_46 cp_46 c1_46 c2_46 c3_46)))))))) (Q (-1002) ld sz lo ri lc cp c1 c2 c3))
def H_count_wp (na : Int → Int) (ns : Int → Int) (nu : Int → Int) (ai : Int → Int) (rl : Int → Int) (rc : Int → Int) (nn : Int) (rv : Int → Int) (li : Int → Int) (ld : Int → Int) (sz : Int → Int) (lo : Int → Int) (ri : Int) (lc : Int → Int) (cp : Int) (c1 : Int) (c2 : Int) (c3 : Int) (x1 : Int) (Q : Int → (Int → Int) → (Int → Int) → (Int → Int) → (Int) → (Int → Int) → (Int) → (Int) → (Int) → (Int) → Prop) : Prop :=
  H_isOutside_wp x1 8 (fun r_3 => ph_eq r_3 0 (K_settle_wp na ns nu rl nn rv li ld sz lo ri (fun ld_25 sz_25 lo_25 ri_25 => ph_rr x1 (ph_ca x1 0 (N_number_wp nn (fun r_80 => Q r_80 ld_25 sz_25 lo_25 ri_25 lc cp c1 c2 c3)) (ph_ca x1 1 (N_mains_wp na nn (fun r_88 => Q r_88 ld_25 sz_25 lo_25 ri_25 lc cp c1 c2 c3)) (ph_ca x1 2 (K_runsOfSize_wp na nn sz_25 (-1) (fun r_101 => Q r_101 ld_25 sz_25 lo_25 ri_25 lc cp c1 c2 c3)) (ph_ca x1 3 (N_traps_wp ns nu nn (fun r_109 => Q r_109 ld_25 sz_25 lo_25 ri_25 lc cp c1 c2 c3)) (ph_ca x1 4 (K_safeTraps_wp na ns nu ai rl nn rv sz_25 (fun r_125 => Q r_125 ld_25 sz_25 lo_25 ri_25 lc cp c1 c2 c3)) (ph_ca x1 5 (V_cover_wp rv (fun r_145 => C_search_wp na ns rl rc nn lo_25 ri_25 lc cp c1 c2 c3 r_145 (fun lc_148 cp_148 c1_148 c2_148 c3_148 => C_pairs_wp cp_148 (fun r_155 => Q r_155 ld_25 sz_25 lo_25 ri_25 lc_148 cp_148 c1_148 c2_148 c3_148)))) (ph_ca x1 6 (N_lengthOfAll_wp na rl nn (fun r_163 => Q r_163 ld_25 sz_25 lo_25 ri_25 lc cp c1 c2 c3)) (ph_ca x1 7 (N_turnsOfAll_wp rl rc nn (fun r_171 => Q r_171 ld_25 sz_25 lo_25 ri_25 lc cp c1 c2 c3)) (K_mostSeconds_wp na ns nu rl nn sz_25 (fun r_183 => Q r_183 ld_25 sz_25 lo_25 ri_25 lc cp c1 c2 c3)))))))))))) (Q (-1002) ld sz lo ri lc cp c1 c2 c3))
def H_bars_wp (na : Int → Int) (ns : Int → Int) (nu : Int → Int) (rl : Int → Int) (nn : Int) (rv : Int → Int) (li : Int → Int) (ld : Int → Int) (sz : Int → Int) (lo : Int → Int) (ri : Int) (pi : Int → Int) (be : Int → Int) (ps : Int) (wb : Int) (lp : Int) (ba : Int) (x1 : Int) (x2 : Int) (Q : Int → (Int → Int) → (Int → Int) → (Int → Int) → (Int) → (Int → Int) → (Int → Int) → (Int) → (Int) → (Int) → (Int) → Prop) : Prop :=
  H_isOutside_wp x1 5 (fun r_2 => ph_eq r_2 0 (H_isOutside_wp x2 3 (fun r_10 => ph_eq r_10 0 (K_settle_wp na ns nu rl nn rv li ld sz lo ri (fun ld_32 sz_32 lo_32 ri_32 => ph_eq x2 3 (K_runsOfSize_wp na nn sz_32 x1 (fun r_49 => Q r_49 ld_32 sz_32 lo_32 ri_32 pi be ps wb lp ba)) (V_bar_wp rv (fun r_70 => S_gather_wp na rl nn sz_32 pi ps wb lp ba x1 r_70 (fun pi_73 ps_73 wb_73 lp_73 ba_73 => ph_eq x2 0 (S_pieces_wp ps_73 (fun r_84 => Q r_84 ld_32 sz_32 lo_32 ri_32 pi_73 be ps_73 wb_73 lp_73 ba_73)) (S_hasTooMany_wp ps_73 (fun r_92 => ph_eq r_92 0 (ph_eq x2 1 (S_fewestBars_wp pi_73 be ps_73 wb_73 ba_73 (fun r_111 be_111 => Q r_111 ld_32 sz_32 lo_32 ri_32 pi_73 be_111 ps_73 wb_73 lp_73 ba_73)) (S_waste_wp pi_73 be ps_73 lp_73 ba_73 (fun r_121 be_121 => Q r_121 ld_32 sz_32 lo_32 ri_32 pi_73 be_121 ps_73 wb_73 lp_73 ba_73))) (Q (-1003) ld_32 sz_32 lo_32 ri_32 pi_73 be ps_73 wb_73 lp_73 ba_73)))))))) (Q (-1002) ld sz lo ri pi be ps wb lp ba))) (Q (-1002) ld sz lo ri pi be ps wb lp ba))
def M_in_wp (x0 : Int) (x2 : Int) (x4 : Int) (Q : Int → Prop) : Prop :=
  ph_r2 x0 x2 (ph_lt (ph_cm x0 x2) 0 (ph_bo 0 (Q 0)) (ph_r2 x0 x4 (ph_lt 0 (ph_cm x0 x4) (ph_bo 0 (Q 0)) (ph_bo 1 (Q 1)))))
def M_isCell_wp (x0 : Int) (Q : Int → Prop) : Prop :=
  ph_rr x0 (M_in_wp x0 0 143 (fun r_6 => ph_bo r_6 (Q r_6)))
def M_isNode_wp (mn : Int) (x1 : Int) (Q : Int → Prop) : Prop :=
  ph_rr x1 (ph_rr (mn - 1) (M_in_wp x1 0 (mn - 1) (fun r_10 => ph_bo r_10 (Q r_10))))
def M_price_wp (mp : Int → Int) (x1 : Int) (x2 : Int) (Q : Int → (Int → Int) → Prop) : Prop :=
  M_isCell_wp x1 (fun r_1 => ph_eq r_1 0 (Q (-1001) mp) (ph_rr x2 (M_in_wp x2 0 9 (fun r_17 => ph_eq r_17 0 (Q (-1002) mp) (ph_ix x1 144 (ph_nm (mp x1) (fun x3_33 => ph_ix x1 144 (ph_nm (ph_u mp x1 x2) (fun mp_40 => Q x3_33 mp_40)))))))))
def M_beside_wp (x0 : Int) (x1 : Int) (Q : Int → Prop) : Prop :=
  ph_dv x0 12 (ph_nm (x0 % 12) (fun x2_4 => ph_dv x0 12 (ph_nm (x0 / 12) (fun x3_9 => ph_eq x1 0 (ph_lt 0 x3_9 (Q (x0 - 12)) (Q (-1))) (ph_eq x1 1 (ph_lt 0 x2_4 (Q (x0 - 1)) (Q (-1))) (ph_eq x1 2 (ph_lt x2_4 11 (Q (x0 + 1)) (Q (-1))) (ph_lt x3_9 11 (Q (x0 + 12)) (Q (-1)))))))))
def M_through_wp (mp : Int → Int) (mf : Int → Int) (x1 : Int) (Q : Int → Prop) : Prop :=
  ph_lt x1 0 (Q 1000000000) (ph_ix x1 144 (ph_eq (mp x1) 0 (Q 1000000000) (ph_ix x1 144 (ph_lt (mf x1) 1000000000 (ph_ix x1 144 (ph_ix x1 144 (Q (((mf x1) + (1000 * (mp x1))) + 1)))) (Q 1000000000)))))
def M_findLefts_j25 (mp : Int → Int) (mf : Int → Int) (x1 : Int) (x2 : Int) (s0 : Int) (s1 : Int) (Q : (Int → Int) → Prop) (Kh : Int → (Int → Int) → Prop) : Prop :=
  ph_ix s0 144 (ph_nm (ph_u mf s0 s1) (fun mf_25 => ph_nm (x2 + 1) (fun x2_26 => Kh x2_26 mf_25)))
def M_findLefts_l2 (mp : Int → Int) (x1 : Int) (Ke32 : (Int → Int) → Prop) (Q : (Int → Int) → Prop) (Kh : Int → (Int → Int) → Prop) (x2 : Int) (mf : Int → Int) : Prop :=
  ph_lt x2 144 (ph_eq x2 x1 (M_findLefts_j25 mp mf x1 x2 x2 0  Q Kh) (M_findLefts_j25 mp mf x1 x2 x2 1000000000  Q Kh)) (Ke32 mf)
def M_findLefts_l52 (mp : Int → Int) (x1 : Int) (x3 : Int) (Ke102 : Int → (Int → Int) → Prop) (Q : (Int → Int) → Prop) (Kh : Int → Int → (Int → Int) → Prop) (x2 : Int) (x4 : Int) (mf : Int → Int) : Prop :=
  ph_lt x4 4 (ph_eq x3 x1 (Ke102 x2 mf) (M_beside_wp x3 x4 (fun r_67 => M_through_wp mp mf r_67 (fun r_70 => ph_ix x3 144 (ph_lt r_70 (mf x3) (ph_ix x3 144 (ph_nm (ph_u mf x3 r_70) (fun mf_93 => ph_nm (x4 + 1) (fun x4_96 => Kh 1 x4_96 mf_93)))) (ph_nm (x4 + 1) (fun x4_96 => Kh x2 x4_96 mf))))))) (Ke102 x2 mf)
def M_findLefts_l42 (mp : Int → Int) (x1 : Int) (Ke108 : Int → (Int → Int) → Prop) (Q : (Int → Int) → Prop) (Kh : Int → Int → (Int → Int) → Prop) (x2 : Int) (x3 : Int) (mf : Int → Int) : Prop :=
  ph_lt x3 144 (∃ kk, ph_it (fun _ _ _ => False) (M_findLefts_l52 mp x1 x3 (fun x2_102 mf_102 => ph_nm (x3 + 1) (fun x3_102 => Kh x2_102 x3_102 mf_102)) Q) kk x2 0 mf) (Ke108 x2 mf)
def M_findLefts_l34 (mp : Int → Int) (x1 : Int) (Q : (Int → Int) → Prop) (Kh : Int → (Int → Int) → Prop) (x2 : Int) (mf : Int → Int) : Prop :=
  ph_eq x2 0 (Q mf) (∃ kk, ph_it (fun _ _ _ => False) (M_findLefts_l42 mp x1 (fun x2_108 mf_108 => Kh x2_108 mf_108) Q) kk 0 0 mf)
def M_findLefts_wp (mp : Int → Int) (mf : Int → Int) (x1 : Int) (Q : (Int → Int) → Prop) : Prop :=
  ∃ kk, ph_it (fun _ _ => False) (M_findLefts_l2 mp x1 (fun mf_32 => ∃ kk, ph_it (fun _ _ => False) (M_findLefts_l34 mp x1  Q) kk 1 mf_32) Q) kk 0 mf
def M_cheapest_wp (mp : Int → Int) (mf : Int → Int) (x1 : Int) (x2 : Int) (Q : Int → (Int → Int) → Prop) : Prop :=
  M_isCell_wp x1 (fun r_1 => ph_eq r_1 0 (Q (-1001) mf) (M_isCell_wp x2 (fun r_8 => ph_eq r_8 0 (Q (-1001) mf) (M_findLefts_wp mp mf x2 (fun mf_20 => ph_ix x1 144 (ph_lt (mf_20 x1) 1000000000 (ph_ix x1 144 (ph_dv (mf_20 x1) 1000 (Q ((mf_20 x1) / 1000) mf_20))) (Q (-1) mf_20)))))))
def M_findWay_l48 (mp : Int → Int) (mf : Int → Int) (mw : Int → Int) (mk : Int) (x2 : Int) (x3 : Int) (Ke96 : Int → Prop) (Q : Int → (Int → Int) → (Int → Int) → (Int) → Prop) (Kh : Int → Int → Prop) (x4 : Int) (x5 : Int) : Prop :=
  ph_lt x5 4 (ph_lt x4 0 (M_beside_wp x3 x5 (fun r_63 => M_through_wp mp mf r_63 (fun r_66 => ph_ix x3 144 (ph_eq r_66 (mf x3) (M_beside_wp x3 x5 (fun r_81 => ph_nm (x5 + 1) (fun x5_90 => Kh r_81 x5_90))) (ph_nm (x5 + 1) (fun x5_90 => Kh (-1) x5_90)))))) (Ke96 x4)) (Ke96 x4)
def M_findWay_j96 (mp : Int → Int) (mf : Int → Int) (mw : Int → Int) (mk : Int) (x2 : Int) (x4 : Int) (Q : Int → (Int → Int) → (Int → Int) → (Int) → Prop) (Kh : Int → (Int → Int) → (Int) → Prop) : Prop :=
  ph_ix mk 144 (ph_nm (ph_u mw mk x4) (fun mw_108 => ph_nm (mk + 1) (fun mk_116 => Kh x4 mw_108 mk_116)))
def M_findWay_l37 (mp : Int → Int) (mf : Int → Int) (x2 : Int) (Q : Int → (Int → Int) → (Int → Int) → (Int) → Prop) (Kh : Int → (Int → Int) → (Int) → Prop) (x3 : Int) (mw : Int → Int) (mk : Int) : Prop :=
  ph_eq x3 x2 (ph_bo 1 (Q 1 mf mw mk)) (∃ kk, ph_it (fun _ _ => False) (M_findWay_l48 mp mf mw mk x2 x3 (fun x4_96 => M_findWay_j96 mp mf mw mk x2 x4_96  Q Kh) Q) kk (-1) 0)
def M_findWay_wp (mp : Int → Int) (mf : Int → Int) (mw : Int → Int) (mk : Int) (x1 : Int) (x2 : Int) (Q : Int → (Int → Int) → (Int → Int) → (Int) → Prop) : Prop :=
  M_findLefts_wp mp mf x2 (fun mf_2 => ph_ix x1 144 (ph_lt (mf_2 x1) 1000000000 (ph_ix 0 144 (ph_nm (ph_u mw 0 x1) (fun mw_31 => ∃ kk, ph_it (fun _ _ _ => False) (M_findWay_l37 mp mf_2 x2  Q) kk x1 mw_31 1))) (ph_bo 0 (Q 0 mf_2 mw 0))))
def M_way_wp (mp : Int → Int) (mf : Int → Int) (mw : Int → Int) (mk : Int) (x1 : Int) (x2 : Int) (x3 : Int) (Q : Int → (Int → Int) → (Int → Int) → (Int) → Prop) : Prop :=
  M_isCell_wp x1 (fun r_1 => ph_eq r_1 0 (Q (-1001) mf mw mk) (M_isCell_wp x2 (fun r_8 => ph_eq r_8 0 (Q (-1001) mf mw mk) (M_findWay_wp mp mf mw mk x1 x2 (fun r_21 mf_21 mw_21 mk_21 => ph_eq r_21 0 (Q (-1) mf_21 mw_21 mk_21) (ph_rr x3 (ph_rr (mk_21 - 1) (M_in_wp x3 0 (mk_21 - 1) (fun r_37 => ph_eq r_37 0 (Q (-1) mf_21 mw_21 mk_21) (ph_ix x3 144 (Q (mw_21 x3) mf_21 mw_21 mk_21)))))))))))
def M_fresh_j58 (mn : Int) (mc : Int → Int) (ma : Int → Int) (ms : Int → Int) (mu : Int → Int) (mi : Int → Int) (x5 : Int) (s0 : Int) (s1 : Int) (Q : Int → (Int) → (Int → Int) → (Int → Int) → (Int → Int) → (Int → Int) → (Int → Int) → Prop) : Prop :=
  ph_bo s1 (ph_ix s0 24 (ph_nm (ph_u mi s0 s1) (fun mi_58 => ph_nm (mn + 1) (fun mn_66 => Q x5 mn_66 mc ma ms mu mi_58))))
def M_fresh_wp (mn : Int) (mc : Int → Int) (ma : Int → Int) (ms : Int → Int) (mu : Int → Int) (mi : Int → Int) (x1 : Int) (x2 : Int) (x3 : Int) (x4 : Int) (Q : Int → (Int) → (Int → Int) → (Int → Int) → (Int → Int) → (Int → Int) → (Int → Int) → Prop) : Prop :=
  ph_ix mn 24 (ph_nm (ph_u mc mn x1) (fun mc_13 => ph_ix mn 24 (ph_nm (ph_u ma mn x2) (fun ma_21 => ph_ix mn 24 (ph_nm (ph_u ms mn x3) (fun ms_29 => ph_ix mn 24 (ph_nm (ph_u mu mn x4) (fun mu_38 => ph_lt x2 0 (ph_eq x3 0 (M_fresh_j58 mn mc_13 ma_21 ms_29 mu_38 mi mn mn 1  Q ) (M_fresh_j58 mn mc_13 ma_21 ms_29 mu_38 mi mn mn 0  Q )) (M_fresh_j58 mn mc_13 ma_21 ms_29 mu_38 mi mn mn 0  Q )))))))))
def M_main_wp (mn : Int) (mc : Int → Int) (ma : Int → Int) (ms : Int → Int) (mu : Int → Int) (mi : Int → Int) (mm : Int → Int) (x1 : Int) (x2 : Int) (Q : Int → (Int) → (Int → Int) → (Int → Int) → (Int → Int) → (Int → Int) → (Int → Int) → (Int → Int) → Prop) : Prop :=
  M_isCell_wp x1 (fun r_1 => ph_eq r_1 0 (Q (-1001) mn mc ma ms mu mi mm) (ph_rr x2 (M_in_wp x2 0 1 (fun r_15 => ph_eq r_15 0 (Q (-1002) mn mc ma ms mu mi mm) (ph_eq mn 24 (Q (-1004) mn mc ma ms mu mi mm) (ph_ix mn 24 (ph_nm (ph_u mm mn 0) (fun mm_47 => M_fresh_wp mn mc ma ms mu mi x1 (-1) x2 0 (fun r_53 mn_53 mc_53 ma_53 ms_53 mu_53 mi_53 => Q r_53 mn_53 mc_53 ma_53 ms_53 mu_53 mi_53 mm_47)))))))))
def M_take_l12 (mm : Int → Int) (mw : Int → Int) (mk : Int) (x1 : Int) (Q : (Int → Int) → (Int → Int) → Prop) (Kh : Int → (Int → Int) → Prop) (x2 : Int) (mr : Int → Int) : Prop :=
  ph_lt x2 mk (ph_ix x2 144 (ph_ix ((144 * x1) + x2) 3456 (ph_nm (ph_u mr ((144 * x1) + x2) (mw x2)) (fun mr_37 => ph_nm (x2 + 1) (fun x2_38 => Kh x2_38 mr_37))))) (Q mr mm)
def M_take_wp (mr : Int → Int) (mm : Int → Int) (mw : Int → Int) (mk : Int) (x1 : Int) (Q : (Int → Int) → (Int → Int) → Prop) : Prop :=
  ph_ix x1 24 (ph_nm (ph_u mm x1 mk) (fun mm_9 => ∃ kk, ph_it (fun _ _ => False) (M_take_l12 mm_9 mw mk x1  Q) kk 0 mr))
def M_hang_wp (mp : Int → Int) (mn : Int) (mc : Int → Int) (ma : Int → Int) (ms : Int → Int) (mu : Int → Int) (mi : Int → Int) (mr : Int → Int) (mm : Int → Int) (mf : Int → Int) (mw : Int → Int) (mk : Int) (x1 : Int) (x2 : Int) (x3 : Int) (Q : Int → (Int) → (Int → Int) → (Int → Int) → (Int → Int) → (Int → Int) → (Int → Int) → (Int → Int) → (Int → Int) → (Int → Int) → (Int → Int) → (Int) → Prop) : Prop :=
  M_isNode_wp mn x1 (fun r_2 => ph_eq r_2 0 (Q (-1001) mn mc ma ms mu mi mr mm mf mw mk) (M_isCell_wp x2 (fun r_9 => ph_eq r_9 0 (Q (-1001) mn mc ma ms mu mi mr mm mf mw mk) (ph_rr x3 (M_in_wp x3 0 50 (fun r_25 => ph_eq r_25 0 (Q (-1002) mn mc ma ms mu mi mr mm mf mw mk) (ph_ix x1 24 (ph_eq x2 (mc x1) (Q (-1003) mn mc ma ms mu mi mr mm mf mw mk) (ph_ix x1 24 (M_findWay_wp mp mf mw mk x2 (mc x1) (fun r_53 mf_53 mw_53 mk_53 => ph_eq r_53 0 (Q (-1003) mn mc ma ms mu mi mr mm mf_53 mw_53 mk_53) (ph_eq mn 24 (Q (-1004) mn mc ma ms mu mi mr mm mf_53 mw_53 mk_53) (M_take_wp mr mm mw_53 mk_53 mn (fun mr_81 mm_81 => ph_ix x1 24 (M_fresh_wp mn mc ma ms mu mi x2 x1 (ms x1) x3 (fun r_94 mn_94 mc_94 ma_94 ms_94 mu_94 mi_94 => Q r_94 mn_94 mc_94 ma_94 ms_94 mu_94 mi_94 mr_81 mm_81 mf_53 mw_53 mk_53))))))))))))))))
def M_units_wp (mn : Int) (mu : Int → Int) (x1 : Int) (x2 : Int) (Q : Int → (Int → Int) → Prop) : Prop :=
  M_isNode_wp mn x1 (fun r_2 => ph_eq r_2 0 (Q (-1001) mu) (ph_rr x2 (M_in_wp x2 0 50 (fun r_18 => ph_eq r_18 0 (Q (-1002) mu) (ph_ix x1 24 (ph_nm (mu x1) (fun x3_34 => ph_ix x1 24 (ph_nm (ph_u mu x1 x2) (fun mu_41 => Q x3_34 mu_41)))))))))
def M_air_j49 (mn : Int) (ma : Int → Int) (ms : Int → Int) (mi : Int → Int) (x1 : Int) (x2 : Int) (s0 : Int) (Q : Int → (Int → Int) → Prop) : Prop :=
  ph_bo x2 (ph_ix x1 24 (ph_nm (ph_u mi x1 x2) (fun mi_56 => Q s0 mi_56)))
def M_air_wp (mn : Int) (ma : Int → Int) (ms : Int → Int) (mi : Int → Int) (x1 : Int) (x2 : Int) (Q : Int → (Int → Int) → Prop) : Prop :=
  M_isNode_wp mn x1 (fun r_2 => ph_eq r_2 0 (Q (-1001) mi) (ph_ix x1 24 (ph_lt (ma x1) 0 (Q (-1003) mi) (ph_ix x1 24 (ph_eq (ms x1) 1 (Q (-1003) mi) (ph_ix x1 24 (ph_eq (mi x1) 0 (M_air_j49 mn ma ms mi x1 x2 0  Q ) (M_air_j49 mn ma ms mi x1 x2 1  Q ))))))))
def M_cut_wp (mn : Int) (x1 : Int) (Q : Int → (Int) → Prop) : Prop :=
  M_isNode_wp mn x1 (fun r_2 => ph_eq r_2 0 (Q (-1001) mn) (ph_nm (mn - x1) (fun x2_18 => Q x2_18 x1)))
def M_lay_l67 (mp : Int → Int) (mn : Int) (mc : Int → Int) (ma : Int → Int) (mr : Int → Int) (mm : Int → Int) (mf : Int → Int) (mw : Int → Int) (mk : Int) (x1 : Int) (x2 : Int) (Ke115 : Int → Prop) (Q : Int → (Int → Int) → (Int → Int) → (Int → Int) → (Int → Int) → (Int) → Prop) (Kh : Int → Int → Prop) (x3 : Int) (x4 : Int) : Prop :=
  ph_lt x4 mk (ph_eq x3 0 (Ke115 x3) (ph_ix x4 144 (ph_ix ((144 * x2) + x4) 3456 (ph_eq (mw x4) (mr ((144 * x2) + x4)) (ph_nm (x4 + 1) (fun x4_109 => Kh 1 x4_109)) (ph_nm (x4 + 1) (fun x4_109 => Kh 0 x4_109)))))) (Ke115 x3)
def M_lay_j125 (mp : Int → Int) (mn : Int) (mc : Int → Int) (ma : Int → Int) (mr : Int → Int) (mm : Int → Int) (mf : Int → Int) (mw : Int → Int) (mk : Int) (x2 : Int) (s0 : Int) (s1 : Int) (Q : Int → (Int → Int) → (Int → Int) → (Int → Int) → (Int → Int) → (Int) → Prop) (Kh : Int → Int → (Int → Int) → (Int → Int) → (Int → Int) → (Int → Int) → (Int) → Prop) : Prop :=
  ph_nm (s0 + s1) (fun x1_126 => M_take_wp mr mm mw mk x2 (fun mr_129 mm_129 => ph_nm (x2 + 1) (fun x2_132 => Kh x1_126 x2_132 mr_129 mm_129 mf mw mk)))
def M_lay_j115 (mp : Int → Int) (mn : Int) (mc : Int → Int) (ma : Int → Int) (mr : Int → Int) (mm : Int → Int) (mf : Int → Int) (mw : Int → Int) (mk : Int) (x1 : Int) (x2 : Int) (x3 : Int) (Q : Int → (Int → Int) → (Int → Int) → (Int → Int) → (Int → Int) → (Int) → Prop) (Kh : Int → Int → (Int → Int) → (Int → Int) → (Int → Int) → (Int → Int) → (Int) → Prop) : Prop :=
  ph_eq x3 0 (M_lay_j125 mp mn mc ma mr mm mf mw mk x2 x1 1  Q Kh) (M_lay_j125 mp mn mc ma mr mm mf mw mk x2 x1 0  Q Kh)
def M_lay_l4 (mp : Int → Int) (mn : Int) (mc : Int → Int) (ma : Int → Int) (Q : Int → (Int → Int) → (Int → Int) → (Int → Int) → (Int → Int) → (Int) → Prop) (Kh : Int → Int → (Int → Int) → (Int → Int) → (Int → Int) → (Int → Int) → (Int) → Prop) (x1 : Int) (x2 : Int) (mr : Int → Int) (mm : Int → Int) (mf : Int → Int) (mw : Int → Int) (mk : Int) : Prop :=
  ph_lt x2 mn (ph_ix x2 24 (ph_lt (ma x2) 0 (ph_nm (x2 + 1) (fun x2_132 => Kh x1 x2_132 mr mm mf mw mk)) (ph_ix x2 24 (ph_ix x2 24 (ph_ix (ma x2) 24 (M_findWay_wp mp mf mw mk (mc x2) (mc (ma x2)) (fun r_39 mf_39 mw_39 mk_39 => ph_eq r_39 0 (ph_nm (x2 + 1) (fun x2_132 => Kh x1 x2_132 mr mm mf_39 mw_39 mk_39)) (ph_ix x2 24 (ph_eq mk_39 (mm x2) (∃ kk, ph_it (fun _ _ => False) (M_lay_l67 mp mn mc ma mr mm mf_39 mw_39 mk_39 x1 x2 (fun x3_115 => M_lay_j115 mp mn mc ma mr mm mf_39 mw_39 mk_39 x1 x2 x3_115  Q Kh) Q) kk 1 0) (∃ kk, ph_it (fun _ _ => False) (M_lay_l67 mp mn mc ma mr mm mf_39 mw_39 mk_39 x1 x2 (fun x3_115 => M_lay_j115 mp mn mc ma mr mm mf_39 mw_39 mk_39 x1 x2 x3_115  Q Kh) Q) kk 0 0)))))))))) (Q x1 mr mm mf mw mk)
def M_lay_wp (mp : Int → Int) (mn : Int) (mc : Int → Int) (ma : Int → Int) (mr : Int → Int) (mm : Int → Int) (mf : Int → Int) (mw : Int → Int) (mk : Int) (Q : Int → (Int → Int) → (Int → Int) → (Int → Int) → (Int → Int) → (Int) → Prop) : Prop :=
  ∃ kk, ph_it (fun _ _ _ _ _ _ _ => False) (M_lay_l4 mp mn mc ma  Q) kk 0 0 mr mm mf mw mk
def M_rule_j60 (mv : Int → Int) (x1 : Int) (x2 : Int) (x3 : Int) (s0 : Int) (Q : Int → (Int → Int) → Prop) : Prop :=
  ph_rr x2 (ph_rr x3 (ph_rr s0 (M_in_wp x2 x3 s0 (fun r_69 => ph_eq r_69 0 (Q (-1002) mv) (ph_ix x1 4 (ph_nm (mv x1) (fun x5_85 => ph_ix x1 4 (ph_nm (ph_u mv x1 x2) (fun mv_93 => Q x5_85 mv_93)))))))))
def M_rule_j36 (mv : Int → Int) (x1 : Int) (x2 : Int) (s0 : Int) (Q : Int → (Int → Int) → Prop) : Prop :=
  ph_eq x1 0 (M_rule_j60 mv x1 x2 s0 20  Q ) (ph_eq x1 2 (M_rule_j60 mv x1 x2 s0 500  Q ) (M_rule_j60 mv x1 x2 s0 2000  Q ))
def M_rule_wp (mv : Int → Int) (x1 : Int) (x2 : Int) (Q : Int → (Int → Int) → Prop) : Prop :=
  ph_rr x1 (M_in_wp x1 0 3 (fun r_6 => ph_eq r_6 0 (Q (-1002) mv) (ph_eq x1 1 (M_rule_j36 mv x1 x2 0  Q ) (ph_eq x1 3 (M_rule_j36 mv x1 x2 50  Q ) (M_rule_j36 mv x1 x2 1  Q )))))
def M_limit_j65 (ml : Int → Int) (x1 : Int) (x2 : Int) (Q : Int → (Int → Int) → Prop) : Prop :=
  ph_ix x1 6 (ph_nm (ml x1) (fun x3_71 => ph_ix x1 6 (ph_nm (ph_u ml x1 x2) (fun ml_78 => Q x3_71 ml_78))))
def M_limit_j44 (ml : Int → Int) (x1 : Int) (x2 : Int) (Q : Int → (Int → Int) → Prop) : Prop :=
  ph_lt x1 5 (ph_ix (x1 + 1) 6 (ph_lt x2 (ml (x1 + 1)) (M_limit_j65 ml x1 x2  Q ) (Q (-1003) ml))) (M_limit_j65 ml x1 x2  Q )
def M_limit_wp (ml : Int → Int) (x1 : Int) (x2 : Int) (Q : Int → (Int → Int) → Prop) : Prop :=
  ph_rr x1 (M_in_wp x1 0 5 (fun r_6 => ph_eq r_6 0 (Q (-1002) ml) (ph_rr x2 (M_in_wp x2 1 2000 (fun r_18 => ph_eq r_18 0 (Q (-1002) ml) (ph_lt 0 x1 (ph_ix (x1 - 1) 6 (ph_lt (ml (x1 - 1)) x2 (M_limit_j44 ml x1 x2  Q ) (Q (-1003) ml))) (M_limit_j44 ml x1 x2  Q )))))))
def M_lengthOf_wp (mm : Int → Int) (x1 : Int) (Q : Int → Prop) : Prop :=
  ph_ix x1 24 (ph_lt 0 (mm x1) (ph_ix x1 24 (Q (50 * ((mm x1) - 1)))) (Q 0))
def M_sizeFor_l2 (ml : Int → Int) (x1 : Int) (Ke24 : Int → Prop) (Q : Int → Prop) (Kh : Int → Prop) (x3 : Int) : Prop :=
  ph_lt x3 6 (ph_ix x3 6 (ph_lt (ml x3) x1 (ph_nm (x3 + 1) (fun x3_18 => Kh x3_18)) (Ke24 x3))) (Ke24 x3)
def M_sizeFor_j24 (ml : Int → Int) (x3 : Int) (Q : Int → Prop) : Prop :=
  ph_eq x3 6 (Q (-1)) (Q x3)
def M_sizeFor_wp (ml : Int → Int) (x1 : Int) (x2 : Int) (Q : Int → Prop) : Prop :=
  ∃ kk, ph_it (fun _ => False) (M_sizeFor_l2 ml x1 (fun x3_24 => M_sizeFor_j24 ml x3_24  Q ) Q) kk x2
def M_work_l2 (mn : Int) (ma : Int → Int) (ms : Int → Int) (mu : Int → Int) (mm : Int → Int) (mv : Int → Int) (ml : Int → Int) (mo : Int → Int) (Ke35 : (Int → Int) → (Int → Int) → Prop) (Q : (Int → Int) → (Int → Int) → (Int → Int) → Prop) (Kh : Int → (Int → Int) → (Int → Int) → Prop) (x1 : Int) (md : Int → Int) (mz : Int → Int) : Prop :=
  ph_lt x1 mn (ph_ix x1 24 (ph_ix x1 24 (ph_nm (ph_u md x1 (mu x1)) (fun md_21 => ph_ix x1 24 (ph_nm (ph_u mz x1 0) (fun mz_28 => ph_nm (x1 + 1) (fun x1_29 => Kh x1_29 md_21 mz_28))))))) (Ke35 md mz)
def M_work_j164 (mn : Int) (ma : Int → Int) (ms : Int → Int) (mu : Int → Int) (mm : Int → Int) (mv : Int → Int) (ml : Int → Int) (md : Int → Int) (mz : Int → Int) (mo : Int → Int) (x1 : Int) (s0 : Int) (s1 : Int) (Q : (Int → Int) → (Int → Int) → (Int → Int) → Prop) (Kh : Int → (Int → Int) → (Int → Int) → Prop) : Prop :=
  ph_ix s0 24 (ph_nm (ph_u mz s0 s1) (fun mz_164 => ph_nm (x1 + (-1)) (fun x1_165 => Kh x1_165 md mz_164)))
def M_work_j91 (mn : Int) (ma : Int → Int) (ms : Int → Int) (mu : Int → Int) (mm : Int → Int) (mv : Int → Int) (ml : Int → Int) (md : Int → Int) (mz : Int → Int) (mo : Int → Int) (x1 : Int) (x2 : Int) (s0 : Int) (s1 : Int) (Q : (Int → Int) → (Int → Int) → (Int → Int) → Prop) (Kh : Int → (Int → Int) → (Int → Int) → Prop) : Prop :=
  ph_ix s0 24 (ph_nm (ph_u mz s0 s1) (fun mz_91 => ph_ix x2 24 (ph_ix x1 24 (ph_ix x2 24 (ph_nm (ph_u md x2 ((md x2) + (md x1))) (fun md_106 => ph_ix x2 24 (ph_lt (mz_91 x2) 0 (M_work_j164 mn ma ms mu mm mv ml md_106 mz_91 mo x1 x2 (-1)  Q Kh) (ph_ix x1 24 (ph_lt (mz_91 x1) 0 (M_work_j164 mn ma ms mu mm mv ml md_106 mz_91 mo x1 x2 (-1)  Q Kh) (ph_ix x1 24 (ph_ix x2 24 (ph_lt (mz_91 x2) (mz_91 x1) (ph_ix x1 24 (M_work_j164 mn ma ms mu mm mv ml md_106 mz_91 mo x1 x2 (mz_91 x1)  Q Kh)) (ph_ix x2 24 (M_work_j164 mn ma ms mu mm mv ml md_106 mz_91 mo x1 x2 (mz_91 x2)  Q Kh))))))))))))))
def M_work_l42 (mn : Int) (ma : Int → Int) (ms : Int → Int) (mu : Int → Int) (mm : Int → Int) (mv : Int → Int) (ml : Int → Int) (mo : Int → Int) (Ke171 : (Int → Int) → (Int → Int) → Prop) (Q : (Int → Int) → (Int → Int) → (Int → Int) → Prop) (Kh : Int → (Int → Int) → (Int → Int) → Prop) (x1 : Int) (md : Int → Int) (mz : Int → Int) : Prop :=
  ph_lt x1 0 (Ke171 md mz) (ph_ix x1 24 (ph_nm (ma x1) (fun x2_52 => ph_lt x2_52 0 (ph_nm (x1 + (-1)) (fun x1_165 => Kh x1_165 md mz)) (ph_ix x1 24 (ph_lt (mz x1) 0 (M_work_j91 mn ma ms mu mm mv ml md mz mo x1 x2_52 x1 (-1)  Q Kh) (ph_ix x1 24 (ph_ix x1 24 (M_sizeFor_wp ml (md x1) (mz x1) (fun r_88 => M_work_j91 mn ma ms mu mm mv ml md mz mo x1 x2_52 x1 r_88  Q Kh)))))))))
def M_work_j247 (mn : Int) (ma : Int → Int) (ms : Int → Int) (mu : Int → Int) (mm : Int → Int) (mv : Int → Int) (ml : Int → Int) (md : Int → Int) (mz : Int → Int) (mo : Int → Int) (x1 : Int) (s0 : Int) (s1 : Int) (Q : (Int → Int) → (Int → Int) → (Int → Int) → Prop) (Kh : Int → (Int → Int) → Prop) : Prop :=
  ph_ix s0 24 (ph_nm (ph_u mo s0 s1) (fun mo_247 => ph_nm (x1 + 1) (fun x1_248 => Kh x1_248 mo_247)))
def M_work_j204 (mn : Int) (ma : Int → Int) (ms : Int → Int) (mu : Int → Int) (mm : Int → Int) (mv : Int → Int) (ml : Int → Int) (md : Int → Int) (mz : Int → Int) (mo : Int → Int) (x1 : Int) (s0 : Int) (Q : (Int → Int) → (Int → Int) → (Int → Int) → Prop) (Kh : Int → (Int → Int) → Prop) : Prop :=
  ph_eq s0 0 (M_work_j247 mn ma ms mu mm mv ml md mz mo x1 x1 0  Q Kh) (ph_ix x1 24 (ph_ix (ma x1) 24 (ph_ix 0 4 (ph_ix x1 24 (M_work_j247 mn ma ms mu mm mv ml md mz mo x1 x1 ((mo (ma x1)) + ((5 * (mv 0)) * ((mm x1) - 1)))  Q Kh)))))
def M_work_l173 (mn : Int) (ma : Int → Int) (ms : Int → Int) (mu : Int → Int) (mm : Int → Int) (mv : Int → Int) (ml : Int → Int) (md : Int → Int) (mz : Int → Int) (Q : (Int → Int) → (Int → Int) → (Int → Int) → Prop) (Kh : Int → (Int → Int) → Prop) (x1 : Int) (mo : Int → Int) : Prop :=
  ph_lt x1 mn (ph_ix x1 24 (ph_lt (ma x1) 0 (M_work_j204 mn ma ms mu mm mv ml md mz mo x1 0  Q Kh) (ph_ix x1 24 (ph_eq (ms x1) 0 (M_work_j204 mn ma ms mu mm mv ml md mz mo x1 1  Q Kh) (M_work_j204 mn ma ms mu mm mv ml md mz mo x1 0  Q Kh))))) (Q md mz mo)
def M_work_wp (mn : Int) (ma : Int → Int) (ms : Int → Int) (mu : Int → Int) (mm : Int → Int) (mv : Int → Int) (ml : Int → Int) (md : Int → Int) (mz : Int → Int) (mo : Int → Int) (Q : (Int → Int) → (Int → Int) → (Int → Int) → Prop) : Prop :=
  ∃ kk, ph_it (fun _ _ _ => False) (M_work_l2 mn ma ms mu mm mv ml mo (fun md_35 mz_35 => ph_nm (mn - 1) (fun x1_41 => ∃ kk, ph_it (fun _ _ _ => False) (M_work_l42 mn ma ms mu mm mv ml mo (fun md_171 mz_171 => ∃ kk, ph_it (fun _ _ => False) (M_work_l173 mn ma ms mu mm mv ml md_171 mz_171  Q) kk 0 mo) Q) kk x1_41 md_35 mz_35)) Q) kk 0 md mz
def M_turnsOf_l4 (mr : Int → Int) (mm : Int → Int) (x1 : Int) (Q : Int → Prop) (Kh : Int → Int → Prop) (x2 : Int) (x3 : Int) : Prop :=
  ph_ix x1 24 (ph_lt x3 (mm x1) (ph_ix (((144 * x1) + x3) - 1) 3456 (ph_ix (((144 * x1) + x3) - 2) 3456 (ph_nm ((mr (((144 * x1) + x3) - 1)) - (mr (((144 * x1) + x3) - 2))) (fun x4_43 => ph_ix ((144 * x1) + x3) 3456 (ph_ix (((144 * x1) + x3) - 1) 3456 (ph_nm ((mr ((144 * x1) + x3)) - (mr (((144 * x1) + x3) - 1))) (fun x5_72 => ph_eq x4_43 x5_72 (ph_nm (x2 + 0) (fun x2_88 => ph_nm (x3 + 1) (fun x3_89 => Kh x2_88 x3_89))) (ph_nm (x2 + 1) (fun x2_88 => ph_nm (x3 + 1) (fun x3_89 => Kh x2_88 x3_89)))))))))) (Q x2))
def M_turnsOf_wp (mr : Int → Int) (mm : Int → Int) (x1 : Int) (Q : Int → Prop) : Prop :=
  ∃ kk, ph_it (fun _ _ => False) (M_turnsOf_l4 mr mm x1  Q) kk 0 2
def M_isTrap_wp (ms : Int → Int) (mu : Int → Int) (x1 : Int) (Q : Int → Prop) : Prop :=
  ph_ix x1 24 (ph_eq (ms x1) 0 (ph_ix x1 24 (ph_lt 0 (mu x1) (ph_bo 1 (Q 1)) (ph_bo 0 (Q 0)))) (ph_bo 0 (Q 0)))
def M_isSafe_l25 (ma : Int → Int) (ms : Int → Int) (mu : Int → Int) (mi : Int → Int) (mm : Int → Int) (mv : Int → Int) (mz : Int → Int) (x1 : Int) (Ke52 : Int → Prop) (Q : Int → Prop) (Kh : Int → Int → Prop) (x2 : Int) (x3 : Int) : Prop :=
  ph_ix x3 24 (ph_eq (mi x3) 0 (M_lengthOf_wp mm x3 (fun r_37 => ph_nm (x2 + r_37) (fun x2_41 => ph_ix x3 24 (ph_nm (ma x3) (fun x3_48 => Kh x2_41 x3_48))))) (Ke52 x2))
def M_isSafe_wp (ma : Int → Int) (ms : Int → Int) (mu : Int → Int) (mi : Int → Int) (mm : Int → Int) (mv : Int → Int) (mz : Int → Int) (x1 : Int) (Q : Int → Prop) : Prop :=
  M_isTrap_wp ms mu x1 (fun r_2 => ph_eq r_2 0 (ph_bo 0 (Q 0)) (ph_ix x1 24 (ph_lt (ma x1) 0 (ph_bo 1 (Q 1)) (∃ kk, ph_it (fun _ _ => False) (M_isSafe_l25 ma ms mu mi mm mv mz x1 (fun x2_52 => ph_ix x1 24 (ph_lt (mz x1) 0 (ph_bo 0 (Q 0)) (ph_ix 2 4 (ph_ix x1 24 (ph_lt ((mv 2) * ((mz x1) + 1)) x2_52 (ph_bo 0 (Q 0)) (ph_bo 1 (Q 1))))))) Q) kk 0 x1))))
def M_secondsOf_l33 (ma : Int → Int) (ms : Int → Int) (mu : Int → Int) (mm : Int → Int) (mz : Int → Int) (x1 : Int) (Ke89 : Int → Prop) (Q : Int → Prop) (Kh : Int → Int → Prop) (x2 : Int) (x3 : Int) : Prop :=
  ph_ix x3 24 (ph_lt (ma x3) 0 (Ke89 x2) (ph_ix x3 24 (ph_lt (mz x3) 0 (Q (-1)) (M_lengthOf_wp mm x3 (fun r_56 => ph_ix x3 24 (ph_ix x3 24 (ph_nm (x2 + ((r_56 * ((mz x3) + 1)) * ((mz x3) + 1))) (fun x2_78 => ph_ix x3 24 (ph_nm (ma x3) (fun x3_85 => Kh x2_78 x3_85))))))))))
def M_secondsOf_wp (ma : Int → Int) (ms : Int → Int) (mu : Int → Int) (mm : Int → Int) (mz : Int → Int) (x1 : Int) (Q : Int → Prop) : Prop :=
  ph_ix x1 24 (ph_eq (ms x1) 0 (Q (-1)) (ph_ix x1 24 (ph_lt (ma x1) 0 (Q (-1)) (ph_ix x1 24 (ph_eq (mu x1) 0 (Q (-1)) (∃ kk, ph_it (fun _ _ => False) (M_secondsOf_l33 ma ms mu mm mz x1 (fun x2_89 => ph_ix x1 24 (ph_dv x2_89 (40 * (mu x1)) (Q (x2_89 / (40 * (mu x1)))))) Q) kk 0 x1))))))
def M_node_wp (mn : Int) (mc : Int → Int) (ma : Int → Int) (ms : Int → Int) (mu : Int → Int) (mi : Int → Int) (mr : Int → Int) (mm : Int → Int) (mv : Int → Int) (ml : Int → Int) (md : Int → Int) (mz : Int → Int) (mo : Int → Int) (x1 : Int) (x2 : Int) (Q : Int → (Int → Int) → (Int → Int) → (Int → Int) → Prop) : Prop :=
  M_isNode_wp mn x1 (fun r_2 => ph_eq r_2 0 (Q (-1001) md mz mo) (M_work_wp mn ma ms mu mm mv ml md mz mo (fun md_13 mz_13 mo_13 => ph_rr x2 (ph_ca x2 0 (ph_ix x1 24 (Q (mc x1) md_13 mz_13 mo_13)) (ph_ca x2 1 (ph_ix x1 24 (Q (ma x1) md_13 mz_13 mo_13)) (ph_ca x2 2 (ph_ix x1 24 (Q (ms x1) md_13 mz_13 mo_13)) (ph_ca x2 3 (ph_ix x1 24 (Q (mu x1) md_13 mz_13 mo_13)) (ph_ca x2 4 (ph_ix x1 24 (ph_eq (mi x1) 0 (Q 0 md_13 mz_13 mo_13) (Q 1 md_13 mz_13 mo_13))) (ph_ca x2 5 (ph_ix x1 24 (Q (md_13 x1) md_13 mz_13 mo_13)) (ph_ca x2 6 (M_lengthOf_wp mm x1 (fun r_132 => Q r_132 md_13 mz_13 mo_13)) (ph_ca x2 7 (M_turnsOf_wp mr mm x1 (fun r_138 => Q r_138 md_13 mz_13 mo_13)) (ph_ca x2 8 (ph_ix x1 24 (Q (mz_13 x1) md_13 mz_13 mo_13)) (ph_ca x2 9 (ph_ix x1 24 (Q (mo_13 x1) md_13 mz_13 mo_13)) (ph_ca x2 10 (M_isSafe_wp ma ms mu mi mm mv mz_13 x1 (fun r_158 => ph_eq r_158 0 (Q 0 md_13 mz_13 mo_13) (Q 1 md_13 mz_13 mo_13))) (ph_ca x2 11 (M_secondsOf_wp ma ms mu mm mz_13 x1 (fun r_172 => Q r_172 md_13 mz_13 mo_13)) (Q (-1002) md_13 mz_13 mo_13))))))))))))))))
def M_run_wp (mn : Int) (mr : Int → Int) (mm : Int → Int) (x1 : Int) (x2 : Int) (Q : Int → Prop) : Prop :=
  M_isNode_wp mn x1 (fun r_2 => ph_eq r_2 0 (Q (-1001)) (ph_rr x2 (ph_ix x1 24 (ph_rr ((mm x1) - 1) (M_in_wp x2 0 ((mm x1) - 1) (fun r_24 => ph_eq r_24 0 (Q (-1)) (ph_ix ((144 * x1) + x2) 3456 (Q (mr ((144 * x1) + x2))))))))))
def M_level_wp (mn : Int) (ma : Int → Int) (ms : Int → Int) (mu : Int → Int) (mm : Int → Int) (mv : Int → Int) (ml : Int → Int) (md : Int → Int) (mz : Int → Int) (mo : Int → Int) (x1 : Int) (x2 : Int) (Q : Int → (Int → Int) → (Int → Int) → (Int → Int) → Prop) : Prop :=
  M_isNode_wp mn x1 (fun r_2 => ph_eq r_2 0 (Q (-1001) md mz mo) (ph_ix x1 24 (ph_eq (ms x1) 1 (Q (-1003) md mz mo) (ph_rr x2 (ph_ix x1 24 (ph_rr ((mm x1) - 1) (M_in_wp x2 0 ((mm x1) - 1) (fun r_34 => ph_eq r_34 0 (Q (-1003) md mz mo) (M_work_wp mn ma ms mu mm mv ml md mz mo (fun md_45 mz_45 mo_45 => ph_ix x1 24 (ph_ix 0 4 (Q ((mo_45 x1) - ((5 * (mv 0)) * x2)) md_45 mz_45 mo_45))))))))))))
def M_placeIn_l5 (mr : Int → Int) (mm : Int → Int) (x1 : Int) (x2 : Int) (Q : Int → Prop) (Kh : Int → Int → Prop) (x3 : Int) (x4 : Int) : Prop :=
  ph_ix x1 24 (ph_lt x4 (mm x1) (ph_ix ((144 * x1) + x4) 3456 (ph_eq (mr ((144 * x1) + x4)) x2 (ph_nm (x4 + 1) (fun x4_40 => Kh x4 x4_40)) (ph_nm (x4 + 1) (fun x4_40 => Kh x3 x4_40)))) (Q x3))
def M_placeIn_wp (mr : Int → Int) (mm : Int → Int) (x1 : Int) (x2 : Int) (Q : Int → Prop) : Prop :=
  ∃ kk, ph_it (fun _ _ => False) (M_placeIn_l5 mr mm x1 x2  Q) kk (-1) 0
def M_clashCell_j184 (ma : Int → Int) (ms : Int → Int) (mr : Int → Int) (mm : Int → Int) (mv : Int → Int) (mo : Int → Int) (x1 : Int) (x2 : Int) (x3 : Int) (x4 : Int) (x5 : Int) (x6 : Int) (s0 : Int) (Q : Int → Prop) (Kh : Int → Int → Prop) : Prop :=
  ph_eq s0 0 (ph_nm (x5 + 1) (fun x5_212 => Kh x4 x5_212)) (ph_lt x4 0 (ph_nm (x5 + 1) (fun x5_212 => Kh x6 x5_212)) (ph_lt x6 x4 (ph_nm (x5 + 1) (fun x5_212 => Kh x6 x5_212)) (ph_nm (x5 + 1) (fun x5_212 => Kh x4 x5_212))))
def M_clashCell_j170 (ma : Int → Int) (ms : Int → Int) (mr : Int → Int) (mm : Int → Int) (mv : Int → Int) (mo : Int → Int) (x1 : Int) (x2 : Int) (x3 : Int) (x4 : Int) (x5 : Int) (x6 : Int) (s0 : Int) (Q : Int → Prop) (Kh : Int → Int → Prop) : Prop :=
  ph_ix 1 4 (ph_lt s0 (mv 1) (M_clashCell_j184 ma ms mr mm mv mo x1 x2 x3 x4 x5 x6 1  Q Kh) (M_clashCell_j184 ma ms mr mm mv mo x1 x2 x3 x4 x5 x6 0  Q Kh))
def M_clashCell_l83 (ma : Int → Int) (ms : Int → Int) (mr : Int → Int) (mm : Int → Int) (mv : Int → Int) (mo : Int → Int) (x1 : Int) (x2 : Int) (x3 : Int) (Q : Int → Prop) (Kh : Int → Int → Prop) (x4 : Int) (x5 : Int) : Prop :=
  ph_ix x1 24 (ph_lt x5 (mm x1) (ph_eq x3 0 (Q x4) (ph_ix ((144 * x1) + x5) 3456 (ph_nm (mr ((144 * x1) + x5)) (fun x6_111 => M_placeIn_wp mr mm x2 x6_111 (fun r_117 => ph_ix x1 24 (ph_ix x2 24 (ph_ix 0 4 (ph_nm (((mo x1) - (mo x2)) - ((5 * (mv 0)) * (x5 - r_117))) (fun x8_150 => ph_lt r_117 0 (M_clashCell_j184 ma ms mr mm mv mo x1 x2 x3 x4 x5 x6_111 0  Q Kh) (ph_lt x8_150 0 (M_clashCell_j170 ma ms mr mm mv mo x1 x2 x3 x4 x5 x6_111 (-x8_150)  Q Kh) (M_clashCell_j170 ma ms mr mm mv mo x1 x2 x3 x4 x5 x6_111 x8_150  Q Kh))))))))))) (Q x4))
def M_clashCell_j76 (ma : Int → Int) (ms : Int → Int) (mr : Int → Int) (mm : Int → Int) (mv : Int → Int) (mo : Int → Int) (x1 : Int) (x2 : Int) (s0 : Int) (Q : Int → Prop) : Prop :=
  ∃ kk, ph_it (fun _ _ => False) (M_clashCell_l83 ma ms mr mm mv mo x1 x2 s0  Q) kk (-1) 0
def M_clashCell_wp (ma : Int → Int) (ms : Int → Int) (mr : Int → Int) (mm : Int → Int) (mv : Int → Int) (mo : Int → Int) (x1 : Int) (x2 : Int) (Q : Int → Prop) : Prop :=
  ph_ix x1 24 (ph_eq (ms x1) 0 (ph_ix x2 24 (ph_eq (ms x2) 0 (ph_ix x1 24 (ph_lt (ma x1) 0 (M_clashCell_j76 ma ms mr mm mv mo x1 x2 0  Q ) (ph_ix x2 24 (ph_lt (ma x2) 0 (M_clashCell_j76 ma ms mr mm mv mo x1 x2 0  Q ) (ph_ix x1 24 (ph_eq (ma x1) x2 (M_clashCell_j76 ma ms mr mm mv mo x1 x2 0  Q ) (ph_ix x2 24 (ph_eq (ma x2) x1 (M_clashCell_j76 ma ms mr mm mv mo x1 x2 0  Q ) (ph_ix x1 24 (ph_ix x2 24 (ph_eq (ma x1) (ma x2) (M_clashCell_j76 ma ms mr mm mv mo x1 x2 0  Q ) (M_clashCell_j76 ma ms mr mm mv mo x1 x2 1  Q )))))))))))) (M_clashCell_j76 ma ms mr mm mv mo x1 x2 0  Q ))) (M_clashCell_j76 ma ms mr mm mv mo x1 x2 0  Q ))
def M_clashes_l16 (mn : Int) (ma : Int → Int) (ms : Int → Int) (mr : Int → Int) (mm : Int → Int) (mv : Int → Int) (mo : Int → Int) (x2 : Int) (Ke47 : Int → Prop) (Q : Int → Prop) (Kh : Int → Int → Prop) (x1 : Int) (x3 : Int) : Prop :=
  ph_lt x3 mn (M_clashCell_wp ma ms mr mm mv mo x2 x3 (fun r_28 => ph_lt r_28 0 (ph_nm (x1 + 0) (fun x1_40 => ph_nm (x3 + 1) (fun x3_41 => Kh x1_40 x3_41))) (ph_nm (x1 + 1) (fun x1_40 => ph_nm (x3 + 1) (fun x3_41 => Kh x1_40 x3_41))))) (Ke47 x1)
def M_clashes_l4 (mn : Int) (ma : Int → Int) (ms : Int → Int) (mr : Int → Int) (mm : Int → Int) (mv : Int → Int) (mo : Int → Int) (Q : Int → Prop) (Kh : Int → Int → Prop) (x1 : Int) (x2 : Int) : Prop :=
  ph_lt x2 mn (ph_nm (x2 + 1) (fun x3_15 => ∃ kk, ph_it (fun _ _ => False) (M_clashes_l16 mn ma ms mr mm mv mo x2 (fun x1_47 => ph_nm (x2 + 1) (fun x2_47 => Kh x1_47 x2_47)) Q) kk x1 x3_15)) (Q x1)
def M_clashes_wp (mn : Int) (ma : Int → Int) (ms : Int → Int) (mr : Int → Int) (mm : Int → Int) (mv : Int → Int) (mo : Int → Int) (Q : Int → Prop) : Prop :=
  ∃ kk, ph_it (fun _ _ => False) (M_clashes_l4 mn ma ms mr mm mv mo  Q) kk 0 0
def M_clash_l34 (mn : Int) (ma : Int → Int) (ms : Int → Int) (mu : Int → Int) (mr : Int → Int) (mm : Int → Int) (mv : Int → Int) (ml : Int → Int) (md : Int → Int) (mz : Int → Int) (mo : Int → Int) (x1 : Int) (x2 : Int) (Ke81 : Prop) (Ke55 : Int → Int → Prop) (Q : Int → (Int → Int) → (Int → Int) → (Int → Int) → Prop) (Kh : Int → Prop) (x3 : Int) : Prop :=
  ph_lt x3 mn (M_clashCell_wp ma ms mr mm mv mo x2 x3 (fun r_45 => ph_lt r_45 0 (ph_nm (x3 + 1) (fun x3_75 => Kh x3_75)) (Ke55 x3 r_45))) (Ke81)
def M_clash_l22 (mn : Int) (ma : Int → Int) (ms : Int → Int) (mu : Int → Int) (mr : Int → Int) (mm : Int → Int) (mv : Int → Int) (ml : Int → Int) (md : Int → Int) (mz : Int → Int) (mo : Int → Int) (x1 : Int) (Ke55 : Int → Int → Int → Prop) (Q : Int → (Int → Int) → (Int → Int) → (Int → Int) → Prop) (Kh : Int → Prop) (x2 : Int) : Prop :=
  ph_lt x2 mn (ph_nm (x2 + 1) (fun x3_33 => ∃ kk, ph_it (fun _ => False) (M_clash_l34 mn ma ms mu mr mm mv ml md mz mo x1 x2 (ph_nm (x2 + 1) (fun x2_81 => Kh x2_81)) (fun x3_55 x4_55 => Ke55 x2 x3_55 x4_55) Q) kk x3_33)) (Q (-1) md mz mo)
def M_clash_wp (mn : Int) (ma : Int → Int) (ms : Int → Int) (mu : Int → Int) (mr : Int → Int) (mm : Int → Int) (mv : Int → Int) (ml : Int → Int) (md : Int → Int) (mz : Int → Int) (mo : Int → Int) (x1 : Int) (Q : Int → (Int → Int) → (Int → Int) → (Int → Int) → Prop) : Prop :=
  ph_rr x1 (M_in_wp x1 0 2 (fun r_6 => ph_eq r_6 0 (Q (-1002) md mz mo) (M_work_wp mn ma ms mu mm mv ml md mz mo (fun md_17 mz_17 mo_17 => ∃ kk, ph_it (fun _ => False) (M_clash_l22 mn ma ms mu mr mm mv ml md_17 mz_17 mo_17 x1 (fun x2_55 x3_55 x4_55 => ph_eq x1 0 (Q x2_55 md_17 mz_17 mo_17) (ph_eq x1 1 (Q x3_55 md_17 mz_17 mo_17) (Q x4_55 md_17 mz_17 mo_17))) Q) kk 0))))
def M_counted_j14 (ma : Int → Int) (ms : Int → Int) (mu : Int → Int) (mi : Int → Int) (mr : Int → Int) (mm : Int → Int) (mv : Int → Int) (mz : Int → Int) (x1 : Int) (x2 : Int) (s0 : Int) (Q : Int → Prop) : Prop :=
  ph_rr x2 (ph_ca x2 1 (ph_eq s0 0 (Q 0) (Q 1)) (ph_ca x2 2 (ph_eq s0 0 (ph_ix x1 24 (ph_lt (mz x1) 0 (Q 1) (Q 0))) (Q 0)) (ph_ca x2 3 (M_isTrap_wp ms mu x1 (fun r_87 => ph_eq r_87 0 (Q 0) (Q 1))) (ph_ca x2 4 (M_isSafe_wp ma ms mu mi mm mv mz x1 (fun r_101 => ph_eq r_101 0 (Q 0) (Q 1))) (ph_ca x2 6 (M_lengthOf_wp mm x1 (fun r_115 => Q r_115)) (M_turnsOf_wp mr mm x1 (fun r_121 => Q r_121)))))))
def M_counted_wp (ma : Int → Int) (ms : Int → Int) (mu : Int → Int) (mi : Int → Int) (mr : Int → Int) (mm : Int → Int) (mv : Int → Int) (mz : Int → Int) (x1 : Int) (x2 : Int) (Q : Int → Prop) : Prop :=
  ph_ix x1 24 (ph_lt (ma x1) 0 (M_counted_j14 ma ms mu mi mr mm mv mz x1 x2 1  Q ) (M_counted_j14 ma ms mu mi mr mm mv mz x1 x2 0  Q ))
def M_count_j29 (mn : Int) (ma : Int → Int) (ms : Int → Int) (mu : Int → Int) (mi : Int → Int) (mr : Int → Int) (mm : Int → Int) (mv : Int → Int) (ml : Int → Int) (md : Int → Int) (mz : Int → Int) (mo : Int → Int) (x1 : Int) (Q : Int → (Int → Int) → (Int → Int) → (Int → Int) → Prop) : Prop :=
  ph_eq x1 0 (Q mn md mz mo) (M_clashes_wp mn ma ms mr mm mv mo (fun r_41 => Q r_41 md mz mo))
def M_count_l59 (mn : Int) (ma : Int → Int) (ms : Int → Int) (mu : Int → Int) (mi : Int → Int) (mr : Int → Int) (mm : Int → Int) (mv : Int → Int) (ml : Int → Int) (md : Int → Int) (mz : Int → Int) (mo : Int → Int) (x1 : Int) (Q : Int → (Int → Int) → (Int → Int) → (Int → Int) → Prop) (Kh : Int → Int → Prop) (x2 : Int) (x3 : Int) : Prop :=
  ph_lt x3 mn (ph_eq x1 8 (M_secondsOf_wp ma ms mu mm mz x3 (fun r_75 => ph_lt x2 r_75 (ph_nm (x3 + 1) (fun x3_105 => Kh r_75 x3_105)) (ph_nm (x3 + 1) (fun x3_105 => Kh x2 x3_105)))) (M_counted_wp ma ms mu mi mr mm mv mz x3 x1 (fun r_100 => ph_nm (x2 + r_100) (fun x2_104 => ph_nm (x3 + 1) (fun x3_105 => Kh x2_104 x3_105))))) (Q x2 md mz mo)
def M_count_wp (mn : Int) (ma : Int → Int) (ms : Int → Int) (mu : Int → Int) (mi : Int → Int) (mr : Int → Int) (mm : Int → Int) (mv : Int → Int) (ml : Int → Int) (md : Int → Int) (mz : Int → Int) (mo : Int → Int) (x1 : Int) (Q : Int → (Int → Int) → (Int → Int) → (Int → Int) → Prop) : Prop :=
  ph_rr x1 (M_in_wp x1 0 8 (fun r_6 => ph_eq r_6 0 (Q (-1002) md mz mo) (M_work_wp mn ma ms mu mm mv ml md mz mo (fun md_17 mz_17 mo_17 => ph_eq x1 0 (M_count_j29 mn ma ms mu mi mr mm mv ml md_17 mz_17 mo_17 x1  Q ) (ph_eq x1 5 (M_count_j29 mn ma ms mu mi mr mm mv ml md_17 mz_17 mo_17 x1  Q ) (ph_eq x1 8 (∃ kk, ph_it (fun _ _ => False) (M_count_l59 mn ma ms mu mi mr mm mv ml md_17 mz_17 mo_17 x1  Q) kk (-1) 0) (∃ kk, ph_it (fun _ _ => False) (M_count_l59 mn ma ms mu mi mr mm mv ml md_17 mz_17 mo_17 x1  Q) kk 0 0)))))))
def M_fewestBars_j190 (mv : Int → Int) (mq : Int → Int) (mt : Int) (me : Int → Int) (mx : Int → Int) (x1 : Int) (x2 : Int) (x3 : Int) (x6 : Int) (x7 : Int) (Q : Int → (Int → Int) → (Int → Int) → Prop) (Kh : Int → (Int → Int) → (Int → Int) → Prop) : Prop :=
  ph_ix x2 4096 (ph_nm (ph_u me x2 x6) (fun me_197 => ph_ix x2 4096 (ph_nm (ph_u mx x2 x7) (fun mx_205 => ph_nm (x3 + 1) (fun x3_206 => Kh x3_206 me_197 mx_205)))))
def M_fewestBars_j155 (mv : Int → Int) (mq : Int → Int) (mt : Int) (me : Int → Int) (mx : Int → Int) (x1 : Int) (x2 : Int) (x3 : Int) (x6 : Int) (s0 : Int) (Q : Int → (Int → Int) → (Int → Int) → Prop) (Kh : Int → (Int → Int) → (Int → Int) → Prop) : Prop :=
  ph_ix x2 4096 (ph_lt x6 (me x2) (M_fewestBars_j190 mv mq mt me mx x1 x2 x3 x6 s0  Q Kh) (ph_ix x2 4096 (ph_eq x6 (me x2) (ph_ix x2 4096 (ph_lt s0 (mx x2) (M_fewestBars_j190 mv mq mt me mx x1 x2 x3 x6 s0  Q Kh) (ph_nm (x3 + 1) (fun x3_206 => Kh x3_206 me mx)))) (ph_nm (x3 + 1) (fun x3_206 => Kh x3_206 me mx)))))
def M_fewestBars_j125 (mv : Int → Int) (mq : Int → Int) (mt : Int) (me : Int → Int) (mx : Int → Int) (x1 : Int) (x2 : Int) (x3 : Int) (x4 : Int) (x5 : Int) (s0 : Int) (Q : Int → (Int → Int) → (Int → Int) → Prop) (Kh : Int → (Int → Int) → (Int → Int) → Prop) : Prop :=
  ph_eq x5 0 (ph_ix x3 24 (M_fewestBars_j155 mv mq mt me mx x1 x2 x3 s0 (mq x3)  Q Kh)) (ph_ix x4 4096 (ph_ix x3 24 (M_fewestBars_j155 mv mq mt me mx x1 x2 x3 s0 ((mx x4) + (mq x3))  Q Kh)))
def M_fewestBars_j99 (mv : Int → Int) (mq : Int → Int) (mt : Int) (me : Int → Int) (mx : Int → Int) (x1 : Int) (x2 : Int) (x3 : Int) (x4 : Int) (s0 : Int) (Q : Int → (Int → Int) → (Int → Int) → Prop) (Kh : Int → (Int → Int) → (Int → Int) → Prop) : Prop :=
  ph_eq s0 0 (ph_ix x4 4096 (M_fewestBars_j125 mv mq mt me mx x1 x2 x3 x4 s0 ((me x4) + 1)  Q Kh)) (ph_ix x4 4096 (M_fewestBars_j125 mv mq mt me mx x1 x2 x3 x4 s0 (me x4)  Q Kh))
def M_fewestBars_l50 (mv : Int → Int) (mq : Int → Int) (mt : Int) (x1 : Int) (x2 : Int) (Ke212 : (Int → Int) → (Int → Int) → Prop) (Q : Int → (Int → Int) → (Int → Int) → Prop) (Kh : Int → (Int → Int) → (Int → Int) → Prop) (x3 : Int) (me : Int → Int) (mx : Int → Int) : Prop :=
  ph_lt x3 mt (ph_eq (ph_and (ph_shr x2 x3) 1) 1 (ph_nm (ph_and x2 (ph_xor (ph_shl 1 x3) (-1))) (fun x4_74 => ph_ix x4_74 4096 (ph_ix x3 24 (ph_lt x1 ((mx x4_74) + (mq x3)) (M_fewestBars_j99 mv mq mt me mx x1 x2 x3 x4_74 0  Q Kh) (M_fewestBars_j99 mv mq mt me mx x1 x2 x3 x4_74 1  Q Kh))))) (ph_nm (x3 + 1) (fun x3_206 => Kh x3_206 me mx))) (Ke212 me mx)
def M_fewestBars_l23 (mv : Int → Int) (mq : Int → Int) (mt : Int) (x1 : Int) (Ke218 : (Int → Int) → (Int → Int) → Prop) (Q : Int → (Int → Int) → (Int → Int) → Prop) (Kh : Int → (Int → Int) → (Int → Int) → Prop) (x2 : Int) (me : Int → Int) (mx : Int → Int) : Prop :=
  ph_lt x2 (ph_shl 1 mt) (ph_ix x2 4096 (ph_nm (ph_u me x2 1000000000) (fun me_40 => ph_ix x2 4096 (ph_nm (ph_u mx x2 0) (fun mx_47 => ∃ kk, ph_it (fun _ _ _ => False) (M_fewestBars_l50 mv mq mt x1 x2 (fun me_212 mx_212 => ph_nm (x2 + 1) (fun x2_212 => Kh x2_212 me_212 mx_212)) Q) kk 0 me_40 mx_47))))) (Ke218 me mx)
def M_fewestBars_wp (mv : Int → Int) (mq : Int → Int) (mt : Int) (me : Int → Int) (mx : Int → Int) (Q : Int → (Int → Int) → (Int → Int) → Prop) : Prop :=
  ph_ix 3 4 (ph_nm (mv 3) (fun x1_6 => ph_ix 0 4096 (ph_nm (ph_u me 0 0) (fun me_13 => ph_ix 0 4096 (ph_nm (ph_u mx 0 x1_6) (fun mx_20 => ∃ kk, ph_it (fun _ _ _ => False) (M_fewestBars_l23 mv mq mt x1_6 (fun me_218 mx_218 => ph_ix ((ph_shl 1 mt) - 1) 4096 (Q (me_218 ((ph_shl 1 mt) - 1)) me_218 mx_218)) Q) kk 1 me_13 mx_20))))))
def M_bars_j129 (mn : Int) (ma : Int → Int) (ms : Int → Int) (mu : Int → Int) (mm : Int → Int) (mv : Int → Int) (ml : Int → Int) (md : Int → Int) (mz : Int → Int) (mo : Int → Int) (mq : Int → Int) (mt : Int) (me : Int → Int) (mx : Int → Int) (x1 : Int) (x2 : Int) (x3 : Int) (x4 : Int) (x5 : Int) (x6 : Int) (x7 : Int) (x9 : Int) (Q : Int → (Int → Int) → (Int → Int) → (Int → Int) → (Int → Int) → (Int) → (Int → Int) → (Int → Int) → Prop) (Kh : Int → Int → Int → Int → (Int → Int) → (Int) → Prop) : Prop :=
  ph_lt 0 x9 (ph_ix mt 24 (ph_nm (ph_u mq mt x9) (fun mq_144 => ph_nm (mt + 1) (fun mt_152 => ph_nm (x7 + 1) (fun x7_155 => Kh x4 x5 x6 x7_155 mq_144 mt_152))))) (ph_nm (x7 + 1) (fun x7_155 => Kh x4 x5 x6 x7_155 mq mt))
def M_bars_l56 (mn : Int) (ma : Int → Int) (ms : Int → Int) (mu : Int → Int) (mm : Int → Int) (mv : Int → Int) (ml : Int → Int) (md : Int → Int) (mz : Int → Int) (mo : Int → Int) (me : Int → Int) (mx : Int → Int) (x1 : Int) (x2 : Int) (x3 : Int) (Ke161 : Int → Int → Int → (Int → Int) → (Int) → Prop) (Q : Int → (Int → Int) → (Int → Int) → (Int → Int) → (Int → Int) → (Int) → (Int → Int) → (Int → Int) → Prop) (Kh : Int → Int → Int → Int → (Int → Int) → (Int) → Prop) (x4 : Int) (x5 : Int) (x6 : Int) (x7 : Int) (mq : Int → Int) (mt : Int) : Prop :=
  ph_lt x7 mn (ph_ix x7 24 (ph_lt (ma x7) 0 (ph_nm (x7 + 1) (fun x7_155 => Kh x4 x5 x6 x7_155 mq mt)) (ph_ix x7 24 (ph_eq (mz x7) x1 (M_lengthOf_wp mm x7 (fun r_89 => ph_nm (x6 + 1) (fun x6_94 => ph_nm (x5 + r_89) (fun x5_102 => ph_lt x3 r_89 (ph_dv r_89 x3 (ph_nm (x4 + (r_89 / x3)) (fun x4_121 => ph_dv r_89 x3 (ph_nm (r_89 % x3) (fun x9_127 => M_bars_j129 mn ma ms mu mm mv ml md mz mo mq mt me mx x1 x2 x3 x4_121 x5_102 x6_94 x7 x9_127  Q Kh))))) (M_bars_j129 mn ma ms mu mm mv ml md mz mo mq mt me mx x1 x2 x3 x4 x5_102 x6_94 x7 r_89  Q Kh))))) (ph_nm (x7 + 1) (fun x7_155 => Kh x4 x5 x6 x7_155 mq mt)))))) (Ke161 x4 x5 x6 mq mt)
def M_bars_j170 (mn : Int) (ma : Int → Int) (ms : Int → Int) (mu : Int → Int) (mm : Int → Int) (mv : Int → Int) (ml : Int → Int) (md : Int → Int) (mz : Int → Int) (mo : Int → Int) (mq : Int → Int) (mt : Int) (me : Int → Int) (mx : Int → Int) (x2 : Int) (x6 : Int) (Q : Int → (Int → Int) → (Int → Int) → (Int → Int) → (Int → Int) → (Int) → (Int → Int) → (Int → Int) → Prop) : Prop :=
  ph_eq x2 0 (Q mt md mz mo mq mt me mx) (Q x6 md mz mo mq mt me mx)
def M_bars_wp (mn : Int) (ma : Int → Int) (ms : Int → Int) (mu : Int → Int) (mm : Int → Int) (mv : Int → Int) (ml : Int → Int) (md : Int → Int) (mz : Int → Int) (mo : Int → Int) (mq : Int → Int) (mt : Int) (me : Int → Int) (mx : Int → Int) (x1 : Int) (x2 : Int) (Q : Int → (Int → Int) → (Int → Int) → (Int → Int) → (Int → Int) → (Int) → (Int → Int) → (Int → Int) → Prop) : Prop :=
  ph_rr x1 (M_in_wp x1 0 5 (fun r_6 => ph_eq r_6 0 (Q (-1002) md mz mo mq mt me mx) (ph_rr x2 (M_in_wp x2 0 3 (fun r_18 => ph_eq r_18 0 (Q (-1002) md mz mo mq mt me mx) (M_work_wp mn ma ms mu mm mv ml md mz mo (fun md_29 mz_29 mo_29 => ph_ix 3 4 (ph_nm (mv 3) (fun x3_38 => ∃ kk, ph_it (fun _ _ _ _ _ _ => False) (M_bars_l56 mn ma ms mu mm mv ml md_29 mz_29 mo_29 me mx x1 x2 x3_38 (fun x4_161 x5_161 x6_161 mq_161 mt_161 => ph_eq x2 0 (M_bars_j170 mn ma ms mu mm mv ml md_29 mz_29 mo_29 mq_161 mt_161 me mx x2 x6_161  Q ) (ph_eq x2 3 (M_bars_j170 mn ma ms mu mm mv ml md_29 mz_29 mo_29 mq_161 mt_161 me mx x2 x6_161  Q ) (ph_lt 12 mt_161 (Q (-1003) md_29 mz_29 mo_29 mq_161 mt_161 me mx) (M_fewestBars_wp mv mq_161 mt_161 me mx (fun r_200 me_200 mx_200 => ph_nm (x4_161 + r_200) (fun x7_204 => ph_eq x2 1 (Q x7_204 md_29 mz_29 mo_29 mq_161 mt_161 me_200 mx_200) (Q ((x7_204 * x3_38) - x5_161) md_29 mz_29 mo_29 mq_161 mt_161 me_200 mx_200))))))) Q) kk 0 0 0 0 mq 0)))))))))
