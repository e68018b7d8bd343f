-- what must hold of a row of the tables
def a_pc (tb : List AEn) (j : Nat) : Nat := match tb[j]? with
  | some e => e.1
  | none => 0
def a_isN : Jvm.Cond → Bool
  | .fieldLinkNest .. => true
  | .methodLinkNest .. => true
  | _ => false
def GW : List Jvm.Cond := lw_tbl.filter goodWord
def a_snm (r : Nat) : String := if r = 1 then "STEP_SIGNS" else if r = 2 then "STEP_ROWS" else "STEP_COLUMNS"
def a_w (w : Nat) (c : Jvm.Cond) : Bool := decide (lw_tbl[w]? = some c)
def ok_fl (own : String) (idx w nest ci sl : Nat) : Bool := match classes[ci]? with
  | some q => decide (sl < q.2.2) && (decide ((q.2.1 sl).1 = q.1) && (if nest = 0 then a_w w (.fieldLink own idx q.1 (q.2.1 sl).2.1 (q.2.1 sl).2.2.1) else a_w w (.fieldLinkNest own idx q.1 (q.2.1 sl).2.1 (q.2.1 sl).2.2.1 "CornWay")))
  | none => false
def ok_pt (own : String) (ci sl ty fin : Nat) : Bool := match classes[ci]? with
  | some q => (if fin = 0 then decide ((q.2.1 sl).2.2.2 = false) else decide ((q.2.1 sl).2.2.2 = true) && decide (q.1 = own)) && (match parseFieldDescriptor (q.2.1 sl).2.2.1 with
    | some .int => ty == 0
    | some .boolean => ty == 1
    | some (.object _) => ty == 2
    | some (.array _) => ty == 2
    | _ => false)
  | none => false
def ok_ln (own : String) (idx w nest : Nat) (y : MethodName) : Bool := if nest = 0 then a_w w (.methodLink own idx y) else a_w w (.methodLinkNest own idx y "CornWay")
def ok_cl (mt : AMt) (wi wc n : Nat) : Bool := a_w wi (.initialized mt.1.cls) && (a_w wc (.code mt.1 mt.2.1 mt.2.2.1 mt.2.2.2.1) && decide ((parseMethodDescriptor mt.1.desc).map (fun d => d.parameters.length) = some n))
def ok_i (own : String) (nm : String) (tb : List AEn) (j pc : Nat) (ins : Instr) (len : Nat) (aux wx : List Nat) : Bool :=
  match ins with
  | .iconst n => len == 1 && (a_pc tb (j + 1) == pc + len && decide (Int32.ofInt n = a_cs aux))
  | .bipush n => len == 2 && (a_pc tb (j + 1) == pc + len && decide ((Int8.ofInt n).toInt32 = a_cs aux))
  | .sipush n => len == 3 && (a_pc tb (j + 1) == pc + len && decide ((Int16.ofInt n).toInt32 = a_cs aux))
  | .ldc i => len == 2 && (a_pc tb (j + 1) == pc + len && a_w (a_hd wx) (.constant own i (a_cs aux)))
  | .ldc_w i => len == 3 && (a_pc tb (j + 1) == pc + len && a_w (a_hd wx) (.constant own i (a_cs aux)))
  | .lconst n => len == 1 && (a_pc tb (j + 1) == pc + len && decide (n.val = a_hd aux))
  | .ldc2_w i => len == 3 && (a_pc tb (j + 1) == pc + len && a_w (a_hd wx) (.constantLong own i (lN (a_hd aux))))
  | .iload i => len == 2 && (a_pc tb (j + 1) == pc + len && i == a_hd aux)
  | .iload_n i => len == 1 && (a_pc tb (j + 1) == pc + len && i.val == a_hd aux)
  | .aload_n i => len == 1 && (a_pc tb (j + 1) == pc + len && i.val == a_hd aux)
  | .lload i => len == 2 && (a_pc tb (j + 1) == pc + len && i == a_hd aux)
  | .lload_n i => len == 1 && (a_pc tb (j + 1) == pc + len && i.val == a_hd aux)
  | .istore i => len == 2 && (a_pc tb (j + 1) == pc + len && i == a_hd aux)
  | .istore_n i => len == 1 && (a_pc tb (j + 1) == pc + len && i.val == a_hd aux)
  | .astore_n i => len == 1 && (a_pc tb (j + 1) == pc + len && i.val == a_hd aux)
  | .iinc i n => len == 3 && (a_pc tb (j + 1) == pc + len && (i == a_hd aux && decide (Int32.ofInt n = a_cs aux.tail)))
  | .goto off => len == 3 && decide ((pc : Int) + off = (a_pc tb (a_hd aux) : Int))
  | .ifCond _ off => len == 3 && (a_pc tb (j + 1) == pc + len && decide ((pc : Int) + off = (a_pc tb (a_hd aux) : Int)))
  | .if_icmp _ off => len == 3 && (a_pc tb (j + 1) == pc + len && decide ((pc : Int) + off = (a_pc tb (a_hd aux) : Int)))
  | .ifnonnull off => len == 3 && (a_pc tb (j + 1) == pc + len && decide ((pc : Int) + off = (a_pc tb (a_hd aux) : Int)))
  | .tableswitch dflt lo hi offs => decide (lo = 0) && (decide (hi = (aux.length : Int) - 2) && (decide ((pc : Int) + dflt = (a_pc tb (a_hd aux) : Int)) && (decide (2 ≤ aux.length) && (List.range (aux.length - 1)).all (fun i => match offs[i]? with
    | some o => decide ((pc : Int) + o = (a_pc tb (aux.getD (i + 1) 0) : Int))
    | none => false))))
  | .getfield i => len == 3 && (a_pc tb (j + 1) == pc + len && ok_fl own i (a_hd wx) (a_hd wx.tail) (a_hd aux) (a_hd aux.tail))
  | .putfield i => len == 3 && (a_pc tb (j + 1) == pc + len && (ok_fl own i (a_hd wx) (a_hd wx.tail) (a_hd aux) (a_hd aux.tail) && (ok_pt own (a_hd aux) (a_hd aux.tail) (a_hd aux.tail.tail) (a_hd wx.tail.tail) && (a_hd wx.tail.tail == 0 || (nm == "<init>" && a_hd wx.tail == 0)))))
  | .getstatic i => len == 3 && (a_pc tb (j + 1) == pc + len && (decide (0 < a_hd aux ∧ a_hd aux < 4) && (if a_hd wx.tail = 0 then a_w (a_hd wx) (.fieldLink own i "CornWay" (a_snm (a_hd aux)) "[I") else a_w (a_hd wx) (.fieldLinkNest own i "CornWay" (a_snm (a_hd aux)) "[I" "CornWay"))))
  | .new i => len == 3 && (a_pc tb (j + 1) == pc + len && (match classes[a_hd aux]? with
    | some q => a_w (a_hd wx) (.classLink own i q.1) && (a_w (a_hd wx.tail) (.instantiable q.1 q.2.2) && a_w (a_hd wx.tail.tail) (.initialized q.1))
    | none => false))
  | .newarray t => len == 2 && (a_pc tb (j + 1) == pc + len && (decide (a_hd aux.tail ≤ 2000000) && (match t with
    | .int => a_hd aux == 0 && a_w (a_hd wx) (.arrayClass .int)
    | .boolean => a_hd aux == 1 && a_w (a_hd wx) (.arrayClass .boolean)
    | _ => false)))
  | .anewarray i => len == 3 && (a_pc tb (j + 1) == pc + len && (decide (a_hd aux ≤ 2000000) && a_w (a_hd wx) (.classLink own i RX1)))
  | .invokevirtual i => len == 3 && (a_pc tb (j + 1) == pc + len && (match methods[a_hd aux]?, wx, classes[a_hd aux.tail.tail]? with
    | some mt, [w, nest, w2, w3, wi, wc], some q => ok_ln own i w nest mt.1 && (decide (q.1 = mt.1.cls) && (a_w w2 (.instanceMethod mt.1) && (a_w w3 (.selects mt.1.cls mt.1 mt.1) && ok_cl mt wi wc (a_hd aux.tail - 1))))
    | _, _, _ => false))
  | .invokestatic i => len == 3 && (a_pc tb (j + 1) == pc + len && (match aux, wx with
    | [c, n], [w, nest, w2, wi, wc] => (match methods[c]? with
      | some mt => ok_ln own i w nest mt.1 && (a_w w2 (.static mt.1) && ok_cl mt wi wc n)
      | none => false)
    | [_, _, t], [w, w2, w3, w4] => (match t with
      | 0 => a_w w (.methodLink own i Lib.Math.max.name) && (a_w w2 (.static Lib.Math.max.name) && (a_w w3 (.initialized "java/lang/Math") && a_w w4 (.code Lib.Math.max.name Lib.Math.max.code 2 (some .int))))
      | _ => a_w w (.methodLink own i Lib.Math.min.name) && (a_w w2 (.static Lib.Math.min.name) && (a_w w3 (.initialized "java/lang/Math") && a_w w4 (.code Lib.Math.min.name Lib.Math.min.code 2 (some .int)))))
    | [_], [w, w2, w3, w4] => a_w w (.methodLink own i arraycopyName) && (a_w w2 (.native arraycopyName) && (a_w w3 (.static arraycopyName) && a_w w4 (.initialized "java/lang/System")))
    | _, _ => false))
  | .invokespecial i => len == 3 && (a_pc tb (j + 1) == pc + len && (match aux, wx with
    | [c, n], [w, nest, w2, wi, wc] => (match methods[c]? with
      | some mt => ok_ln own i w nest mt.1 && (a_w w2 (.instanceMethod mt.1) && (decide (mt.1.name = "<init>") && (decide (mt.2.2.2.1 = none) && ok_cl mt wi wc (n - 1))))
      | none => false)
    | [_], [w, w2, w3] => a_w w (.methodLink own i objectInit) && (a_w w2 (.instanceMethod objectInit) && a_w w3 (.code objectInit ⟨#[0xb1]⟩ 1 none))
    | _, _ => false))
  | .ireturn => len == 1
  | .return_ => len == 1
  | _ => len == 1 && a_pc tb (j + 1) == pc + len
def ok_r (mt : AMt) (j : Nat) (e : AEn) : Bool := decide (decode mt.2.1 e.1 = .ok (e.2.1, e.2.2.1)) && ok_i mt.1.cls mt.1.name mt.2.2.2.2 j e.1 e.2.1 e.2.2.1 e.2.2.2.1 e.2.2.2.2
def ok_rs (mt : AMt) : Nat → List AEn → Bool
  | _, [] => true
  | j, e :: r => ok_r mt j e && ok_rs mt (j + 1) r
/-- what a method's returns give: a boolean, an int, nothing -/
def ok_rt (ret : Option FieldType) (e : AEn) : Bool := match e.2.1 with
  | .ireturn => match ret with
    | some .boolean => a_hd e.2.2.2.1 == 1
    | some .int => true
    | _ => false
  | .return_ => decide (ret = none)
  | _ => true
def ok_m (mt : AMt) : Bool := plainName mt.1.cls && (decide (mt.1.cls ≠ "java/lang/invoke/MethodHandle") && (decide (mt.1.cls ≠ "java/lang/invoke/VarHandle") && (decide (mt.2.2.1 ≤ 40) && (a_pc mt.2.2.2.2 0 == 0 && mt.2.2.2.2.all (ok_rt mt.2.2.2.1)))))
theorem ok_0 : ok_rs mt_0 0 tb_0 = true := by decide +kernel
theorem om_0 : ok_m mt_0 = true := by decide +kernel
theorem ok_1 : ok_rs mt_1 0 tb_1 = true := by decide +kernel
theorem om_1 : ok_m mt_1 = true := by decide +kernel
theorem ok_2 : ok_rs mt_2 0 tb_2 = true := by decide +kernel
theorem om_2 : ok_m mt_2 = true := by decide +kernel
theorem ok_3 : ok_rs mt_3 0 tb_3 = true := by decide +kernel
theorem om_3 : ok_m mt_3 = true := by decide +kernel
theorem ok_4 : ok_rs mt_4 0 tb_4 = true := by decide +kernel
theorem om_4 : ok_m mt_4 = true := by decide +kernel
theorem ok_5 : ok_rs mt_5 0 tb_5 = true := by decide +kernel
theorem om_5 : ok_m mt_5 = true := by decide +kernel
theorem ok_6 : ok_rs mt_6 0 tb_6 = true := by decide +kernel
theorem om_6 : ok_m mt_6 = true := by decide +kernel
theorem ok_7_0 : ok_rs mt_7 0 ((tb_7.drop 0).take 50) = true := by decide +kernel
theorem ok_7_50 : ok_rs mt_7 50 ((tb_7.drop 50).take 23) = true := by decide +kernel
theorem om_7 : ok_m mt_7 = true := by decide +kernel
theorem ok_8 : ok_rs mt_8 0 tb_8 = true := by decide +kernel
theorem om_8 : ok_m mt_8 = true := by decide +kernel
theorem ok_9 : ok_rs mt_9 0 tb_9 = true := by decide +kernel
theorem om_9 : ok_m mt_9 = true := by decide +kernel
theorem ok_10 : ok_rs mt_10 0 tb_10 = true := by decide +kernel
theorem om_10 : ok_m mt_10 = true := by decide +kernel
theorem ok_11 : ok_rs mt_11 0 tb_11 = true := by decide +kernel
theorem om_11 : ok_m mt_11 = true := by decide +kernel
theorem ok_12 : ok_rs mt_12 0 tb_12 = true := by decide +kernel
theorem om_12 : ok_m mt_12 = true := by decide +kernel
theorem ok_13 : ok_rs mt_13 0 tb_13 = true := by decide +kernel
theorem om_13 : ok_m mt_13 = true := by decide +kernel
theorem ok_14 : ok_rs mt_14 0 tb_14 = true := by decide +kernel
theorem om_14 : ok_m mt_14 = true := by decide +kernel
theorem ok_15 : ok_rs mt_15 0 tb_15 = true := by decide +kernel
theorem om_15 : ok_m mt_15 = true := by decide +kernel
theorem ok_16 : ok_rs mt_16 0 tb_16 = true := by decide +kernel
theorem om_16 : ok_m mt_16 = true := by decide +kernel
theorem ok_17 : ok_rs mt_17 0 tb_17 = true := by decide +kernel
theorem om_17 : ok_m mt_17 = true := by decide +kernel
theorem ok_18 : ok_rs mt_18 0 tb_18 = true := by decide +kernel
theorem om_18 : ok_m mt_18 = true := by decide +kernel
theorem ok_19 : ok_rs mt_19 0 tb_19 = true := by decide +kernel
theorem om_19 : ok_m mt_19 = true := by decide +kernel
theorem ok_20 : ok_rs mt_20 0 tb_20 = true := by decide +kernel
theorem om_20 : ok_m mt_20 = true := by decide +kernel
theorem ok_21 : ok_rs mt_21 0 tb_21 = true := by decide +kernel
theorem om_21 : ok_m mt_21 = true := by decide +kernel
theorem ok_22 : ok_rs mt_22 0 tb_22 = true := by decide +kernel
theorem om_22 : ok_m mt_22 = true := by decide +kernel
theorem ok_23 : ok_rs mt_23 0 tb_23 = true := by decide +kernel
theorem om_23 : ok_m mt_23 = true := by decide +kernel
theorem ok_24 : ok_rs mt_24 0 tb_24 = true := by decide +kernel
theorem om_24 : ok_m mt_24 = true := by decide +kernel
theorem ok_25 : ok_rs mt_25 0 tb_25 = true := by decide +kernel
theorem om_25 : ok_m mt_25 = true := by decide +kernel
theorem ok_26 : ok_rs mt_26 0 tb_26 = true := by decide +kernel
theorem om_26 : ok_m mt_26 = true := by decide +kernel
theorem ok_27 : ok_rs mt_27 0 tb_27 = true := by decide +kernel
theorem om_27 : ok_m mt_27 = true := by decide +kernel
theorem ok_28 : ok_rs mt_28 0 tb_28 = true := by decide +kernel
theorem om_28 : ok_m mt_28 = true := by decide +kernel
theorem ok_29 : ok_rs mt_29 0 tb_29 = true := by decide +kernel
theorem om_29 : ok_m mt_29 = true := by decide +kernel
theorem ok_30 : ok_rs mt_30 0 tb_30 = true := by decide +kernel
theorem om_30 : ok_m mt_30 = true := by decide +kernel
theorem ok_31_0 : ok_rs mt_31 0 ((tb_31.drop 0).take 50) = true := by decide +kernel
theorem ok_31_50 : ok_rs mt_31 50 ((tb_31.drop 50).take 33) = true := by decide +kernel
theorem om_31 : ok_m mt_31 = true := by decide +kernel
theorem ok_32 : ok_rs mt_32 0 tb_32 = true := by decide +kernel
theorem om_32 : ok_m mt_32 = true := by decide +kernel
theorem ok_33 : ok_rs mt_33 0 tb_33 = true := by decide +kernel
theorem om_33 : ok_m mt_33 = true := by decide +kernel
theorem ok_34 : ok_rs mt_34 0 tb_34 = true := by decide +kernel
theorem om_34 : ok_m mt_34 = true := by decide +kernel
theorem ok_35 : ok_rs mt_35 0 tb_35 = true := by decide +kernel
theorem om_35 : ok_m mt_35 = true := by decide +kernel
theorem ok_36 : ok_rs mt_36 0 tb_36 = true := by decide +kernel
theorem om_36 : ok_m mt_36 = true := by decide +kernel
theorem ok_37 : ok_rs mt_37 0 tb_37 = true := by decide +kernel
theorem om_37 : ok_m mt_37 = true := by decide +kernel
theorem ok_38 : ok_rs mt_38 0 tb_38 = true := by decide +kernel
theorem om_38 : ok_m mt_38 = true := by decide +kernel
theorem ok_39 : ok_rs mt_39 0 tb_39 = true := by decide +kernel
theorem om_39 : ok_m mt_39 = true := by decide +kernel
theorem ok_40 : ok_rs mt_40 0 tb_40 = true := by decide +kernel
theorem om_40 : ok_m mt_40 = true := by decide +kernel
theorem ok_41 : ok_rs mt_41 0 tb_41 = true := by decide +kernel
theorem om_41 : ok_m mt_41 = true := by decide +kernel
theorem ok_42 : ok_rs mt_42 0 tb_42 = true := by decide +kernel
theorem om_42 : ok_m mt_42 = true := by decide +kernel
theorem ok_43 : ok_rs mt_43 0 tb_43 = true := by decide +kernel
theorem om_43 : ok_m mt_43 = true := by decide +kernel
theorem ok_44 : ok_rs mt_44 0 tb_44 = true := by decide +kernel
theorem om_44 : ok_m mt_44 = true := by decide +kernel
theorem ok_45 : ok_rs mt_45 0 tb_45 = true := by decide +kernel
theorem om_45 : ok_m mt_45 = true := by decide +kernel
theorem ok_46_0 : ok_rs mt_46 0 ((tb_46.drop 0).take 50) = true := by decide +kernel
theorem ok_46_50 : ok_rs mt_46 50 ((tb_46.drop 50).take 25) = true := by decide +kernel
theorem om_46 : ok_m mt_46 = true := by decide +kernel
theorem ok_47 : ok_rs mt_47 0 tb_47 = true := by decide +kernel
theorem om_47 : ok_m mt_47 = true := by decide +kernel
theorem ok_48 : ok_rs mt_48 0 tb_48 = true := by decide +kernel
theorem om_48 : ok_m mt_48 = true := by decide +kernel
theorem ok_49 : ok_rs mt_49 0 tb_49 = true := by decide +kernel
theorem om_49 : ok_m mt_49 = true := by decide +kernel
theorem ok_50 : ok_rs mt_50 0 tb_50 = true := by decide +kernel
theorem om_50 : ok_m mt_50 = true := by decide +kernel
theorem ok_51 : ok_rs mt_51 0 tb_51 = true := by decide +kernel
theorem om_51 : ok_m mt_51 = true := by decide +kernel
theorem ok_52 : ok_rs mt_52 0 tb_52 = true := by decide +kernel
theorem om_52 : ok_m mt_52 = true := by decide +kernel
theorem ok_53 : ok_rs mt_53 0 tb_53 = true := by decide +kernel
theorem om_53 : ok_m mt_53 = true := by decide +kernel
theorem ok_54 : ok_rs mt_54 0 tb_54 = true := by decide +kernel
theorem om_54 : ok_m mt_54 = true := by decide +kernel
theorem ok_55 : ok_rs mt_55 0 tb_55 = true := by decide +kernel
theorem om_55 : ok_m mt_55 = true := by decide +kernel
theorem ok_56 : ok_rs mt_56 0 tb_56 = true := by decide +kernel
theorem om_56 : ok_m mt_56 = true := by decide +kernel
theorem ok_57_0 : ok_rs mt_57 0 ((tb_57.drop 0).take 50) = true := by decide +kernel
theorem ok_57_50 : ok_rs mt_57 50 ((tb_57.drop 50).take 15) = true := by decide +kernel
theorem om_57 : ok_m mt_57 = true := by decide +kernel
theorem ok_58 : ok_rs mt_58 0 tb_58 = true := by decide +kernel
theorem om_58 : ok_m mt_58 = true := by decide +kernel
theorem ok_59 : ok_rs mt_59 0 tb_59 = true := by decide +kernel
theorem om_59 : ok_m mt_59 = true := by decide +kernel
theorem ok_60 : ok_rs mt_60 0 tb_60 = true := by decide +kernel
theorem om_60 : ok_m mt_60 = true := by decide +kernel
theorem ok_61 : ok_rs mt_61 0 tb_61 = true := by decide +kernel
theorem om_61 : ok_m mt_61 = true := by decide +kernel
theorem ok_62 : ok_rs mt_62 0 tb_62 = true := by decide +kernel
theorem om_62 : ok_m mt_62 = true := by decide +kernel
theorem ok_63 : ok_rs mt_63 0 tb_63 = true := by decide +kernel
theorem om_63 : ok_m mt_63 = true := by decide +kernel
theorem ok_64 : ok_rs mt_64 0 tb_64 = true := by decide +kernel
theorem om_64 : ok_m mt_64 = true := by decide +kernel
theorem ok_65 : ok_rs mt_65 0 tb_65 = true := by decide +kernel
theorem om_65 : ok_m mt_65 = true := by decide +kernel
theorem ok_66 : ok_rs mt_66 0 tb_66 = true := by decide +kernel
theorem om_66 : ok_m mt_66 = true := by decide +kernel
theorem ok_67_0 : ok_rs mt_67 0 ((tb_67.drop 0).take 50) = true := by decide +kernel
theorem ok_67_50 : ok_rs mt_67 50 ((tb_67.drop 50).take 35) = true := by decide +kernel
theorem om_67 : ok_m mt_67 = true := by decide +kernel
theorem ok_68 : ok_rs mt_68 0 tb_68 = true := by decide +kernel
theorem om_68 : ok_m mt_68 = true := by decide +kernel
theorem ok_69 : ok_rs mt_69 0 tb_69 = true := by decide +kernel
theorem om_69 : ok_m mt_69 = true := by decide +kernel
theorem ok_70_0 : ok_rs mt_70 0 ((tb_70.drop 0).take 50) = true := by decide +kernel
theorem ok_70_50 : ok_rs mt_70 50 ((tb_70.drop 50).take 21) = true := by decide +kernel
theorem om_70 : ok_m mt_70 = true := by decide +kernel
theorem ok_71_0 : ok_rs mt_71 0 ((tb_71.drop 0).take 50) = true := by decide +kernel
theorem ok_71_50 : ok_rs mt_71 50 ((tb_71.drop 50).take 16) = true := by decide +kernel
theorem om_71 : ok_m mt_71 = true := by decide +kernel
theorem ok_72 : ok_rs mt_72 0 tb_72 = true := by decide +kernel
theorem om_72 : ok_m mt_72 = true := by decide +kernel
theorem ok_73 : ok_rs mt_73 0 tb_73 = true := by decide +kernel
theorem om_73 : ok_m mt_73 = true := by decide +kernel
theorem ok_74 : ok_rs mt_74 0 tb_74 = true := by decide +kernel
theorem om_74 : ok_m mt_74 = true := by decide +kernel
theorem ok_75 : ok_rs mt_75 0 tb_75 = true := by decide +kernel
theorem om_75 : ok_m mt_75 = true := by decide +kernel
theorem ok_76 : ok_rs mt_76 0 tb_76 = true := by decide +kernel
theorem om_76 : ok_m mt_76 = true := by decide +kernel
theorem ok_77 : ok_rs mt_77 0 tb_77 = true := by decide +kernel
theorem om_77 : ok_m mt_77 = true := by decide +kernel
theorem ok_78 : ok_rs mt_78 0 tb_78 = true := by decide +kernel
theorem om_78 : ok_m mt_78 = true := by decide +kernel
theorem ok_79 : ok_rs mt_79 0 tb_79 = true := by decide +kernel
theorem om_79 : ok_m mt_79 = true := by decide +kernel
theorem ok_80 : ok_rs mt_80 0 tb_80 = true := by decide +kernel
theorem om_80 : ok_m mt_80 = true := by decide +kernel
theorem ok_81 : ok_rs mt_81 0 tb_81 = true := by decide +kernel
theorem om_81 : ok_m mt_81 = true := by decide +kernel
theorem ok_82 : ok_rs mt_82 0 tb_82 = true := by decide +kernel
theorem om_82 : ok_m mt_82 = true := by decide +kernel
theorem ok_83 : ok_rs mt_83 0 tb_83 = true := by decide +kernel
theorem om_83 : ok_m mt_83 = true := by decide +kernel
theorem ok_84 : ok_rs mt_84 0 tb_84 = true := by decide +kernel
theorem om_84 : ok_m mt_84 = true := by decide +kernel
theorem ok_85 : ok_rs mt_85 0 tb_85 = true := by decide +kernel
theorem om_85 : ok_m mt_85 = true := by decide +kernel
theorem ok_86 : ok_rs mt_86 0 tb_86 = true := by decide +kernel
theorem om_86 : ok_m mt_86 = true := by decide +kernel
theorem ok_87 : ok_rs mt_87 0 tb_87 = true := by decide +kernel
theorem om_87 : ok_m mt_87 = true := by decide +kernel
theorem ok_88_0 : ok_rs mt_88 0 ((tb_88.drop 0).take 50) = true := by decide +kernel
theorem ok_88_50 : ok_rs mt_88 50 ((tb_88.drop 50).take 16) = true := by decide +kernel
theorem om_88 : ok_m mt_88 = true := by decide +kernel
theorem ok_89 : ok_rs mt_89 0 tb_89 = true := by decide +kernel
theorem om_89 : ok_m mt_89 = true := by decide +kernel
theorem ok_90 : ok_rs mt_90 0 tb_90 = true := by decide +kernel
theorem om_90 : ok_m mt_90 = true := by decide +kernel
theorem ok_91 : ok_rs mt_91 0 tb_91 = true := by decide +kernel
theorem om_91 : ok_m mt_91 = true := by decide +kernel
theorem ok_92_0 : ok_rs mt_92 0 ((tb_92.drop 0).take 50) = true := by decide +kernel
theorem ok_92_50 : ok_rs mt_92 50 ((tb_92.drop 50).take 12) = true := by decide +kernel
theorem om_92 : ok_m mt_92 = true := by decide +kernel
theorem ok_93 : ok_rs mt_93 0 tb_93 = true := by decide +kernel
theorem om_93 : ok_m mt_93 = true := by decide +kernel
theorem ok_94 : ok_rs mt_94 0 tb_94 = true := by decide +kernel
theorem om_94 : ok_m mt_94 = true := by decide +kernel
theorem ok_95 : ok_rs mt_95 0 tb_95 = true := by decide +kernel
theorem om_95 : ok_m mt_95 = true := by decide +kernel
theorem ok_96_0 : ok_rs mt_96 0 ((tb_96.drop 0).take 50) = true := by decide +kernel
theorem ok_96_50 : ok_rs mt_96 50 ((tb_96.drop 50).take 49) = true := by decide +kernel
theorem om_96 : ok_m mt_96 = true := by decide +kernel
theorem ok_97 : ok_rs mt_97 0 tb_97 = true := by decide +kernel
theorem om_97 : ok_m mt_97 = true := by decide +kernel
theorem ok_98 : ok_rs mt_98 0 tb_98 = true := by decide +kernel
theorem om_98 : ok_m mt_98 = true := by decide +kernel
theorem ok_99 : ok_rs mt_99 0 tb_99 = true := by decide +kernel
theorem om_99 : ok_m mt_99 = true := by decide +kernel
theorem ok_100_0 : ok_rs mt_100 0 ((tb_100.drop 0).take 50) = true := by decide +kernel
theorem ok_100_50 : ok_rs mt_100 50 ((tb_100.drop 50).take 16) = true := by decide +kernel
theorem om_100 : ok_m mt_100 = true := by decide +kernel
theorem ok_101 : ok_rs mt_101 0 tb_101 = true := by decide +kernel
theorem om_101 : ok_m mt_101 = true := by decide +kernel
theorem ok_102_0 : ok_rs mt_102 0 ((tb_102.drop 0).take 50) = true := by decide +kernel
theorem ok_102_50 : ok_rs mt_102 50 ((tb_102.drop 50).take 27) = true := by decide +kernel
theorem om_102 : ok_m mt_102 = true := by decide +kernel
theorem ok_103_0 : ok_rs mt_103 0 ((tb_103.drop 0).take 50) = true := by decide +kernel
theorem ok_103_50 : ok_rs mt_103 50 ((tb_103.drop 50).take 38) = true := by decide +kernel
theorem om_103 : ok_m mt_103 = true := by decide +kernel
theorem ok_104_0 : ok_rs mt_104 0 ((tb_104.drop 0).take 50) = true := by decide +kernel
theorem ok_104_50 : ok_rs mt_104 50 ((tb_104.drop 50).take 42) = true := by decide +kernel
theorem om_104 : ok_m mt_104 = true := by decide +kernel
theorem ok_105 : ok_rs mt_105 0 tb_105 = true := by decide +kernel
theorem om_105 : ok_m mt_105 = true := by decide +kernel
theorem ok_106_0 : ok_rs mt_106 0 ((tb_106.drop 0).take 50) = true := by decide +kernel
theorem ok_106_50 : ok_rs mt_106 50 ((tb_106.drop 50).take 50) = true := by decide +kernel
theorem om_106 : ok_m mt_106 = true := by decide +kernel
theorem ok_107_0 : ok_rs mt_107 0 ((tb_107.drop 0).take 50) = true := by decide +kernel
theorem ok_107_50 : ok_rs mt_107 50 ((tb_107.drop 50).take 42) = true := by decide +kernel
theorem om_107 : ok_m mt_107 = true := by decide +kernel
theorem ok_108 : ok_rs mt_108 0 tb_108 = true := by decide +kernel
theorem om_108 : ok_m mt_108 = true := by decide +kernel
theorem ok_109 : ok_rs mt_109 0 tb_109 = true := by decide +kernel
theorem om_109 : ok_m mt_109 = true := by decide +kernel
theorem ok_110_0 : ok_rs mt_110 0 ((tb_110.drop 0).take 50) = true := by decide +kernel
theorem ok_110_50 : ok_rs mt_110 50 ((tb_110.drop 50).take 16) = true := by decide +kernel
theorem om_110 : ok_m mt_110 = true := by decide +kernel
theorem ok_111 : ok_rs mt_111 0 tb_111 = true := by decide +kernel
theorem om_111 : ok_m mt_111 = true := by decide +kernel
theorem ok_112 : ok_rs mt_112 0 tb_112 = true := by decide +kernel
theorem om_112 : ok_m mt_112 = true := by decide +kernel
theorem ok_113 : ok_rs mt_113 0 tb_113 = true := by decide +kernel
theorem om_113 : ok_m mt_113 = true := by decide +kernel
theorem ok_114 : ok_rs mt_114 0 tb_114 = true := by decide +kernel
theorem om_114 : ok_m mt_114 = true := by decide +kernel
theorem ok_115_0 : ok_rs mt_115 0 ((tb_115.drop 0).take 50) = true := by decide +kernel
theorem ok_115_50 : ok_rs mt_115 50 ((tb_115.drop 50).take 42) = true := by decide +kernel
theorem om_115 : ok_m mt_115 = true := by decide +kernel
theorem ok_116_0 : ok_rs mt_116 0 ((tb_116.drop 0).take 50) = true := by decide +kernel
theorem ok_116_50 : ok_rs mt_116 50 ((tb_116.drop 50).take 50) = true := by decide +kernel
theorem ok_116_100 : ok_rs mt_116 100 ((tb_116.drop 100).take 12) = true := by decide +kernel
theorem om_116 : ok_m mt_116 = true := by decide +kernel
theorem ok_117 : ok_rs mt_117 0 tb_117 = true := by decide +kernel
theorem om_117 : ok_m mt_117 = true := by decide +kernel
theorem ok_118 : ok_rs mt_118 0 tb_118 = true := by decide +kernel
theorem om_118 : ok_m mt_118 = true := by decide +kernel
theorem ok_119_0 : ok_rs mt_119 0 ((tb_119.drop 0).take 50) = true := by decide +kernel
theorem ok_119_50 : ok_rs mt_119 50 ((tb_119.drop 50).take 11) = true := by decide +kernel
theorem om_119 : ok_m mt_119 = true := by decide +kernel
theorem ok_120 : ok_rs mt_120 0 tb_120 = true := by decide +kernel
theorem om_120 : ok_m mt_120 = true := by decide +kernel
theorem ok_121_0 : ok_rs mt_121 0 ((tb_121.drop 0).take 50) = true := by decide +kernel
theorem ok_121_50 : ok_rs mt_121 50 ((tb_121.drop 50).take 22) = true := by decide +kernel
theorem om_121 : ok_m mt_121 = true := by decide +kernel
theorem ok_122_0 : ok_rs mt_122 0 ((tb_122.drop 0).take 50) = true := by decide +kernel
theorem ok_122_50 : ok_rs mt_122 50 ((tb_122.drop 50).take 50) = true := by decide +kernel
theorem ok_122_100 : ok_rs mt_122 100 ((tb_122.drop 100).take 8) = true := by decide +kernel
theorem om_122 : ok_m mt_122 = true := by decide +kernel
theorem ok_123 : ok_rs mt_123 0 tb_123 = true := by decide +kernel
theorem om_123 : ok_m mt_123 = true := by decide +kernel
theorem ok_124 : ok_rs mt_124 0 tb_124 = true := by decide +kernel
theorem om_124 : ok_m mt_124 = true := by decide +kernel
theorem ok_125 : ok_rs mt_125 0 tb_125 = true := by decide +kernel
theorem om_125 : ok_m mt_125 = true := by decide +kernel
theorem ok_126 : ok_rs mt_126 0 tb_126 = true := by decide +kernel
theorem om_126 : ok_m mt_126 = true := by decide +kernel
theorem ok_127 : ok_rs mt_127 0 tb_127 = true := by decide +kernel
theorem om_127 : ok_m mt_127 = true := by decide +kernel
theorem ok_128_0 : ok_rs mt_128 0 ((tb_128.drop 0).take 50) = true := by decide +kernel
theorem ok_128_50 : ok_rs mt_128 50 ((tb_128.drop 50).take 50) = true := by decide +kernel
theorem ok_128_100 : ok_rs mt_128 100 ((tb_128.drop 100).take 50) = true := by decide +kernel
theorem ok_128_150 : ok_rs mt_128 150 ((tb_128.drop 150).take 50) = true := by decide +kernel
theorem ok_128_200 : ok_rs mt_128 200 ((tb_128.drop 200).take 50) = true := by decide +kernel
theorem ok_128_250 : ok_rs mt_128 250 ((tb_128.drop 250).take 50) = true := by decide +kernel
theorem ok_128_300 : ok_rs mt_128 300 ((tb_128.drop 300).take 50) = true := by decide +kernel
theorem ok_128_350 : ok_rs mt_128 350 ((tb_128.drop 350).take 50) = true := by decide +kernel
theorem ok_128_400 : ok_rs mt_128 400 ((tb_128.drop 400).take 4) = true := by decide +kernel
theorem om_128 : ok_m mt_128 = true := by decide +kernel
theorem ok_rs_at {mt : AMt} : ∀ {l : List AEn} {j0 : Nat}, ok_rs mt j0 l = true → ∀ {i : Nat} {e : AEn}, l[i]? = some e → ok_r mt (j0 + i) e = true
  | [], _, _, _, _, h => by simp at h
  | x :: l, j0, hk, i, e, h => by
    simp only [ok_rs, Bool.and_eq_true] at hk
    cases i with
    | zero => simp at h; subst h; exact hk.1
    | succ i =>
      have := ok_rs_at (l := l) (j0 := j0 + 1) hk.2 (i := i) (e := e) (by simpa using h)
      rw [show j0 + (i + 1) = j0 + 1 + i by omega]
      exact this
theorem ok_rs_app {mt : AMt} : ∀ {a b : List AEn} {j0 : Nat}, ok_rs mt j0 a = true → ok_rs mt (j0 + a.length) b = true → ok_rs mt j0 (a ++ b) = true
  | [], b, j0, _, h => by simpa using h
  | x :: a, b, j0, h1, h2 => by
    simp only [ok_rs, Bool.and_eq_true, List.cons_append] at h1 ⊢
    exact ⟨h1.1, ok_rs_app (a := a) h1.2 (by rw [show j0 + 1 + a.length = j0 + (x :: a).length by simp; omega]; exact h2)⟩
set_option maxRecDepth 100000 in
theorem ok_7 : ok_rs mt_7 0 tb_7 = true := by
  have h : ok_rs mt_7 0 (((tb_7.drop 0).take 50) ++ (((tb_7.drop 50).take 23))) = true := ok_rs_app (a := ((tb_7.drop 0).take 50)) ok_7_0 (ok_7_50)
  exact h
set_option maxRecDepth 100000 in
theorem ok_31 : ok_rs mt_31 0 tb_31 = true := by
  have h : ok_rs mt_31 0 (((tb_31.drop 0).take 50) ++ (((tb_31.drop 50).take 33))) = true := ok_rs_app (a := ((tb_31.drop 0).take 50)) ok_31_0 (ok_31_50)
  exact h
set_option maxRecDepth 100000 in
theorem ok_46 : ok_rs mt_46 0 tb_46 = true := by
  have h : ok_rs mt_46 0 (((tb_46.drop 0).take 50) ++ (((tb_46.drop 50).take 25))) = true := ok_rs_app (a := ((tb_46.drop 0).take 50)) ok_46_0 (ok_46_50)
  exact h
set_option maxRecDepth 100000 in
theorem ok_57 : ok_rs mt_57 0 tb_57 = true := by
  have h : ok_rs mt_57 0 (((tb_57.drop 0).take 50) ++ (((tb_57.drop 50).take 15))) = true := ok_rs_app (a := ((tb_57.drop 0).take 50)) ok_57_0 (ok_57_50)
  exact h
set_option maxRecDepth 100000 in
theorem ok_67 : ok_rs mt_67 0 tb_67 = true := by
  have h : ok_rs mt_67 0 (((tb_67.drop 0).take 50) ++ (((tb_67.drop 50).take 35))) = true := ok_rs_app (a := ((tb_67.drop 0).take 50)) ok_67_0 (ok_67_50)
  exact h
set_option maxRecDepth 100000 in
theorem ok_70 : ok_rs mt_70 0 tb_70 = true := by
  have h : ok_rs mt_70 0 (((tb_70.drop 0).take 50) ++ (((tb_70.drop 50).take 21))) = true := ok_rs_app (a := ((tb_70.drop 0).take 50)) ok_70_0 (ok_70_50)
  exact h
set_option maxRecDepth 100000 in
theorem ok_71 : ok_rs mt_71 0 tb_71 = true := by
  have h : ok_rs mt_71 0 (((tb_71.drop 0).take 50) ++ (((tb_71.drop 50).take 16))) = true := ok_rs_app (a := ((tb_71.drop 0).take 50)) ok_71_0 (ok_71_50)
  exact h
set_option maxRecDepth 100000 in
theorem ok_88 : ok_rs mt_88 0 tb_88 = true := by
  have h : ok_rs mt_88 0 (((tb_88.drop 0).take 50) ++ (((tb_88.drop 50).take 16))) = true := ok_rs_app (a := ((tb_88.drop 0).take 50)) ok_88_0 (ok_88_50)
  exact h
set_option maxRecDepth 100000 in
theorem ok_92 : ok_rs mt_92 0 tb_92 = true := by
  have h : ok_rs mt_92 0 (((tb_92.drop 0).take 50) ++ (((tb_92.drop 50).take 12))) = true := ok_rs_app (a := ((tb_92.drop 0).take 50)) ok_92_0 (ok_92_50)
  exact h
set_option maxRecDepth 100000 in
theorem ok_96 : ok_rs mt_96 0 tb_96 = true := by
  have h : ok_rs mt_96 0 (((tb_96.drop 0).take 50) ++ (((tb_96.drop 50).take 49))) = true := ok_rs_app (a := ((tb_96.drop 0).take 50)) ok_96_0 (ok_96_50)
  exact h
set_option maxRecDepth 100000 in
theorem ok_100 : ok_rs mt_100 0 tb_100 = true := by
  have h : ok_rs mt_100 0 (((tb_100.drop 0).take 50) ++ (((tb_100.drop 50).take 16))) = true := ok_rs_app (a := ((tb_100.drop 0).take 50)) ok_100_0 (ok_100_50)
  exact h
set_option maxRecDepth 100000 in
theorem ok_102 : ok_rs mt_102 0 tb_102 = true := by
  have h : ok_rs mt_102 0 (((tb_102.drop 0).take 50) ++ (((tb_102.drop 50).take 27))) = true := ok_rs_app (a := ((tb_102.drop 0).take 50)) ok_102_0 (ok_102_50)
  exact h
set_option maxRecDepth 100000 in
theorem ok_103 : ok_rs mt_103 0 tb_103 = true := by
  have h : ok_rs mt_103 0 (((tb_103.drop 0).take 50) ++ (((tb_103.drop 50).take 38))) = true := ok_rs_app (a := ((tb_103.drop 0).take 50)) ok_103_0 (ok_103_50)
  exact h
set_option maxRecDepth 100000 in
theorem ok_104 : ok_rs mt_104 0 tb_104 = true := by
  have h : ok_rs mt_104 0 (((tb_104.drop 0).take 50) ++ (((tb_104.drop 50).take 42))) = true := ok_rs_app (a := ((tb_104.drop 0).take 50)) ok_104_0 (ok_104_50)
  exact h
set_option maxRecDepth 100000 in
theorem ok_106 : ok_rs mt_106 0 tb_106 = true := by
  have h : ok_rs mt_106 0 (((tb_106.drop 0).take 50) ++ (((tb_106.drop 50).take 50))) = true := ok_rs_app (a := ((tb_106.drop 0).take 50)) ok_106_0 (ok_106_50)
  exact h
set_option maxRecDepth 100000 in
theorem ok_107 : ok_rs mt_107 0 tb_107 = true := by
  have h : ok_rs mt_107 0 (((tb_107.drop 0).take 50) ++ (((tb_107.drop 50).take 42))) = true := ok_rs_app (a := ((tb_107.drop 0).take 50)) ok_107_0 (ok_107_50)
  exact h
set_option maxRecDepth 100000 in
theorem ok_110 : ok_rs mt_110 0 tb_110 = true := by
  have h : ok_rs mt_110 0 (((tb_110.drop 0).take 50) ++ (((tb_110.drop 50).take 16))) = true := ok_rs_app (a := ((tb_110.drop 0).take 50)) ok_110_0 (ok_110_50)
  exact h
set_option maxRecDepth 100000 in
theorem ok_115 : ok_rs mt_115 0 tb_115 = true := by
  have h : ok_rs mt_115 0 (((tb_115.drop 0).take 50) ++ (((tb_115.drop 50).take 42))) = true := ok_rs_app (a := ((tb_115.drop 0).take 50)) ok_115_0 (ok_115_50)
  exact h
set_option maxRecDepth 100000 in
theorem ok_116 : ok_rs mt_116 0 tb_116 = true := by
  have h : ok_rs mt_116 0 (((tb_116.drop 0).take 50) ++ (((tb_116.drop 50).take 50) ++ (((tb_116.drop 100).take 12)))) = true := ok_rs_app (a := ((tb_116.drop 0).take 50)) ok_116_0 (ok_rs_app (a := ((tb_116.drop 50).take 50)) ok_116_50 (ok_116_100))
  exact h
set_option maxRecDepth 100000 in
theorem ok_119 : ok_rs mt_119 0 tb_119 = true := by
  have h : ok_rs mt_119 0 (((tb_119.drop 0).take 50) ++ (((tb_119.drop 50).take 11))) = true := ok_rs_app (a := ((tb_119.drop 0).take 50)) ok_119_0 (ok_119_50)
  exact h
set_option maxRecDepth 100000 in
theorem ok_121 : ok_rs mt_121 0 tb_121 = true := by
  have h : ok_rs mt_121 0 (((tb_121.drop 0).take 50) ++ (((tb_121.drop 50).take 22))) = true := ok_rs_app (a := ((tb_121.drop 0).take 50)) ok_121_0 (ok_121_50)
  exact h
set_option maxRecDepth 100000 in
theorem ok_122 : ok_rs mt_122 0 tb_122 = true := by
  have h : ok_rs mt_122 0 (((tb_122.drop 0).take 50) ++ (((tb_122.drop 50).take 50) ++ (((tb_122.drop 100).take 8)))) = true := ok_rs_app (a := ((tb_122.drop 0).take 50)) ok_122_0 (ok_rs_app (a := ((tb_122.drop 50).take 50)) ok_122_50 (ok_122_100))
  exact h
set_option maxRecDepth 100000 in
theorem ok_128 : ok_rs mt_128 0 tb_128 = true := by
  have h : ok_rs mt_128 0 (((tb_128.drop 0).take 50) ++ (((tb_128.drop 50).take 50) ++ (((tb_128.drop 100).take 50) ++ (((tb_128.drop 150).take 50) ++ (((tb_128.drop 200).take 50) ++ (((tb_128.drop 250).take 50) ++ (((tb_128.drop 300).take 50) ++ (((tb_128.drop 350).take 50) ++ (((tb_128.drop 400).take 4)))))))))) = true := ok_rs_app (a := ((tb_128.drop 0).take 50)) ok_128_0 (ok_rs_app (a := ((tb_128.drop 50).take 50)) ok_128_50 (ok_rs_app (a := ((tb_128.drop 100).take 50)) ok_128_100 (ok_rs_app (a := ((tb_128.drop 150).take 50)) ok_128_150 (ok_rs_app (a := ((tb_128.drop 200).take 50)) ok_128_200 (ok_rs_app (a := ((tb_128.drop 250).take 50)) ok_128_250 (ok_rs_app (a := ((tb_128.drop 300).take 50)) ok_128_300 (ok_rs_app (a := ((tb_128.drop 350).take 50)) ok_128_350 (ok_128_400))))))))
  exact h
theorem ok_all : ∀ mt ∈ methods, ok_rs mt 0 mt.2.2.2.2 = true ∧ ok_m mt = true := by
  unfold methods
  simp only [List.forall_mem_cons]
  exact ⟨⟨ok_0, om_0⟩, ⟨ok_1, om_1⟩, ⟨ok_2, om_2⟩, ⟨ok_3, om_3⟩, ⟨ok_4, om_4⟩, ⟨ok_5, om_5⟩, ⟨ok_6, om_6⟩, ⟨ok_7, om_7⟩, ⟨ok_8, om_8⟩, ⟨ok_9, om_9⟩, ⟨ok_10, om_10⟩, ⟨ok_11, om_11⟩, ⟨ok_12, om_12⟩, ⟨ok_13, om_13⟩, ⟨ok_14, om_14⟩, ⟨ok_15, om_15⟩, ⟨ok_16, om_16⟩, ⟨ok_17, om_17⟩, ⟨ok_18, om_18⟩, ⟨ok_19, om_19⟩, ⟨ok_20, om_20⟩, ⟨ok_21, om_21⟩, ⟨ok_22, om_22⟩, ⟨ok_23, om_23⟩, ⟨ok_24, om_24⟩, ⟨ok_25, om_25⟩, ⟨ok_26, om_26⟩, ⟨ok_27, om_27⟩, ⟨ok_28, om_28⟩, ⟨ok_29, om_29⟩, ⟨ok_30, om_30⟩, ⟨ok_31, om_31⟩, ⟨ok_32, om_32⟩, ⟨ok_33, om_33⟩, ⟨ok_34, om_34⟩, ⟨ok_35, om_35⟩, ⟨ok_36, om_36⟩, ⟨ok_37, om_37⟩, ⟨ok_38, om_38⟩, ⟨ok_39, om_39⟩, ⟨ok_40, om_40⟩, ⟨ok_41, om_41⟩, ⟨ok_42, om_42⟩, ⟨ok_43, om_43⟩, ⟨ok_44, om_44⟩, ⟨ok_45, om_45⟩, ⟨ok_46, om_46⟩, ⟨ok_47, om_47⟩, ⟨ok_48, om_48⟩, ⟨ok_49, om_49⟩, ⟨ok_50, om_50⟩, ⟨ok_51, om_51⟩, ⟨ok_52, om_52⟩, ⟨ok_53, om_53⟩, ⟨ok_54, om_54⟩, ⟨ok_55, om_55⟩, ⟨ok_56, om_56⟩, ⟨ok_57, om_57⟩, ⟨ok_58, om_58⟩, ⟨ok_59, om_59⟩, ⟨ok_60, om_60⟩, ⟨ok_61, om_61⟩, ⟨ok_62, om_62⟩, ⟨ok_63, om_63⟩, ⟨ok_64, om_64⟩, ⟨ok_65, om_65⟩, ⟨ok_66, om_66⟩, ⟨ok_67, om_67⟩, ⟨ok_68, om_68⟩, ⟨ok_69, om_69⟩, ⟨ok_70, om_70⟩, ⟨ok_71, om_71⟩, ⟨ok_72, om_72⟩, ⟨ok_73, om_73⟩, ⟨ok_74, om_74⟩, ⟨ok_75, om_75⟩, ⟨ok_76, om_76⟩, ⟨ok_77, om_77⟩, ⟨ok_78, om_78⟩, ⟨ok_79, om_79⟩, ⟨ok_80, om_80⟩, ⟨ok_81, om_81⟩, ⟨ok_82, om_82⟩, ⟨ok_83, om_83⟩, ⟨ok_84, om_84⟩, ⟨ok_85, om_85⟩, ⟨ok_86, om_86⟩, ⟨ok_87, om_87⟩, ⟨ok_88, om_88⟩, ⟨ok_89, om_89⟩, ⟨ok_90, om_90⟩, ⟨ok_91, om_91⟩, ⟨ok_92, om_92⟩, ⟨ok_93, om_93⟩, ⟨ok_94, om_94⟩, ⟨ok_95, om_95⟩, ⟨ok_96, om_96⟩, ⟨ok_97, om_97⟩, ⟨ok_98, om_98⟩, ⟨ok_99, om_99⟩, ⟨ok_100, om_100⟩, ⟨ok_101, om_101⟩, ⟨ok_102, om_102⟩, ⟨ok_103, om_103⟩, ⟨ok_104, om_104⟩, ⟨ok_105, om_105⟩, ⟨ok_106, om_106⟩, ⟨ok_107, om_107⟩, ⟨ok_108, om_108⟩, ⟨ok_109, om_109⟩, ⟨ok_110, om_110⟩, ⟨ok_111, om_111⟩, ⟨ok_112, om_112⟩, ⟨ok_113, om_113⟩, ⟨ok_114, om_114⟩, ⟨ok_115, om_115⟩, ⟨ok_116, om_116⟩, ⟨ok_117, om_117⟩, ⟨ok_118, om_118⟩, ⟨ok_119, om_119⟩, ⟨ok_120, om_120⟩, ⟨ok_121, om_121⟩, ⟨ok_122, om_122⟩, ⟨ok_123, om_123⟩, ⟨ok_124, om_124⟩, ⟨ok_125, om_125⟩, ⟨ok_126, om_126⟩, ⟨ok_127, om_127⟩, ⟨ok_128, om_128⟩, fun _ h => absurd h List.not_mem_nil⟩
theorem ok_row {k j : Nat} {mt : AMt} {e : AEn} (hk : methods[k]? = some mt) (hj : mt.2.2.2.2[j]? = some e) : decode mt.2.1 e.1 = .ok (e.2.1, e.2.2.1) ∧ ok_i mt.1.cls mt.1.name mt.2.2.2.2 j e.1 e.2.1 e.2.2.1 e.2.2.2.1 e.2.2.2.2 = true := by
  have h := ok_rs_at (ok_all mt (List.mem_of_getElem? hk)).1 hj
  rw [Nat.zero_add] at h
  simp only [ok_r, Bool.and_eq_true, decide_eq_true_eq] at h
  exact h
theorem cw_0 : (u_ws RX0 TX0 3).all (fun w => decide (w ∈ GW)) = true := by decide +kernel
theorem cw_1 : (u_ws RX1 TX1 9).all (fun w => decide (w ∈ GW)) = true := by decide +kernel
theorem cw_2 : (u_ws RX2 TX2 5).all (fun w => decide (w ∈ GW)) = true := by decide +kernel
theorem cw_3 : (u_ws RX3 TX3 9).all (fun w => decide (w ∈ GW)) = true := by decide +kernel
theorem cw_4 : (u_ws RX4 TX4 18).all (fun w => decide (w ∈ GW)) = true := by decide +kernel
theorem cw_5 : (u_ws RX5 TX5 21).all (fun w => decide (w ∈ GW)) = true := by decide +kernel
theorem cw_all : ∀ (ci : Nat) (q : vw_C), classes[ci]? = some q → (∀ w ∈ u_ws q.1 q.2.1 q.2.2, w ∈ GW) ∧ ∃ ty0 : Nat → FieldType, (∀ k, k < q.2.2 → parseFieldDescriptor (q.2.1 k).2.2.1 = some (ty0 k)) ∧ ∀ a, a < q.2.2 → ∀ b, b < q.2.2 → a ≠ b → (q.2.1 a).2.1 ≠ (q.2.1 b).2.1 := by
  intro ci q h
  have al : ∀ {l : List Jvm.Cond}, l.all (fun w => decide (w ∈ GW)) = true → ∀ w ∈ l, w ∈ GW := fun h w hw => by simpa using List.all_eq_true.mp h w hw
  match ci, h with
  | 0, h => obtain rfl := Option.some.inj h; exact ⟨al cw_0, tyX0, tyX0_ok, nmX0⟩
  | 1, h => obtain rfl := Option.some.inj h; exact ⟨al cw_1, tyX1, tyX1_ok, nmX1⟩
  | 2, h => obtain rfl := Option.some.inj h; exact ⟨al cw_2, tyX2, tyX2_ok, nmX2⟩
  | 3, h => obtain rfl := Option.some.inj h; exact ⟨al cw_3, tyX3, tyX3_ok, nmX3⟩
  | 4, h => obtain rfl := Option.some.inj h; exact ⟨al cw_4, tyX4, tyX4_ok, nmX4⟩
  | 5, h => obtain rfl := Option.some.inj h; exact ⟨al cw_5, tyX5, tyX5_ok, nmX5⟩
  | n + 6, h => simp [classes] at h
