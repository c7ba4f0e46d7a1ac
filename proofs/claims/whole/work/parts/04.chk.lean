/-! the programs are what the bytes decode to; what they name stands in the tables -/
/-- one word of the tables, of those that hold on in every later state -/
def ny_tb : List Cond := lw_tbl.filter goodWord
def ny_mem (w : Cond) : Bool := decide (w ∈ lw_tbl) && goodWord w
theorem ny_mem_tb {w : Cond} (h : ny_mem w = true) : w ∈ ny_tb := by
  simp only [ny_mem, Bool.and_eq_true, decide_eq_true_eq] at h
  exact List.mem_filter.mpr h
def ny_fl (own : Nat) (e : Nat × Nat × Nat) : Cond := .fieldLink (ny_cn.getD own "") e.1 (ny_T e.2.1 (e.2.2 / 3)).1 (ny_T e.2.1 (e.2.2 / 3)).2.1 (ny_T e.2.1 (e.2.2 / 3)).2.2.1
theorem ny_fl_ok : ((List.range 18).all fun own => (ny_FL.getD own []).all fun e => ny_mem (ny_fl own e) && decide (e.2.1 < 11) && decide (e.2.2 / 3 < (ny_Ks.getD e.2.1 []).length) && decide ((ny_Ks.getD e.2.1 []).getD (e.2.2 / 3) 9 = e.2.2 % 3)) = true := by decide +kernel
theorem ny_lay_ok : (ny_cls.all fun q => (u_ws q.1 q.2.1 q.2.2).all ny_mem) = true := by decide +kernel
/-- how long an instruction is, where one length does for all (0: any) -/
def ny_len : Instr → Nat
  | .iload _ => 2 | .lload _ => 2 | .aload _ => 2 | .istore _ => 2 | .lstore _ => 2 | .astore _ => 2 | .bipush _ => 2 | .ldc _ => 2 | .newarray _ => 2
  | .iinc _ _ => 3 | .sipush _ => 3 | .ldc_w _ => 3 | .ldc2_w _ => 3 | .getfield _ => 3 | .putfield _ => 3 | .getstatic _ => 3 | .ifCond _ _ => 3 | .if_icmp _ _ => 3 | .goto _ => 3
  | .invokevirtual _ => 3 | .invokespecial _ => 3 | .invokestatic _ => 3 | .new _ => 3 | .anewarray _ => 3 | .multianewarray _ _ => 4
  | .tableswitch _ _ _ _ => 0 | .lookupswitch _ _ => 0 | _ => 1
def ny_okp (own : Nat) (cls : String) (mL : Nat) (q : ny_Op) : Bool :=
  match q with
  | (_, len, ins, a, b, v, w) => decide (len = ny_len ins ∨ ny_len ins = 0) && (match ins with
    | .getfield i => if a = 11 then decide (own = 11) && (decide (i = 9 ∧ b = 4) || decide (i = 15 ∧ b = 0)) else (ny_FL.getD own []).contains (i, a, b)
    | .putfield i => (ny_FL.getD own []).contains (i, a, b)
    | .istore i => decide (i < mL)
    | .istore_n i => decide ((i : Nat) < mL)
    | .astore i => decide (i < mL)
    | .astore_n i => decide ((i : Nat) < mL)
    | .lstore i => decide (i + 1 < mL)
    | .lstore_n i => decide ((i : Nat) + 1 < mL)
    | .iinc i n => decide (i < mL) && decide (Int32.ofInt n = v)
    | .iconst n => decide (Int32.ofInt n = v)
    | .bipush n => decide ((Int8.ofInt n).toInt32 = v)
    | .sipush n => decide ((Int16.ofInt n).toInt32 = v)
    | .lconst n => decide (Int64.ofNat (n : Nat) = w)
    | .ldc2_w i => ny_mem (.constantLong cls i w)
    | .ldc_w i => ny_mem (.constant cls i v)
    | .ldc i => if a = 1 then decide (cls = "NymphRota$Tape" ∧ i = 94) else ny_mem (.constant cls i v)
    | .getstatic i => match a with
      | 1 => ny_mem (.fieldLink cls i "NymphRota$Kinds" "ABOVE" "[I")
      | 2 => ny_mem (.fieldLink cls i "java/lang/String" "COMPACT_STRINGS" "Z")
      | 3 => ny_mem (.fieldLink cls i "jdk/internal/util/Preconditions" "SIOOBE_FORMATTER" "Ljava/util/function/BiFunction;")
      | _ => false
    | .invokestatic i => match a with
      | 0 => true
      | 1 => ny_mem (.methodLink cls i Lib.Math.max.name)
      | 2 => ny_mem (.methodLink cls i Lib.Math.min.name)
      | 3 => ny_mem (.methodLink cls i Lib.Math.abs.name)
      | 4 => ny_mem (.methodLink cls i arraycopyName)
      | _ => false
    | .new i => ny_mem (.classLink cls i (ny_cn.getD a "")) && ny_mem (.instantiable (ny_cn.getD a "") ((ny_Ks.getD a []).length)) && ny_mem (.initialized (ny_cn.getD a "")) && decide (a < 11)
    | .anewarray i => ny_mem (.classLink cls i (ny_cn.getD a "")) && decide (a = 2 ∨ a = 6 ∨ a = 7)
    | _ => true)
def ny_chk (own : Nat) (y : ny_M) : Bool :=
  decide (ny_cn.getD own "" = y.1.cls) && decide (own < 18) && y.2.2.2.2.2.all fun q => decide (decode y.2.1 q.1 = .ok (q.2.2.1, q.2.1)) && ny_okp own y.1.cls y.2.2.1 q
-- per method
theorem k_Ac_init : ny_chk 0 m_Ac_init = true := by decide +kernel
theorem k_Ac_clear : ny_chk 0 m_Ac_clear = true := by decide +kernel
theorem k_Ac_begin : ny_chk 0 m_Ac_begin = true := by decide +kernel
theorem k_Ac_ran : ny_chk 0 m_Ac_ran = true := by decide +kernel
theorem k_Ac_poses : ny_chk 0 m_Ac_poses = true := by decide +kernel
theorem k_Ac_drips : ny_chk 0 m_Ac_drips = true := by decide +kernel
theorem k_Ac_glances : ny_chk 0 m_Ac_glances = true := by decide +kernel
theorem k_Ac_leaves : ny_chk 0 m_Ac_leaves = true := by decide +kernel
theorem k_Ac_figurePoses : ny_chk 0 m_Ac_figurePoses = true := by decide +kernel
theorem k_Ac_figureDrips : ny_chk 0 m_Ac_figureDrips = true := by decide +kernel
theorem k_Ac_figureGlances : ny_chk 0 m_Ac_figureGlances = true := by decide +kernel
theorem k_Ac_noviceGlances : ny_chk 0 m_Ac_noviceGlances = true := by decide +kernel
theorem k_Ac_figureLeaves : ny_chk 0 m_Ac_figureLeaves = true := by decide +kernel
theorem k_Ba_init : ny_chk 1 m_Ba_init = true := by decide +kernel
theorem k_Ba_become : ny_chk 1 m_Ba_become = true := by decide +kernel
theorem k_Ba_copyOfNow : ny_chk 1 m_Ba_copyOfNow = true := by decide +kernel
theorem k_Ba_isFigure : ny_chk 1 m_Ba_isFigure = true := by decide +kernel
theorem k_Ba_isAct : ny_chk 1 m_Ba_isAct = true := by decide +kernel
theorem k_Ba_isSet : ny_chk 1 m_Ba_isSet = true := by decide +kernel
theorem k_Ba_isOver : ny_chk 1 m_Ba_isOver = true := by decide +kernel
theorem k_Ba_weatherOf : ny_chk 1 m_Ba_weatherOf = true := by decide +kernel
theorem k_Ba_sunOf : ny_chk 1 m_Ba_sunOf = true := by decide +kernel
theorem k_Ba_guestsOf : ny_chk 1 m_Ba_guestsOf = true := by decide +kernel
theorem k_Ba_isUp : ny_chk 1 m_Ba_isUp = true := by decide +kernel
theorem k_Ba_upSet : ny_chk 1 m_Ba_upSet = true := by decide +kernel
theorem k_Ba_wearies : ny_chk 1 m_Ba_wearies = true := by decide +kernel
theorem k_Ba_shows : ny_chk 1 m_Ba_shows = true := by decide +kernel
theorem k_Ba_pays : ny_chk 1 m_Ba_pays = true := by decide +kernel
theorem k_Ba_will : ny_chk 1 m_Ba_will = true := by decide +kernel
theorem k_Ba_mayBeRelieved : ny_chk 1 m_Ba_mayBeRelieved = true := by decide +kernel
theorem k_Ba_goBy : ny_chk 1 m_Ba_goBy = true := by decide +kernel
theorem k_Ba_restAct : ny_chk 1 m_Ba_restAct = true := by decide +kernel
theorem k_Ba_restWorth : ny_chk 1 m_Ba_restWorth = true := by decide +kernel
theorem k_Ba_restRelieves : ny_chk 1 m_Ba_restRelieves = true := by decide +kernel
theorem k_Ba_restFaints : ny_chk 1 m_Ba_restFaints = true := by decide +kernel
theorem k_Ba_restBestBy : ny_chk 1 m_Ba_restBestBy = true := by decide +kernel
theorem k_Ba_aheadOf : ny_chk 1 m_Ba_aheadOf = true := by decide +kernel
theorem k_Ba_areClose : ny_chk 1 m_Ba_areClose = true := by decide +kernel
theorem k_Ba_closeTo : ny_chk 1 m_Ba_closeTo = true := by decide +kernel
theorem k_Ba_ringOf : ny_chk 1 m_Ba_ringOf = true := by decide +kernel
theorem k_Ba_ringCount : ny_chk 1 m_Ba_ringCount = true := by decide +kernel
theorem k_Ba_stepsRound : ny_chk 1 m_Ba_stepsRound = true := by decide +kernel
theorem k_Ba_nextZ : ny_chk 1 m_Ba_nextZ = true := by decide +kernel
theorem k_Ba_actOf : ny_chk 1 m_Ba_actOf = true := by decide +kernel
theorem k_Ba_timesByLot : ny_chk 1 m_Ba_timesByLot = true := by decide +kernel
theorem k_Ki_isKind : ny_chk 12 m_Ki_isKind = true := by decide +kernel
theorem k_Ki_isMade : ny_chk 12 m_Ki_isMade = true := by decide +kernel
theorem k_Ki_isUnder : ny_chk 12 m_Ki_isUnder = true := by decide +kernel
theorem k_Ki_wearies : ny_chk 12 m_Ki_wearies = true := by decide +kernel
theorem k_Ki_shows : ny_chk 12 m_Ki_shows = true := by decide +kernel
theorem k_Mo_init : ny_chk 2 m_Mo_init = true := by decide +kernel
theorem k_Mo_become : ny_chk 2 m_Mo_become = true := by decide +kernel
theorem k_Mo_clear : ny_chk 2 m_Mo_clear = true := by decide +kernel
theorem k_Mo_isRelieved : ny_chk 2 m_Mo_isRelieved = true := by decide +kernel
theorem k_Mo_putRelieved : ny_chk 2 m_Mo_putRelieved = true := by decide +kernel
theorem k_Pl_init : ny_chk 3 m_Pl_init = true := by decide +kernel
theorem k_Pl_start : ny_chk 3 m_Pl_start = true := by decide +kernel
theorem k_Pl_tryAll : ny_chk 3 m_Pl_tryAll = true := by decide +kernel
theorem k_Pl_tryFrom : ny_chk 3 m_Pl_tryFrom = true := by decide +kernel
theorem k_Pl_noteWorth : ny_chk 3 m_Pl_noteWorth = true := by decide +kernel
theorem k_Pl_noteRelieved : ny_chk 3 m_Pl_noteRelieved = true := by decide +kernel
theorem k_Pl_valueOfGame : ny_chk 3 m_Pl_valueOfGame = true := by decide +kernel
theorem k_Pl_valueFrom : ny_chk 3 m_Pl_valueFrom = true := by decide +kernel
theorem k_Re_init : ny_chk 4 m_Re_init = true := by decide +kernel
theorem k_Re_become : ny_chk 4 m_Re_become = true := by decide +kernel
theorem k_Re_add : ny_chk 4 m_Re_add = true := by decide +kernel
theorem k_Re_tryAll : ny_chk 4 m_Re_tryAll = true := by decide +kernel
theorem k_Re_tryOne : ny_chk 4 m_Re_tryOne = true := by decide +kernel
theorem k_Re_wrongBy : ny_chk 4 m_Re_wrongBy = true := by decide +kernel
theorem k_Re_wrongBehind : ny_chk 4 m_Re_wrongBehind = true := by decide +kernel
theorem k_Ru_init : ny_chk 5 m_Ru_init = true := by decide +kernel
theorem k_Ru_clear : ny_chk 5 m_Ru_clear = true := by decide +kernel
theorem k_Ru_become : ny_chk 5 m_Ru_become = true := by decide +kernel
theorem k_Ru_addNumber : ny_chk 5 m_Ru_addNumber = true := by decide +kernel
theorem k_Ru_addStep : ny_chk 5 m_Ru_addStep = true := by decide +kernel
theorem k_Ru_addRule : ny_chk 5 m_Ru_addRule = true := by decide +kernel
theorem k_Ru_tells : ny_chk 5 m_Ru_tells = true := by decide +kernel
theorem k_Ru_holds : ny_chk 5 m_Ru_holds = true := by decide +kernel
theorem k_Sh_init : ny_chk 6 m_Sh_init = true := by decide +kernel
theorem k_Sh_isSort : ny_chk 6 m_Sh_isSort = true := by decide +kernel
theorem k_Sh_becomeRow : ny_chk 6 m_Sh_becomeRow = true := by decide +kernel
theorem k_Sh_has : ny_chk 6 m_Sh_has = true := by decide +kernel
theorem k_Sh_refusalAs : ny_chk 6 m_Sh_refusalAs = true := by decide +kernel
theorem k_Sh_narrowed : ny_chk 6 m_Sh_narrowed = true := by decide +kernel
theorem k_Sf_init : ny_chk 7 m_Sf_init = true := by decide +kernel
theorem k_Sf_holdNothing : ny_chk 7 m_Sf_holdNothing = true := by decide +kernel
theorem k_Sf_holdFigure : ny_chk 7 m_Sf_holdFigure = true := by decide +kernel
theorem k_Sf_holdRow : ny_chk 7 m_Sf_holdRow = true := by decide +kernel
theorem k_Sf_isRow : ny_chk 7 m_Sf_isRow = true := by decide +kernel
theorem k_Ta_init : ny_chk 8 m_Ta_init = true := by decide +kernel
theorem k_Ta_takes : ny_chk 8 m_Ta_takes = true := by decide +kernel
theorem k_Ta_readInto : ny_chk 8 m_Ta_readInto = true := by decide +kernel
theorem k_Ta_isLetter : ny_chk 8 m_Ta_isLetter = true := by decide +kernel
theorem k_Ta_isDigit : ny_chk 8 m_Ta_isDigit = true := by decide +kernel
theorem k_Ta_isSign : ny_chk 8 m_Ta_isSign = true := by decide +kernel
theorem k_Ta_split : ny_chk 8 m_Ta_split = true := by decide +kernel
theorem k_Ta_goesOn : ny_chk 8 m_Ta_goesOn = true := by decide +kernel
theorem k_Ta_addToken : ny_chk 8 m_Ta_addToken = true := by decide +kernel
theorem k_Ta_endOf : ny_chk 8 m_Ta_endOf = true := by decide +kernel
theorem k_Ta_tokenAt : ny_chk 8 m_Ta_tokenAt = true := by decide +kernel
theorem k_Ta_wordAt : ny_chk 8 m_Ta_wordAt = true := by decide +kernel
theorem k_Ta_numberAt : ny_chk 8 m_Ta_numberAt = true := by decide +kernel
theorem k_Ta_pass : ny_chk 8 m_Ta_pass = true := by decide +kernel
theorem k_Ta_passes : ny_chk 8 m_Ta_passes = true := by decide +kernel
theorem k_Ta_readRule : ny_chk 8 m_Ta_readRule = true := by decide +kernel
theorem k_Ta_readCondition : ny_chk 8 m_Ta_readCondition = true := by decide +kernel
theorem k_Ta_readAll : ny_chk 8 m_Ta_readAll = true := by decide +kernel
theorem k_Ta_readOne : ny_chk 8 m_Ta_readOne = true := by decide +kernel
theorem k_Ta_readComparison : ny_chk 8 m_Ta_readComparison = true := by decide +kernel
theorem k_Ta_placeOfValue : ny_chk 8 m_Ta_placeOfValue = true := by decide +kernel
theorem k_No_init : ny_chk 9 m_No_init = true := by decide +kernel
theorem k_No_figure : ny_chk 9 m_No_figure = true := by decide +kernel
theorem k_No_figureOf : ny_chk 9 m_No_figureOf = true := by decide +kernel
theorem k_No_change : ny_chk 9 m_No_change = true := by decide +kernel
theorem k_No_remake : ny_chk 9 m_No_remake = true := by decide +kernel
theorem k_No_weather : ny_chk 9 m_No_weather = true := by decide +kernel
theorem k_No_niche : ny_chk 9 m_No_niche = true := by decide +kernel
theorem k_No_nicheOf : ny_chk 9 m_No_nicheOf = true := by decide +kernel
theorem k_No_ends : ny_chk 9 m_No_ends = true := by decide +kernel
theorem k_No_anew : ny_chk 9 m_No_anew = true := by decide +kernel
theorem k_No_state : ny_chk 9 m_No_state = true := by decide +kernel
theorem k_No_feed : ny_chk 9 m_No_feed = true := by decide +kernel
theorem k_No_rules : ny_chk 9 m_No_rules = true := by decide +kernel
theorem k_No_bell : ny_chk 9 m_No_bell = true := by decide +kernel
theorem k_No_on : ny_chk 9 m_No_on = true := by decide +kernel
theorem k_No_when : ny_chk 9 m_No_when = true := by decide +kernel
theorem k_No_graceFor : ny_chk 9 m_No_graceFor = true := by decide +kernel
theorem k_No_nicheFor : ny_chk 9 m_No_nicheFor = true := by decide +kernel
theorem k_No_faints : ny_chk 9 m_No_faints = true := by decide +kernel
theorem k_No_rank : ny_chk 9 m_No_rank = true := by decide +kernel
theorem k_No_rings : ny_chk 9 m_No_rings = true := by decide +kernel
theorem k_No_way : ny_chk 9 m_No_way = true := by decide +kernel
theorem k_No_best : ny_chk 9 m_No_best = true := by decide +kernel
theorem k_No_ith : ny_chk 9 m_No_ith = true := by decide +kernel
theorem k_No_ways : ny_chk 9 m_No_ways = true := by decide +kernel
theorem k_No_roster : ny_chk 9 m_No_roster = true := by decide +kernel
theorem k_No_bars : ny_chk 9 m_No_bars = true := by decide +kernel
theorem k_No_game : ny_chk 9 m_No_game = true := by decide +kernel
theorem k_No_play : ny_chk 9 m_No_play = true := by decide +kernel
theorem k_No_report : ny_chk 9 m_No_report = true := by decide +kernel
theorem k_No_forget : ny_chk 9 m_No_forget = true := by decide +kernel
theorem k_No_nymph : ny_chk 9 m_No_nymph = true := by decide +kernel
theorem k_No_liar : ny_chk 9 m_No_liar = true := by decide +kernel
theorem k_No_seed : ny_chk 9 m_No_seed = true := by decide +kernel
theorem k_No_lot : ny_chk 9 m_No_lot = true := by decide +kernel
theorem k_No_times : ny_chk 9 m_No_times = true := by decide +kernel
theorem k_No_prove : ny_chk 9 m_No_prove = true := by decide +kernel
theorem k_No_row : ny_chk 9 m_No_row = true := by decide +kernel
theorem k_No_alterRow : ny_chk 9 m_No_alterRow = true := by decide +kernel
theorem k_No_judge : ny_chk 9 m_No_judge = true := by decide +kernel
theorem k_No_sheet : ny_chk 9 m_No_sheet = true := by decide +kernel
theorem k_No_write : ny_chk 9 m_No_write = true := by decide +kernel
theorem k_No_item : ny_chk 9 m_No_item = true := by decide +kernel
theorem k_No_goAll : ny_chk 9 m_No_goAll = true := by decide +kernel
theorem k_No_wouldBe : ny_chk 9 m_No_wouldBe = true := by decide +kernel
theorem k_No_shelf : ny_chk 9 m_No_shelf = true := by decide +kernel
theorem k_No_taken : ny_chk 9 m_No_taken = true := by decide +kernel
theorem k_No_act : ny_chk 9 m_No_act = true := by decide +kernel
theorem k_No_trace : ny_chk 9 m_No_trace = true := by decide +kernel
theorem k_No_many : ny_chk 9 m_No_many = true := by decide +kernel
theorem k_No_keep : ny_chk 9 m_No_keep = true := by decide +kernel
theorem k_No_again : ny_chk 9 m_No_again = true := by decide +kernel
theorem k_No_isBetween : ny_chk 9 m_No_isBetween = true := by decide +kernel
theorem k_No_isNiche : ny_chk 9 m_No_isNiche = true := by decide +kernel
theorem k_No_oneIf : ny_chk 9 m_No_oneIf = true := by decide +kernel
theorem k_No_put : ny_chk 9 m_No_put = true := by decide +kernel
theorem k_No_changeRelieved : ny_chk 9 m_No_changeRelieved = true := by decide +kernel
theorem k_No_goOn : ny_chk 9 m_No_goOn = true := by decide +kernel
theorem k_No_isInRow : ny_chk 9 m_No_isInRow = true := by decide +kernel
theorem k_No_refusalOfActs : ny_chk 9 m_No_refusalOfActs = true := by decide +kernel
theorem k_Md_init : ny_chk 10 m_Md_init = true := by decide +kernel
theorem k_Md_isIn : ny_chk 10 m_Md_isIn = true := by decide +kernel
theorem k_Md_isOne : ny_chk 10 m_Md_isOne = true := by decide +kernel
theorem k_Md_isNiche : ny_chk 10 m_Md_isNiche = true := by decide +kernel
theorem k_Md_its : ny_chk 10 m_Md_its = true := by decide +kernel
theorem k_Md_becomes : ny_chk 10 m_Md_becomes = true := by decide +kernel
theorem k_Md_laysAside : ny_chk 10 m_Md_laysAside = true := by decide +kernel
theorem k_Md_laysBack : ny_chk 10 m_Md_laysBack = true := by decide +kernel
theorem k_Md_isOver : ny_chk 10 m_Md_isOver = true := by decide +kernel
theorem k_Md_size : ny_chk 10 m_Md_size = true := by decide +kernel
theorem k_Md_least : ny_chk 10 m_Md_least = true := by decide +kernel
theorem k_Md_greatest : ny_chk 10 m_Md_greatest = true := by decide +kernel
theorem k_Md_figure : ny_chk 10 m_Md_figure = true := by decide +kernel
theorem k_Md_weatherOf : ny_chk 10 m_Md_weatherOf = true := by decide +kernel
theorem k_Md_wearies : ny_chk 10 m_Md_wearies = true := by decide +kernel
theorem k_Md_shows : ny_chk 10 m_Md_shows = true := by decide +kernel
theorem k_Md_isUp : ny_chk 10 m_Md_isUp = true := by decide +kernel
theorem k_Md_wearied : ny_chk 10 m_Md_wearied = true := by decide +kernel
theorem k_Md_shown : ny_chk 10 m_Md_shown = true := by decide +kernel
theorem k_Md_pays : ny_chk 10 m_Md_pays = true := by decide +kernel
theorem k_Md_isUnder : ny_chk 10 m_Md_isUnder = true := by decide +kernel
theorem k_Md_valueOf : ny_chk 10 m_Md_valueOf = true := by decide +kernel
theorem k_Md_holds : ny_chk 10 m_Md_holds = true := by decide +kernel
theorem k_Md_will : ny_chk 10 m_Md_will = true := by decide +kernel
theorem k_Md_mayBe : ny_chk 10 m_Md_mayBe = true := by decide +kernel
theorem k_Md_figureOf : ny_chk 10 m_Md_figureOf = true := by decide +kernel
theorem k_Md_greatestOf : ny_chk 10 m_Md_greatestOf = true := by decide +kernel
theorem k_Md_change : ny_chk 10 m_Md_change = true := by decide +kernel
theorem k_Md_remake : ny_chk 10 m_Md_remake = true := by decide +kernel
theorem k_Md_weather : ny_chk 10 m_Md_weather = true := by decide +kernel
theorem k_Md_niche : ny_chk 10 m_Md_niche = true := by decide +kernel
theorem k_Md_nicheOf : ny_chk 10 m_Md_nicheOf = true := by decide +kernel
theorem k_Md_ends : ny_chk 10 m_Md_ends = true := by decide +kernel
theorem k_Md_anew : ny_chk 10 m_Md_anew = true := by decide +kernel
theorem k_Md_relievedOnes : ny_chk 10 m_Md_relievedOnes = true := by decide +kernel
theorem k_Md_thoseUp : ny_chk 10 m_Md_thoseUp = true := by decide +kernel
theorem k_Md_state : ny_chk 10 m_Md_state = true := by decide +kernel
theorem k_Md_feed : ny_chk 10 m_Md_feed = true := by decide +kernel
theorem k_Md_isAlpha : ny_chk 10 m_Md_isAlpha = true := by decide +kernel
theorem k_Md_isDigit : ny_chk 10 m_Md_isDigit = true := by decide +kernel
theorem k_Md_byteAt : ny_chk 10 m_Md_byteAt = true := by decide +kernel
theorem k_Md_nextToken : ny_chk 10 m_Md_nextToken = true := by decide +kernel
theorem k_Md_needs : ny_chk 10 m_Md_needs = true := by decide +kernel
theorem k_Md_isByte : ny_chk 10 m_Md_isByte = true := by decide +kernel
theorem k_Md_isName : ny_chk 10 m_Md_isName = true := by decide +kernel
theorem k_Md_isSame : ny_chk 10 m_Md_isSame = true := by decide +kernel
theorem k_Md_kindHere : ny_chk 10 m_Md_kindHere = true := by decide +kernel
theorem k_Md_doHere : ny_chk 10 m_Md_doHere = true := by decide +kernel
theorem k_Md_factHere : ny_chk 10 m_Md_factHere = true := by decide +kernel
theorem k_Md_isTwo : ny_chk 10 m_Md_isTwo = true := by decide +kernel
theorem k_Md_steps : ny_chk 10 m_Md_steps = true := by decide +kernel
theorem k_Md_valueHere : ny_chk 10 m_Md_valueHere = true := by decide +kernel
theorem k_Md_comparesHere : ny_chk 10 m_Md_comparesHere = true := by decide +kernel
theorem k_Md_oneHere : ny_chk 10 m_Md_oneHere = true := by decide +kernel
theorem k_Md_allHere : ny_chk 10 m_Md_allHere = true := by decide +kernel
theorem k_Md_condHere : ny_chk 10 m_Md_condHere = true := by decide +kernel
theorem k_Md_ruleHere : ny_chk 10 m_Md_ruleHere = true := by decide +kernel
theorem k_Md_rules : ny_chk 10 m_Md_rules = true := by decide +kernel
theorem k_Md_goesWith : ny_chk 10 m_Md_goesWith = true := by decide +kernel
theorem k_Md_restAct : ny_chk 10 m_Md_restAct = true := by decide +kernel
theorem k_Md_bell : ny_chk 10 m_Md_bell = true := by decide +kernel
theorem k_Md_onBy : ny_chk 10 m_Md_onBy = true := by decide +kernel
theorem k_Md_on : ny_chk 10 m_Md_on = true := by decide +kernel
theorem k_Md_when : ny_chk 10 m_Md_when = true := by decide +kernel
theorem k_Md_valueFor : ny_chk 10 m_Md_valueFor = true := by decide +kernel
theorem k_Md_graceFor : ny_chk 10 m_Md_graceFor = true := by decide +kernel
theorem k_Md_nicheFor : ny_chk 10 m_Md_nicheFor = true := by decide +kernel
theorem k_Md_faints : ny_chk 10 m_Md_faints = true := by decide +kernel
theorem k_Md_rank : ny_chk 10 m_Md_rank = true := by decide +kernel
theorem k_Md_areClose : ny_chk 10 m_Md_areClose = true := by decide +kernel
theorem k_Md_ringOf : ny_chk 10 m_Md_ringOf = true := by decide +kernel
theorem k_Md_rings : ny_chk 10 m_Md_rings = true := by decide +kernel
theorem k_Md_stepsBy : ny_chk 10 m_Md_stepsBy = true := by decide +kernel
theorem k_Md_way : ny_chk 10 m_Md_way = true := by decide +kernel
theorem k_Md_isSet : ny_chk 10 m_Md_isSet = true := by decide +kernel
theorem k_Md_plans : ny_chk 10 m_Md_plans = true := by decide +kernel
theorem k_Md_findsPlans : ny_chk 10 m_Md_findsPlans = true := by decide +kernel
theorem k_Md_isLong : ny_chk 10 m_Md_isLong = true := by decide +kernel
theorem k_Md_best : ny_chk 10 m_Md_best = true := by decide +kernel
theorem k_Md_ith : ny_chk 10 m_Md_ith = true := by decide +kernel
theorem k_Md_ways : ny_chk 10 m_Md_ways = true := by decide +kernel
theorem k_Md_roster : ny_chk 10 m_Md_roster = true := by decide +kernel
theorem k_Md_bars : ny_chk 10 m_Md_bars = true := by decide +kernel
theorem k_Md_valueFrom : ny_chk 10 m_Md_valueFrom = true := by decide +kernel
theorem k_Md_game : ny_chk 10 m_Md_game = true := by decide +kernel
theorem k_Md_play : ny_chk 10 m_Md_play = true := by decide +kernel
theorem k_Md_report : ny_chk 10 m_Md_report = true := by decide +kernel
theorem k_Md_forget : ny_chk 10 m_Md_forget = true := by decide +kernel
theorem k_Md_stands : ny_chk 10 m_Md_stands = true := by decide +kernel
theorem k_Md_isFit : ny_chk 10 m_Md_isFit = true := by decide +kernel
theorem k_Md_findsFits : ny_chk 10 m_Md_findsFits = true := by decide +kernel
theorem k_Md_nymph : ny_chk 10 m_Md_nymph = true := by decide +kernel
theorem k_Md_liar : ny_chk 10 m_Md_liar = true := by decide +kernel
theorem k_Md_seed : ny_chk 10 m_Md_seed = true := by decide +kernel
theorem k_Md_goesByLot : ny_chk 10 m_Md_goesByLot = true := by decide +kernel
theorem k_Md_lot : ny_chk 10 m_Md_lot = true := by decide +kernel
theorem k_Md_times : ny_chk 10 m_Md_times = true := by decide +kernel
theorem k_Md_prove : ny_chk 10 m_Md_prove = true := by decide +kernel
theorem k_Md_isRow : ny_chk 10 m_Md_isRow = true := by decide +kernel
theorem k_Md_row : ny_chk 10 m_Md_row = true := by decide +kernel
theorem k_Md_alterRow : ny_chk 10 m_Md_alterRow = true := by decide +kernel
theorem k_Md_isAct : ny_chk 10 m_Md_isAct = true := by decide +kernel
theorem k_Md_judge : ny_chk 10 m_Md_judge = true := by decide +kernel
theorem k_Md_isSheet : ny_chk 10 m_Md_isSheet = true := by decide +kernel
theorem k_Md_isShelf : ny_chk 10 m_Md_isShelf = true := by decide +kernel
theorem k_Md_sheet : ny_chk 10 m_Md_sheet = true := by decide +kernel
theorem k_Md_write : ny_chk 10 m_Md_write = true := by decide +kernel
theorem k_Md_lacks : ny_chk 10 m_Md_lacks = true := by decide +kernel
theorem k_Md_item : ny_chk 10 m_Md_item = true := by decide +kernel
theorem k_Md_goAll : ny_chk 10 m_Md_goAll = true := by decide +kernel
theorem k_Md_sumBy : ny_chk 10 m_Md_sumBy = true := by decide +kernel
theorem k_Md_wouldBe : ny_chk 10 m_Md_wouldBe = true := by decide +kernel
theorem k_Md_shelf : ny_chk 10 m_Md_shelf = true := by decide +kernel
theorem k_Md_heldOn : ny_chk 10 m_Md_heldOn = true := by decide +kernel
theorem k_Md_taken : ny_chk 10 m_Md_taken = true := by decide +kernel
theorem k_Md_runs : ny_chk 10 m_Md_runs = true := by decide +kernel
theorem k_Md_posesPlain : ny_chk 10 m_Md_posesPlain = true := by decide +kernel
theorem k_Md_poses : ny_chk 10 m_Md_poses = true := by decide +kernel
theorem k_Md_dripsPlain : ny_chk 10 m_Md_dripsPlain = true := by decide +kernel
theorem k_Md_drips : ny_chk 10 m_Md_drips = true := by decide +kernel
theorem k_Md_glancesPlain : ny_chk 10 m_Md_glancesPlain = true := by decide +kernel
theorem k_Md_glancesOfNovice : ny_chk 10 m_Md_glancesOfNovice = true := by decide +kernel
theorem k_Md_glances : ny_chk 10 m_Md_glances = true := by decide +kernel
theorem k_Md_leavesPlain : ny_chk 10 m_Md_leavesPlain = true := by decide +kernel
theorem k_Md_leaves : ny_chk 10 m_Md_leaves = true := by decide +kernel
theorem k_Md_act : ny_chk 10 m_Md_act = true := by decide +kernel
theorem k_Md_trace : ny_chk 10 m_Md_trace = true := by decide +kernel
theorem k_Md_many : ny_chk 10 m_Md_many = true := by decide +kernel
theorem k_Md_keep : ny_chk 10 m_Md_keep = true := by decide +kernel
theorem k_Md_again : ny_chk 10 m_Md_again = true := by decide +kernel
theorem k_Ji_bitCount : ny_chk 14 m_Ji_bitCount = true := by decide +kernel
theorem k_Js_length : ny_chk 11 m_Js_length = true := by decide +kernel
theorem k_Js_charAt : ny_chk 11 m_Js_charAt = true := by decide +kernel
theorem k_Js_coder : ny_chk 11 m_Js_coder = true := by decide +kernel
theorem k_Js_isLatin1 : ny_chk 11 m_Js_isLatin1 = true := by decide +kernel
theorem k_Js_checkIndex : ny_chk 11 m_Js_checkIndex = true := by decide +kernel
theorem k_Jl_charAt : ny_chk 16 m_Jl_charAt = true := by decide +kernel
theorem k_Ja_fill : ny_chk 15 m_Ja_fill = true := by decide +kernel
theorem k_Jp_checkIndex : ny_chk 17 m_Jp_checkIndex = true := by decide +kernel
