set_option maxRecDepth 40000 in
theorem okO_init : dmOK mO_init = true := by decide +kernel
set_option maxRecDepth 40000 in
theorem okC_init : dmOK mC_init = true := by decide +kernel
set_option maxRecDepth 40000 in
theorem okH_init : dmOK mH_init = true := by decide +kernel
set_option maxRecDepth 40000 in
theorem okS_init : dmOK mS_init = true := by decide +kernel
set_option maxRecDepth 40000 in
theorem okS_placesNearOne : dmOK mS_placesNearOne = true := by decide +kernel
set_option maxRecDepth 40000 in
theorem okT_init : dmOK mT_init = true := by decide +kernel
set_option maxRecDepth 40000 in
theorem okV_init : dmOK mV_init = true := by decide +kernel
set_option maxRecDepth 40000 in
theorem okO_row : dmOK mO_row = true := by decide +kernel
set_option maxRecDepth 40000 in
theorem okH_has : dmOK mH_has = true := by decide +kernel
set_option maxRecDepth 40000 in
theorem okO_refuse : dmOK mO_refuse = true := by decide +kernel
set_option maxRecDepth 40000 in
theorem okO_within : dmOK mO_within = true := by decide +kernel
set_option maxRecDepth 40000 in
theorem okH_holdRow : dmOK mH_holdRow = true := by decide +kernel
set_option maxRecDepth 40000 in
theorem okO_set : dmOK mO_set = true := by decide +kernel
set_option maxRecDepth 40000 in
theorem okO_noRow : dmOK mO_noRow = true := by decide +kernel
set_option maxRecDepth 40000 in
theorem okH_holdsRow : dmOK mH_holdsRow = true := by decide +kernel
set_option maxRecDepth 40000 in
theorem okH_hasElement : dmOK mH_hasElement = true := by decide +kernel
set_option maxRecDepth 40000 in
theorem okH_put : dmOK mH_put = true := by decide +kernel
set_option maxRecDepth 40000 in
theorem okH_lowestBits : dmOK mH_lowestBits = true := by decide +kernel
set_option maxRecDepth 40000 in
theorem okO_copy : dmOK mO_copy = true := by decide +kernel
set_option maxRecDepth 40000 in
theorem okO_noPairOfRows : dmOK mO_noPairOfRows = true := by decide +kernel
set_option maxRecDepth 40000 in
theorem okH_hasPart : dmOK mH_hasPart = true := by decide +kernel
set_option maxRecDepth 40000 in
theorem okO_element : dmOK mO_element = true := by decide +kernel
set_option maxRecDepth 40000 in
theorem okO_show : dmOK mO_show = true := by decide +kernel
set_option maxRecDepth 40000 in
theorem okC_hasVoice : dmOK mC_hasVoice = true := by decide +kernel
set_option maxRecDepth 40000 in
theorem okO_holds : dmOK mO_holds = true := by decide +kernel
set_option maxRecDepth 40000 in
theorem okO_says : dmOK mO_says = true := by decide +kernel
set_option maxRecDepth 40000 in
theorem okO_isKind : dmOK mO_isKind = true := by decide +kernel
set_option maxRecDepth 40000 in
theorem okO_isOrIsUnder : dmOK mO_isOrIsUnder = true := by decide +kernel
set_option maxRecDepth 40000 in
theorem okJ_bitCount : dmOK mJ_bitCount = true := by decide +kernel
set_option maxRecDepth 40000 in
theorem okO_tune : dmOK mO_tune = true := by decide +kernel
set_option maxRecDepth 40000 in
theorem okC_hasRoomForTune : dmOK mC_hasRoomForTune = true := by decide +kernel
set_option maxRecDepth 40000 in
theorem okC_addTune : dmOK mC_addTune = true := by decide +kernel
set_option maxRecDepth 40000 in
theorem okO_voice : dmOK mO_voice = true := by decide +kernel
set_option maxRecDepth 40000 in
theorem okC_isFree : dmOK mC_isFree = true := by decide +kernel
set_option maxRecDepth 40000 in
theorem okC_hasRoomForVoice : dmOK mC_hasRoomForVoice = true := by decide +kernel
set_option maxRecDepth 40000 in
theorem okC_addVoice : dmOK mC_addVoice = true := by decide +kernel
set_option maxRecDepth 40000 in
theorem okO_knows : dmOK mO_knows = true := by decide +kernel
set_option maxRecDepth 40000 in
theorem okC_hasTune : dmOK mC_hasTune = true := by decide +kernel
set_option maxRecDepth 40000 in
theorem okC_knowsIt : dmOK mC_knowsIt = true := by decide +kernel
set_option maxRecDepth 40000 in
theorem okC_learn : dmOK mC_learn = true := by decide +kernel
set_option maxRecDepth 40000 in
theorem okO_move : dmOK mO_move = true := by decide +kernel
set_option maxRecDepth 40000 in
theorem okO_ask : dmOK mO_ask = true := by decide +kernel
set_option maxRecDepth 40000 in
theorem okO_voiceOf : dmOK mO_voiceOf = true := by decide +kernel
set_option maxRecDepth 40000 in
theorem okO_highOf : dmOK mO_highOf = true := by decide +kernel
set_option maxRecDepth 40000 in
theorem okO_church : dmOK mO_church = true := by decide +kernel
set_option maxRecDepth 40000 in
theorem okC_become : dmOK mC_become = true := by decide +kernel
set_option maxRecDepth 40000 in
theorem okT_readItems : dmOK mT_readItems = true := by decide +kernel
set_option maxRecDepth 40000 in
theorem okT_readItem : dmOK mT_readItem = true := by decide +kernel
set_option maxRecDepth 40000 in
theorem okT_itemAt : dmOK mT_itemAt = true := by decide +kernel
set_option maxRecDepth 40000 in
theorem okT_letter : dmOK mT_letter = true := by decide +kernel
set_option maxRecDepth 40000 in
theorem okT_wordOf : dmOK mT_wordOf = true := by decide +kernel
set_option maxRecDepth 40000 in
theorem okJS_charAt : dmOK mJS_charAt = true := by decide +kernel
set_option maxRecDepth 40000 in
theorem okJS_isLatin1 : dmOK mJS_isLatin1 = true := by decide +kernel
set_option maxRecDepth 40000 in
theorem okJL_charAt : dmOK mJL_charAt = true := by decide +kernel
set_option maxRecDepth 40000 in
theorem okJS_checkIndex : dmOK mJS_checkIndex = true := by decide +kernel
set_option maxRecDepth 40000 in
theorem okJP_checkIndex : dmOK mJP_checkIndex = true := by decide +kernel
set_option maxRecDepth 40000 in
theorem okT_faultAt : dmOK mT_faultAt = true := by decide +kernel
set_option maxRecDepth 40000 in
theorem okT_takeWord : dmOK mT_takeWord = true := by decide +kernel
set_option maxRecDepth 40000 in
theorem okJS_length : dmOK mJS_length = true := by decide +kernel
set_option maxRecDepth 40000 in
theorem okJS_coder : dmOK mJS_coder = true := by decide +kernel
set_option maxRecDepth 40000 in
theorem okT_takeLetter : dmOK mT_takeLetter = true := by decide +kernel
set_option maxRecDepth 40000 in
theorem okT_hasRoomFor : dmOK mT_hasRoomFor = true := by decide +kernel
set_option maxRecDepth 40000 in
theorem okT_takeNumber : dmOK mT_takeNumber = true := by decide +kernel
set_option maxRecDepth 40000 in
theorem okT_mayBe : dmOK mT_mayBe = true := by decide +kernel
set_option maxRecDepth 40000 in
theorem okT_mayBeOfVoice : dmOK mT_mayBeOfVoice = true := by decide +kernel
set_option maxRecDepth 40000 in
theorem okT_tell : dmOK mT_tell = true := by decide +kernel
set_option maxRecDepth 40000 in
theorem okO_fault : dmOK mO_fault = true := by decide +kernel
set_option maxRecDepth 40000 in
theorem okO_sung : dmOK mO_sung = true := by decide +kernel
set_option maxRecDepth 40000 in
theorem okO_isPitch : dmOK mO_isPitch = true := by decide +kernel
set_option maxRecDepth 40000 in
theorem okO_isVerse : dmOK mO_isVerse = true := by decide +kernel
set_option maxRecDepth 40000 in
theorem okS_begin : dmOK mS_begin = true := by decide +kernel
set_option maxRecDepth 40000 in
theorem okC_needOf : dmOK mC_needOf = true := by decide +kernel
set_option maxRecDepth 40000 in
theorem okC_needByBold : dmOK mC_needByBold = true := by decide +kernel
set_option maxRecDepth 40000 in
theorem okC_isInReach : dmOK mC_isInReach = true := by decide +kernel
set_option maxRecDepth 40000 in
theorem okS_singTo : dmOK mS_singTo = true := by decide +kernel
set_option maxRecDepth 40000 in
theorem okS_nextVerse : dmOK mS_nextVerse = true := by decide +kernel
set_option maxRecDepth 40000 in
theorem okS_joinsIn : dmOK mS_joinsIn = true := by decide +kernel
set_option maxRecDepth 40000 in
theorem okS_singsRight : dmOK mS_singsRight = true := by decide +kernel
set_option maxRecDepth 40000 in
theorem okC_voicesIn : dmOK mC_voicesIn = true := by decide +kernel
set_option maxRecDepth 40000 in
theorem okS_placesNear : dmOK mS_placesNear = true := by decide +kernel
set_option maxRecDepth 40000 in
theorem okO_needs : dmOK mO_needs = true := by decide +kernel
set_option maxRecDepth 40000 in
theorem okO_verse : dmOK mO_verse = true := by decide +kernel
set_option maxRecDepth 40000 in
theorem okS_catchesAt : dmOK mS_catchesAt = true := by decide +kernel
set_option maxRecDepth 40000 in
theorem okS_settlesAt : dmOK mS_settlesAt = true := by decide +kernel
set_option maxRecDepth 40000 in
theorem okO_best : dmOK mO_best = true := by decide +kernel
set_option maxRecDepth 40000 in
theorem okO_rightAt : dmOK mO_rightAt = true := by decide +kernel
set_option maxRecDepth 40000 in
theorem okO_pitch : dmOK mO_pitch = true := by decide +kernel
set_option maxRecDepth 40000 in
theorem okO_two : dmOK mO_two = true := by decide +kernel
set_option maxRecDepth 40000 in
theorem okO_leaders : dmOK mO_leaders = true := by decide +kernel
set_option maxRecDepth 40000 in
theorem okO_rightLedFrom : dmOK mO_rightLedFrom = true := by decide +kernel
set_option maxRecDepth 40000 in
theorem okC_addLeader : dmOK mC_addLeader = true := by decide +kernel
set_option maxRecDepth 40000 in
theorem okC_allTunes : dmOK mC_allTunes = true := by decide +kernel
set_option maxRecDepth 40000 in
theorem okO_taught : dmOK mO_taught = true := by decide +kernel
set_option maxRecDepth 40000 in
theorem okO_catchesIfTaught : dmOK mO_catchesIfTaught = true := by decide +kernel
set_option maxRecDepth 40000 in
theorem okO_helps : dmOK mO_helps = true := by decide +kernel
set_option maxRecDepth 40000 in
theorem okS_leaveOut : dmOK mS_leaveOut = true := by decide +kernel
set_option maxRecDepth 40000 in
theorem okO_late : dmOK mO_late = true := by decide +kernel
set_option maxRecDepth 40000 in
theorem okO_lateLedBy : dmOK mO_lateLedBy = true := by decide +kernel
set_option maxRecDepth 40000 in
theorem okO_ahead : dmOK mO_ahead = true := by decide +kernel
set_option maxRecDepth 40000 in
theorem okO_fits : dmOK mO_fits = true := by decide +kernel
set_option maxRecDepth 40000 in
theorem okO_noPart : dmOK mO_noPart = true := by decide +kernel
set_option maxRecDepth 40000 in
theorem okS_isHeardAs : dmOK mS_isHeardAs = true := by decide +kernel
set_option maxRecDepth 40000 in
theorem okO_changed : dmOK mO_changed = true := by decide +kernel
set_option maxRecDepth 40000 in
theorem okC_changePlaces : dmOK mC_changePlaces = true := by decide +kernel
set_option maxRecDepth 40000 in
theorem okO_known : dmOK mO_known = true := by decide +kernel
set_option maxRecDepth 40000 in
theorem okC_knownTogether : dmOK mC_knownTogether = true := by decide +kernel
set_option maxRecDepth 40000 in
theorem okC_knownToAll : dmOK mC_knownToAll = true := by decide +kernel
set_option maxRecDepth 40000 in
theorem okC_likestVoice : dmOK mC_likestVoice = true := by decide +kernel
set_option maxRecDepth 40000 in
theorem okO_judge : dmOK mO_judge = true := by decide +kernel
set_option maxRecDepth 40000 in
theorem okO_firstWrong : dmOK mO_firstWrong = true := by decide +kernel
set_option maxRecDepth 40000 in
theorem okH_told : dmOK mH_told = true := by decide +kernel
set_option maxRecDepth 40000 in
theorem okO_behind : dmOK mO_behind = true := by decide +kernel
set_option maxRecDepth 40000 in
theorem okO_maySing : dmOK mO_maySing = true := by decide +kernel
set_option maxRecDepth 40000 in
theorem okO_singTold : dmOK mO_singTold = true := by decide +kernel
set_option maxRecDepth 40000 in
theorem okO_singInTruth : dmOK mO_singInTruth = true := by decide +kernel
set_option maxRecDepth 40000 in
theorem okC_learnAll : dmOK mC_learnAll = true := by decide +kernel
set_option maxRecDepth 40000 in
theorem okO_done : dmOK mO_done = true := by decide +kernel
set_option maxRecDepth 40000 in
theorem okO_hymn : dmOK mO_hymn = true := by decide +kernel
set_option maxRecDepth 40000 in
theorem okO_years : dmOK mO_years = true := by decide +kernel
set_option maxRecDepth 40000 in
theorem okC_draw : dmOK mC_draw = true := by decide +kernel
set_option maxRecDepth 40000 in
theorem okO_seed : dmOK mO_seed = true := by decide +kernel
set_option maxRecDepth 40000 in
theorem okO_act : dmOK mO_act = true := by decide +kernel
set_option maxRecDepth 40000 in
theorem okV_forget : dmOK mV_forget = true := by decide +kernel
set_option maxRecDepth 40000 in
theorem okV_start : dmOK mV_start = true := by decide +kernel
set_option maxRecDepth 40000 in
theorem okV_runFrom : dmOK mV_runFrom = true := by decide +kernel
set_option maxRecDepth 40000 in
theorem okV_note : dmOK mV_note = true := by decide +kernel
set_option maxRecDepth 40000 in
theorem okV_runBody : dmOK mV_runBody = true := by decide +kernel
set_option maxRecDepth 40000 in
theorem okV_kindAboveThatOf : dmOK mV_kindAboveThatOf = true := by decide +kernel
set_option maxRecDepth 40000 in
theorem okO_trace : dmOK mO_trace = true := by decide +kernel
set_option maxRecDepth 40000 in
theorem okV_bodyAt : dmOK mV_bodyAt = true := by decide +kernel
set_option maxRecDepth 40000 in
theorem okO_image : dmOK mO_image = true := by decide +kernel
set_option maxRecDepth 40000 in
theorem okO_restore : dmOK mO_restore = true := by decide +kernel
set_option maxRecDepth 40000 in
theorem okH_dropVoicesFrom : dmOK mH_dropVoicesFrom = true := by decide +kernel
set_option maxRecDepth 40000 in
theorem okO_status : dmOK mO_status = true := by decide +kernel
set_option maxRecDepth 40000 in
theorem okM_init : dmOK mM_init = true := by decide +kernel
set_option maxRecDepth 40000 in
theorem okM_row : dmOK mM_row = true := by decide +kernel
set_option maxRecDepth 40000 in
theorem okM_within : dmOK mM_within = true := by decide +kernel
set_option maxRecDepth 40000 in
theorem okM_no : dmOK mM_no = true := by decide +kernel
set_option maxRecDepth 40000 in
theorem okM_set : dmOK mM_set = true := by decide +kernel
set_option maxRecDepth 40000 in
theorem okM_noRow : dmOK mM_noRow = true := by decide +kernel
set_option maxRecDepth 40000 in
theorem okM_isRow : dmOK mM_isRow = true := by decide +kernel
set_option maxRecDepth 40000 in
theorem okM_copy : dmOK mM_copy = true := by decide +kernel
set_option maxRecDepth 40000 in
theorem okM_element : dmOK mM_element = true := by decide +kernel
set_option maxRecDepth 40000 in
theorem okM_show : dmOK mM_show = true := by decide +kernel
set_option maxRecDepth 40000 in
theorem okM_isVoice : dmOK mM_isVoice = true := by decide +kernel
set_option maxRecDepth 40000 in
theorem okM_holds : dmOK mM_holds = true := by decide +kernel
set_option maxRecDepth 40000 in
theorem okM_says : dmOK mM_says = true := by decide +kernel
set_option maxRecDepth 40000 in
theorem okM_isUnder : dmOK mM_isUnder = true := by decide +kernel
set_option maxRecDepth 40000 in
theorem okM_above : dmOK mM_above = true := by decide +kernel
set_option maxRecDepth 40000 in
theorem okM_tune : dmOK mM_tune = true := by decide +kernel
set_option maxRecDepth 40000 in
theorem okM_newTune : dmOK mM_newTune = true := by decide +kernel
set_option maxRecDepth 40000 in
theorem okM_voice : dmOK mM_voice = true := by decide +kernel
set_option maxRecDepth 40000 in
theorem okM_isFree : dmOK mM_isFree = true := by decide +kernel
set_option maxRecDepth 40000 in
theorem okM_isTaken : dmOK mM_isTaken = true := by decide +kernel
set_option maxRecDepth 40000 in
theorem okM_newVoice : dmOK mM_newVoice = true := by decide +kernel
set_option maxRecDepth 40000 in
theorem okM_knows : dmOK mM_knows = true := by decide +kernel
set_option maxRecDepth 40000 in
theorem okM_isTune : dmOK mM_isTune = true := by decide +kernel
set_option maxRecDepth 40000 in
theorem okM_move : dmOK mM_move = true := by decide +kernel
set_option maxRecDepth 40000 in
theorem okM_ask : dmOK mM_ask = true := by decide +kernel
set_option maxRecDepth 40000 in
theorem okM_voiceOf : dmOK mM_voiceOf = true := by decide +kernel
set_option maxRecDepth 40000 in
theorem okM_highOf : dmOK mM_highOf = true := by decide +kernel
set_option maxRecDepth 40000 in
theorem okM_church : dmOK mM_church = true := by decide +kernel
set_option maxRecDepth 40000 in
theorem okM_keep : dmOK mM_keep = true := by decide +kernel
set_option maxRecDepth 40000 in
theorem okM_item : dmOK mM_item = true := by decide +kernel
set_option maxRecDepth 40000 in
theorem okM_sign : dmOK mM_sign = true := by decide +kernel
set_option maxRecDepth 40000 in
theorem okM_word : dmOK mM_word = true := by decide +kernel
set_option maxRecDepth 40000 in
theorem okM_word2 : dmOK mM_word2 = true := by decide +kernel
set_option maxRecDepth 40000 in
theorem okM_is : dmOK mM_is = true := by decide +kernel
set_option maxRecDepth 40000 in
theorem okM_number : dmOK mM_number = true := by decide +kernel
set_option maxRecDepth 40000 in
theorem okM_stands : dmOK mM_stands = true := by decide +kernel
set_option maxRecDepth 40000 in
theorem okM_again : dmOK mM_again = true := by decide +kernel
set_option maxRecDepth 40000 in
theorem okM_fault : dmOK mM_fault = true := by decide +kernel
set_option maxRecDepth 40000 in
theorem okM_sung : dmOK mM_sung = true := by decide +kernel
set_option maxRecDepth 40000 in
theorem okM_isPitch : dmOK mM_isPitch = true := by decide +kernel
set_option maxRecDepth 40000 in
theorem okM_isVerse : dmOK mM_isVerse = true := by decide +kernel
set_option maxRecDepth 40000 in
theorem okM_hears : dmOK mM_hears = true := by decide +kernel
set_option maxRecDepth 40000 in
theorem okM_sings : dmOK mM_sings = true := by decide +kernel
set_option maxRecDepth 40000 in
theorem okM_isEnough : dmOK mM_isEnough = true := by decide +kernel
set_option maxRecDepth 40000 in
theorem okM_near : dmOK mM_near = true := by decide +kernel
set_option maxRecDepth 40000 in
theorem okM_has : dmOK mM_has = true := by decide +kernel
set_option maxRecDepth 40000 in
theorem okM_areNear : dmOK mM_areNear = true := by decide +kernel
set_option maxRecDepth 40000 in
theorem okM_need : dmOK mM_need = true := by decide +kernel
set_option maxRecDepth 40000 in
theorem okM_needs : dmOK mM_needs = true := by decide +kernel
set_option maxRecDepth 40000 in
theorem okM_verse : dmOK mM_verse = true := by decide +kernel
set_option maxRecDepth 40000 in
theorem okM_no10 : dmOK mM_no10 = true := by decide +kernel
set_option maxRecDepth 40000 in
theorem okM_catches : dmOK mM_catches = true := by decide +kernel
set_option maxRecDepth 40000 in
theorem okM_settles : dmOK mM_settles = true := by decide +kernel
set_option maxRecDepth 40000 in
theorem okM_isSame : dmOK mM_isSame = true := by decide +kernel
set_option maxRecDepth 40000 in
theorem okM_best : dmOK mM_best = true := by decide +kernel
set_option maxRecDepth 40000 in
theorem okM_manyAt : dmOK mM_manyAt = true := by decide +kernel
set_option maxRecDepth 40000 in
theorem okM_rightAt : dmOK mM_rightAt = true := by decide +kernel
set_option maxRecDepth 40000 in
theorem okM_pitch : dmOK mM_pitch = true := by decide +kernel
set_option maxRecDepth 40000 in
theorem okM_two : dmOK mM_two = true := by decide +kernel
set_option maxRecDepth 40000 in
theorem okM_leaders : dmOK mM_leaders = true := by decide +kernel
set_option maxRecDepth 40000 in
theorem okM_bestLeaders : dmOK mM_bestLeaders = true := by decide +kernel
set_option maxRecDepth 40000 in
theorem okM_leads : dmOK mM_leads = true := by decide +kernel
set_option maxRecDepth 40000 in
theorem okM_ledAt : dmOK mM_ledAt = true := by decide +kernel
set_option maxRecDepth 40000 in
theorem okM_taught : dmOK mM_taught = true := by decide +kernel
set_option maxRecDepth 40000 in
theorem okM_helps : dmOK mM_helps = true := by decide +kernel
set_option maxRecDepth 40000 in
theorem okM_late : dmOK mM_late = true := by decide +kernel
set_option maxRecDepth 40000 in
theorem okM_lateBy : dmOK mM_lateBy = true := by decide +kernel
set_option maxRecDepth 40000 in
theorem okM_ahead : dmOK mM_ahead = true := by decide +kernel
set_option maxRecDepth 40000 in
theorem okM_fits : dmOK mM_fits = true := by decide +kernel
set_option maxRecDepth 40000 in
theorem okM_noTold : dmOK mM_noTold = true := by decide +kernel
set_option maxRecDepth 40000 in
theorem okM_isFit : dmOK mM_isFit = true := by decide +kernel
set_option maxRecDepth 40000 in
theorem okM_toldAt : dmOK mM_toldAt = true := by decide +kernel
set_option maxRecDepth 40000 in
theorem okM_changed : dmOK mM_changed = true := by decide +kernel
set_option maxRecDepth 40000 in
theorem okM_change : dmOK mM_change = true := by decide +kernel
set_option maxRecDepth 40000 in
theorem okM_known : dmOK mM_known = true := by decide +kernel
set_option maxRecDepth 40000 in
theorem okM_knownAll : dmOK mM_knownAll = true := by decide +kernel
set_option maxRecDepth 40000 in
theorem okM_whomToAsk : dmOK mM_whomToAsk = true := by decide +kernel
set_option maxRecDepth 40000 in
theorem okM_judge : dmOK mM_judge = true := by decide +kernel
set_option maxRecDepth 40000 in
theorem okM_wrongAt : dmOK mM_wrongAt = true := by decide +kernel
set_option maxRecDepth 40000 in
theorem okM_behind : dmOK mM_behind = true := by decide +kernel
set_option maxRecDepth 40000 in
theorem okM_isSung : dmOK mM_isSung = true := by decide +kernel
set_option maxRecDepth 40000 in
theorem okM_done : dmOK mM_done = true := by decide +kernel
set_option maxRecDepth 40000 in
theorem okM_hymn : dmOK mM_hymn = true := by decide +kernel
set_option maxRecDepth 40000 in
theorem okM_years : dmOK mM_years = true := by decide +kernel
set_option maxRecDepth 40000 in
theorem okM_draw : dmOK mM_draw = true := by decide +kernel
set_option maxRecDepth 40000 in
theorem okM_seed : dmOK mM_seed = true := by decide +kernel
set_option maxRecDepth 40000 in
theorem okM_act : dmOK mM_act = true := by decide +kernel
set_option maxRecDepth 40000 in
theorem okM_breathesBy : dmOK mM_breathesBy = true := by decide +kernel
set_option maxRecDepth 40000 in
theorem okM_ran : dmOK mM_ran = true := by decide +kernel
set_option maxRecDepth 40000 in
theorem okM_singsBy : dmOK mM_singsBy = true := by decide +kernel
set_option maxRecDepth 40000 in
theorem okM_sitsBy : dmOK mM_sitsBy = true := by decide +kernel
set_option maxRecDepth 40000 in
theorem okM_trace : dmOK mM_trace = true := by decide +kernel
set_option maxRecDepth 40000 in
theorem okM_image : dmOK mM_image = true := by decide +kernel
set_option maxRecDepth 40000 in
theorem okM_restore : dmOK mM_restore = true := by decide +kernel
set_option maxRecDepth 40000 in
theorem okM_status : dmOK mM_status = true := by decide +kernel
