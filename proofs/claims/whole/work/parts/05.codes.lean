set_option maxRecDepth 100000 in
theorem zok0 : zokC zm0 = true := by decide +kernel
set_option maxRecDepth 100000 in
theorem zok1 : zokC zm1 = true := by decide +kernel
set_option maxRecDepth 100000 in
theorem zok2 : zokC zm2 = true := by decide +kernel
set_option maxRecDepth 100000 in
theorem zok3 : zokC zm3 = true := by decide +kernel
set_option maxRecDepth 100000 in
theorem zok4 : zokC zm4 = true := by decide +kernel
set_option maxRecDepth 100000 in
theorem zok5 : zokC zm5 = true := by decide +kernel
set_option maxRecDepth 100000 in
theorem zok6 : zokC zm6 = true := by decide +kernel
set_option maxRecDepth 100000 in
theorem zok7 : zokC zm7 = true := by decide +kernel
set_option maxRecDepth 100000 in
theorem zok8 : zokC zm8 = true := by decide +kernel
set_option maxRecDepth 100000 in
theorem zok9 : zokC zm9 = true := by decide +kernel
set_option maxRecDepth 100000 in
theorem zok10 : zokC zm10 = true := by decide +kernel
set_option maxRecDepth 100000 in
theorem zok11 : zokC zm11 = true := by decide +kernel
set_option maxRecDepth 100000 in
theorem zok12 : zokC zm12 = true := by decide +kernel
set_option maxRecDepth 100000 in
theorem zok13 : zokC zm13 = true := by decide +kernel
set_option maxRecDepth 100000 in
theorem zok14 : zokC zm14 = true := by decide +kernel
set_option maxRecDepth 100000 in
theorem zok15 : zokC zm15 = true := by decide +kernel
set_option maxRecDepth 100000 in
theorem zok16 : zokC zm16 = true := by decide +kernel
set_option maxRecDepth 100000 in
theorem zok17 : zokC zm17 = true := by decide +kernel
set_option maxRecDepth 100000 in
theorem zok18 : zokC zm18 = true := by decide +kernel
set_option maxRecDepth 100000 in
theorem zok19 : zokC zm19 = true := by decide +kernel
set_option maxRecDepth 100000 in
theorem zok20 : zokC zm20 = true := by decide +kernel
set_option maxRecDepth 100000 in
theorem zok21 : zokC zm21 = true := by decide +kernel
set_option maxRecDepth 100000 in
theorem zok22 : zokC zm22 = true := by decide +kernel
set_option maxRecDepth 100000 in
theorem zok23 : zokC zm23 = true := by decide +kernel
set_option maxRecDepth 100000 in
theorem zok24 : zokC zm24 = true := by decide +kernel
set_option maxRecDepth 100000 in
theorem zok25 : zokC zm25 = true := by decide +kernel
set_option maxRecDepth 100000 in
theorem zok26 : zokC zm26 = true := by decide +kernel
set_option maxRecDepth 100000 in
theorem zok27 : zokC zm27 = true := by decide +kernel
set_option maxRecDepth 100000 in
theorem zok28 : zokC zm28 = true := by decide +kernel
set_option maxRecDepth 100000 in
theorem zok29 : zokC zm29 = true := by decide +kernel
set_option maxRecDepth 100000 in
theorem zok30 : zokC zm30 = true := by decide +kernel
set_option maxRecDepth 100000 in
theorem zok31 : zokC zm31 = true := by decide +kernel
set_option maxRecDepth 100000 in
theorem zok32 : zokC zm32 = true := by decide +kernel
set_option maxRecDepth 100000 in
theorem zok33 : zokC zm33 = true := by decide +kernel
set_option maxRecDepth 100000 in
theorem zok34 : zokC zm34 = true := by decide +kernel
set_option maxRecDepth 100000 in
theorem zok35 : zokC zm35 = true := by decide +kernel
set_option maxRecDepth 100000 in
theorem zok36 : zokC zm36 = true := by decide +kernel
set_option maxRecDepth 100000 in
theorem zok37 : zokC zm37 = true := by decide +kernel
set_option maxRecDepth 100000 in
theorem zok38 : zokC zm38 = true := by decide +kernel
set_option maxRecDepth 100000 in
theorem zok39 : zokC zm39 = true := by decide +kernel
set_option maxRecDepth 100000 in
theorem zok40 : zokC zm40 = true := by decide +kernel
set_option maxRecDepth 100000 in
theorem zok41 : zokC zm41 = true := by decide +kernel
set_option maxRecDepth 100000 in
theorem zok42 : zokC zm42 = true := by decide +kernel
set_option maxRecDepth 100000 in
theorem zok43 : zokC zm43 = true := by decide +kernel
set_option maxRecDepth 100000 in
theorem zok44 : zokC zm44 = true := by decide +kernel
set_option maxRecDepth 100000 in
theorem zok45 : zokC zm45 = true := by decide +kernel
set_option maxRecDepth 100000 in
theorem zok46 : zokC zm46 = true := by decide +kernel
set_option maxRecDepth 100000 in
theorem zok47 : zokC zm47 = true := by decide +kernel
set_option maxRecDepth 100000 in
theorem zok48 : zokC zm48 = true := by decide +kernel
set_option maxRecDepth 100000 in
theorem zok49 : zokC zm49 = true := by decide +kernel
set_option maxRecDepth 100000 in
theorem zok50 : zokC zm50 = true := by decide +kernel
set_option maxRecDepth 100000 in
theorem zok51 : zokC zm51 = true := by decide +kernel
set_option maxRecDepth 100000 in
theorem zok52 : zokC zm52 = true := by decide +kernel
set_option maxRecDepth 100000 in
theorem zok53 : zokC zm53 = true := by decide +kernel
set_option maxRecDepth 100000 in
theorem zok54 : zokC zm54 = true := by decide +kernel
set_option maxRecDepth 100000 in
theorem zok55 : zokC zm55 = true := by decide +kernel
set_option maxRecDepth 100000 in
theorem zok56 : zokC zm56 = true := by decide +kernel
set_option maxRecDepth 100000 in
theorem zok57 : zokC zm57 = true := by decide +kernel
set_option maxRecDepth 100000 in
theorem zok58 : zokC zm58 = true := by decide +kernel
set_option maxRecDepth 100000 in
theorem zok59 : zokC zm59 = true := by decide +kernel
set_option maxRecDepth 100000 in
theorem zok60 : zokC zm60 = true := by decide +kernel
set_option maxRecDepth 100000 in
theorem zok61 : zokC zm61 = true := by decide +kernel
set_option maxRecDepth 100000 in
theorem zok62 : zokC zm62 = true := by decide +kernel
set_option maxRecDepth 100000 in
theorem zok63 : zokC zm63 = true := by decide +kernel
set_option maxRecDepth 100000 in
theorem zok64 : zokC zm64 = true := by decide +kernel
set_option maxRecDepth 100000 in
theorem zok65 : zokC zm65 = true := by decide +kernel
set_option maxRecDepth 100000 in
theorem zok66 : zokC zm66 = true := by decide +kernel
set_option maxRecDepth 100000 in
theorem zok67 : zokC zm67 = true := by decide +kernel
set_option maxRecDepth 100000 in
theorem zok68 : zokC zm68 = true := by decide +kernel
set_option maxRecDepth 100000 in
theorem zok69 : zokC zm69 = true := by decide +kernel
set_option maxRecDepth 100000 in
theorem zok70 : zokC zm70 = true := by decide +kernel
set_option maxRecDepth 100000 in
theorem zok71 : zokC zm71 = true := by decide +kernel
set_option maxRecDepth 100000 in
theorem zok72 : zokC zm72 = true := by decide +kernel
set_option maxRecDepth 100000 in
theorem zok73 : zokC zm73 = true := by decide +kernel
set_option maxRecDepth 100000 in
theorem zok74 : zokC zm74 = true := by decide +kernel
set_option maxRecDepth 100000 in
theorem zok75 : zokC zm75 = true := by decide +kernel
set_option maxRecDepth 100000 in
theorem zok76 : zokC zm76 = true := by decide +kernel
set_option maxRecDepth 100000 in
theorem zok77 : zokC zm77 = true := by decide +kernel
set_option maxRecDepth 100000 in
theorem zok78 : zokC zm78 = true := by decide +kernel
set_option maxRecDepth 100000 in
theorem zok79 : zokC zm79 = true := by decide +kernel
set_option maxRecDepth 100000 in
theorem zok80 : zokC zm80 = true := by decide +kernel
set_option maxRecDepth 100000 in
theorem zok81 : zokC zm81 = true := by decide +kernel
set_option maxRecDepth 100000 in
theorem zok82 : zokC zm82 = true := by decide +kernel
set_option maxRecDepth 100000 in
theorem zok83 : zokC zm83 = true := by decide +kernel
set_option maxRecDepth 100000 in
theorem zok84 : zokC zm84 = true := by decide +kernel
set_option maxRecDepth 100000 in
theorem zok85 : zokC zm85 = true := by decide +kernel
set_option maxRecDepth 100000 in
theorem zok86 : zokC zm86 = true := by decide +kernel
set_option maxRecDepth 100000 in
theorem zok87 : zokC zm87 = true := by decide +kernel
set_option maxRecDepth 100000 in
theorem zok88 : zokC zm88 = true := by decide +kernel
set_option maxRecDepth 100000 in
theorem zok89 : zokC zm89 = true := by decide +kernel
set_option maxRecDepth 100000 in
theorem zok90 : zokC zm90 = true := by decide +kernel
set_option maxRecDepth 100000 in
theorem zok91 : zokC zm91 = true := by decide +kernel
set_option maxRecDepth 100000 in
theorem zok92 : zokC zm92 = true := by decide +kernel
set_option maxRecDepth 100000 in
theorem zok93 : zokC zm93 = true := by decide +kernel
set_option maxRecDepth 100000 in
theorem zok94 : zokC zm94 = true := by decide +kernel
set_option maxRecDepth 100000 in
theorem zok95 : zokC zm95 = true := by decide +kernel
set_option maxRecDepth 100000 in
theorem zok96 : zokC zm96 = true := by decide +kernel
set_option maxRecDepth 100000 in
theorem zok97 : zokC zm97 = true := by decide +kernel
set_option maxRecDepth 100000 in
theorem zok98 : zokC zm98 = true := by decide +kernel
set_option maxRecDepth 100000 in
theorem zok99 : zokC zm99 = true := by decide +kernel
set_option maxRecDepth 100000 in
theorem zok100 : zokC zm100 = true := by decide +kernel
set_option maxRecDepth 100000 in
theorem zok101 : zokC zm101 = true := by decide +kernel
set_option maxRecDepth 100000 in
theorem zok102 : zokC zm102 = true := by decide +kernel
set_option maxRecDepth 100000 in
theorem zok103 : zokC zm103 = true := by decide +kernel
set_option maxRecDepth 100000 in
theorem zok104 : zokC zm104 = true := by decide +kernel
set_option maxRecDepth 100000 in
theorem zok105 : zokC zm105 = true := by decide +kernel
set_option maxRecDepth 100000 in
theorem zok106 : zokC zm106 = true := by decide +kernel
set_option maxRecDepth 100000 in
theorem zok107 : zokC zm107 = true := by decide +kernel
set_option maxRecDepth 100000 in
theorem zok108 : zokC zm108 = true := by decide +kernel
set_option maxRecDepth 100000 in
theorem zok109 : zokC zm109 = true := by decide +kernel
set_option maxRecDepth 100000 in
theorem zok110 : zokC zm110 = true := by decide +kernel
set_option maxRecDepth 100000 in
theorem zok111 : zokC zm111 = true := by decide +kernel
set_option maxRecDepth 100000 in
theorem zok112 : zokC zm112 = true := by decide +kernel
set_option maxRecDepth 100000 in
theorem zok113 : zokC zm113 = true := by decide +kernel
set_option maxRecDepth 100000 in
theorem zok114 : zokC zm114 = true := by decide +kernel
set_option maxRecDepth 100000 in
theorem zok115 : zokC zm115 = true := by decide +kernel
set_option maxRecDepth 100000 in
theorem zok116 : zokC zm116 = true := by decide +kernel
set_option maxRecDepth 100000 in
theorem zok117 : zokC zm117 = true := by decide +kernel
set_option maxRecDepth 100000 in
theorem zok118 : zokC zm118 = true := by decide +kernel
set_option maxRecDepth 100000 in
theorem zok119 : zokC zm119 = true := by decide +kernel
set_option maxRecDepth 100000 in
theorem zok120 : zokC zm120 = true := by decide +kernel
set_option maxRecDepth 100000 in
theorem zok121 : zokC zm121 = true := by decide +kernel
set_option maxRecDepth 100000 in
theorem zok122 : zokC zm122 = true := by decide +kernel
set_option maxRecDepth 100000 in
theorem zok123 : zokC zm123 = true := by decide +kernel
set_option maxRecDepth 100000 in
theorem zok124 : zokC zm124 = true := by decide +kernel
set_option maxRecDepth 100000 in
theorem zok125 : zokC zm125 = true := by decide +kernel
set_option maxRecDepth 100000 in
theorem zok126 : zokC zm126 = true := by decide +kernel
set_option maxRecDepth 100000 in
theorem zok127 : zokC zm127 = true := by decide +kernel
set_option maxRecDepth 100000 in
theorem zok128 : zokC zm128 = true := by decide +kernel
set_option maxRecDepth 100000 in
theorem zok129 : zokC zm129 = true := by decide +kernel
set_option maxRecDepth 100000 in
theorem zok130 : zokC zm130 = true := by decide +kernel
set_option maxRecDepth 100000 in
theorem zok131 : zokC zm131 = true := by decide +kernel
set_option maxRecDepth 100000 in
theorem zok132 : zokC zm132 = true := by decide +kernel
set_option maxRecDepth 100000 in
theorem zok133 : zokC zm133 = true := by decide +kernel
set_option maxRecDepth 100000 in
theorem zok134 : zokC zm134 = true := by decide +kernel
set_option maxRecDepth 100000 in
theorem zok135 : zokC zm135 = true := by decide +kernel
set_option maxRecDepth 100000 in
theorem zok136 : zokC zm136 = true := by decide +kernel
set_option maxRecDepth 100000 in
theorem zok137 : zokC zm137 = true := by decide +kernel
set_option maxRecDepth 100000 in
theorem zok138 : zokC zm138 = true := by decide +kernel
set_option maxRecDepth 100000 in
theorem zok139 : zokC zm139 = true := by decide +kernel
set_option maxRecDepth 100000 in
theorem zok140 : zokC zm140 = true := by decide +kernel
set_option maxRecDepth 100000 in
theorem zok141 : zokC zm141 = true := by decide +kernel
set_option maxRecDepth 100000 in
theorem zok142 : zokC zm142 = true := by decide +kernel
set_option maxRecDepth 100000 in
theorem zok143 : zokC zm143 = true := by decide +kernel
set_option maxRecDepth 100000 in
theorem zok144 : zokC zm144 = true := by decide +kernel
set_option maxRecDepth 100000 in
theorem zok145 : zokC zm145 = true := by decide +kernel
set_option maxRecDepth 100000 in
theorem zok146 : zokC zm146 = true := by decide +kernel
set_option maxRecDepth 100000 in
theorem zok147 : zokC zm147 = true := by decide +kernel
set_option maxRecDepth 100000 in
theorem zok148 : zokC zm148 = true := by decide +kernel
set_option maxRecDepth 100000 in
theorem zok149 : zokC zm149 = true := by decide +kernel
set_option maxRecDepth 100000 in
theorem zok150 : zokC zm150 = true := by decide +kernel
set_option maxRecDepth 100000 in
theorem zok151 : zokC zm151 = true := by decide +kernel
set_option maxRecDepth 100000 in
theorem zok152 : zokC zm152 = true := by decide +kernel
set_option maxRecDepth 100000 in
theorem zok153 : zokC zm153 = true := by decide +kernel
set_option maxRecDepth 100000 in
theorem zok154 : zokC zm154 = true := by decide +kernel
set_option maxRecDepth 100000 in
theorem zok155 : zokC zm155 = true := by decide +kernel
set_option maxRecDepth 100000 in
theorem zok156 : zokC zm156 = true := by decide +kernel
set_option maxRecDepth 100000 in
theorem zok157 : zokC zm157 = true := by decide +kernel
set_option maxRecDepth 100000 in
theorem zok158 : zokC zm158 = true := by decide +kernel
set_option maxRecDepth 100000 in
theorem zok159 : zokC zm159 = true := by decide +kernel
set_option maxRecDepth 100000 in
theorem zok160 : zokC zm160 = true := by decide +kernel
set_option maxRecDepth 100000 in
theorem zok161 : zokC zm161 = true := by decide +kernel
set_option maxRecDepth 100000 in
theorem zok162 : zokC zm162 = true := by decide +kernel
set_option maxRecDepth 100000 in
theorem zok163 : zokC zm163 = true := by decide +kernel
set_option maxRecDepth 100000 in
theorem zok164 : zokC zm164 = true := by decide +kernel
set_option maxRecDepth 100000 in
theorem zok165 : zokC zm165 = true := by decide +kernel
set_option maxRecDepth 100000 in
theorem zok166 : zokC zm166 = true := by decide +kernel
set_option maxRecDepth 100000 in
theorem zok167 : zokC zm167 = true := by decide +kernel
set_option maxRecDepth 100000 in
theorem zok168 : zokC zm168 = true := by decide +kernel
set_option maxRecDepth 100000 in
theorem zok169 : zokC zm169 = true := by decide +kernel
set_option maxRecDepth 100000 in
theorem zok170 : zokC zm170 = true := by decide +kernel
set_option maxRecDepth 100000 in
theorem zok171 : zokC zm171 = true := by decide +kernel
set_option maxRecDepth 100000 in
theorem zok172 : zokC zm172 = true := by decide +kernel
set_option maxRecDepth 100000 in
theorem zok173 : zokC zm173 = true := by decide +kernel
set_option maxRecDepth 100000 in
theorem zok174 : zokC zm174 = true := by decide +kernel
set_option maxRecDepth 100000 in
theorem zok175 : zokC zm175 = true := by decide +kernel
set_option maxRecDepth 100000 in
theorem zok176 : zokC zm176 = true := by decide +kernel
set_option maxRecDepth 100000 in
theorem zok177 : zokC zm177 = true := by decide +kernel
set_option maxRecDepth 100000 in
theorem zok178 : zokC zm178 = true := by decide +kernel
set_option maxRecDepth 100000 in
theorem zok179 : zokC zm179 = true := by decide +kernel
set_option maxRecDepth 100000 in
theorem zok180 : zokC zm180 = true := by decide +kernel
set_option maxRecDepth 100000 in
theorem zok181 : zokC zm181 = true := by decide +kernel
set_option maxRecDepth 100000 in
theorem zok182 : zokC zm182 = true := by decide +kernel
set_option maxRecDepth 100000 in
theorem zCode_ok : ∀ I ∈ zMT, zokC I = true := by
  show ∀ I ∈ [zm0, zm1, zm2, zm3, zm4, zm5, zm6, zm7, zm8, zm9, zm10, zm11, zm12, zm13, zm14, zm15, zm16, zm17, zm18, zm19, zm20, zm21, zm22, zm23, zm24, zm25, zm26, zm27, zm28, zm29, zm30, zm31, zm32, zm33, zm34, zm35, zm36, zm37, zm38, zm39, zm40, zm41, zm42, zm43, zm44, zm45, zm46, zm47, zm48, zm49, zm50, zm51, zm52, zm53, zm54, zm55, zm56, zm57, zm58, zm59, zm60, zm61, zm62, zm63, zm64, zm65, zm66, zm67, zm68, zm69, zm70, zm71, zm72, zm73, zm74, zm75, zm76, zm77, zm78, zm79, zm80, zm81, zm82, zm83, zm84, zm85, zm86, zm87, zm88, zm89, zm90, zm91, zm92, zm93, zm94, zm95, zm96, zm97, zm98, zm99, zm100, zm101, zm102, zm103, zm104, zm105, zm106, zm107, zm108, zm109, zm110, zm111, zm112, zm113, zm114, zm115, zm116, zm117, zm118, zm119, zm120, zm121, zm122, zm123, zm124, zm125, zm126, zm127, zm128, zm129, zm130, zm131, zm132, zm133, zm134, zm135, zm136, zm137, zm138, zm139, zm140, zm141, zm142, zm143, zm144, zm145, zm146, zm147, zm148, zm149, zm150, zm151, zm152, zm153, zm154, zm155, zm156, zm157, zm158, zm159, zm160, zm161, zm162, zm163, zm164, zm165, zm166, zm167, zm168, zm169, zm170, zm171, zm172, zm173, zm174, zm175, zm176, zm177, zm178, zm179, zm180, zm181, zm182], zokC I = true
  exact List.forall_mem_cons.mpr ⟨zok0, List.forall_mem_cons.mpr ⟨zok1, List.forall_mem_cons.mpr ⟨zok2, List.forall_mem_cons.mpr ⟨zok3, List.forall_mem_cons.mpr ⟨zok4, List.forall_mem_cons.mpr ⟨zok5, List.forall_mem_cons.mpr ⟨zok6, List.forall_mem_cons.mpr ⟨zok7, List.forall_mem_cons.mpr ⟨zok8, List.forall_mem_cons.mpr ⟨zok9, List.forall_mem_cons.mpr ⟨zok10, List.forall_mem_cons.mpr ⟨zok11, List.forall_mem_cons.mpr ⟨zok12, List.forall_mem_cons.mpr ⟨zok13, List.forall_mem_cons.mpr ⟨zok14, List.forall_mem_cons.mpr ⟨zok15, List.forall_mem_cons.mpr ⟨zok16, List.forall_mem_cons.mpr ⟨zok17, List.forall_mem_cons.mpr ⟨zok18, List.forall_mem_cons.mpr ⟨zok19, List.forall_mem_cons.mpr ⟨zok20, List.forall_mem_cons.mpr ⟨zok21, List.forall_mem_cons.mpr ⟨zok22, List.forall_mem_cons.mpr ⟨zok23, List.forall_mem_cons.mpr ⟨zok24, List.forall_mem_cons.mpr ⟨zok25, List.forall_mem_cons.mpr ⟨zok26, List.forall_mem_cons.mpr ⟨zok27, List.forall_mem_cons.mpr ⟨zok28, List.forall_mem_cons.mpr ⟨zok29, List.forall_mem_cons.mpr ⟨zok30, List.forall_mem_cons.mpr ⟨zok31, List.forall_mem_cons.mpr ⟨zok32, List.forall_mem_cons.mpr ⟨zok33, List.forall_mem_cons.mpr ⟨zok34, List.forall_mem_cons.mpr ⟨zok35, List.forall_mem_cons.mpr ⟨zok36, List.forall_mem_cons.mpr ⟨zok37, List.forall_mem_cons.mpr ⟨zok38, List.forall_mem_cons.mpr ⟨zok39, List.forall_mem_cons.mpr ⟨zok40, List.forall_mem_cons.mpr ⟨zok41, List.forall_mem_cons.mpr ⟨zok42, List.forall_mem_cons.mpr ⟨zok43, List.forall_mem_cons.mpr ⟨zok44, List.forall_mem_cons.mpr ⟨zok45, List.forall_mem_cons.mpr ⟨zok46, List.forall_mem_cons.mpr ⟨zok47, List.forall_mem_cons.mpr ⟨zok48, List.forall_mem_cons.mpr ⟨zok49, List.forall_mem_cons.mpr ⟨zok50, List.forall_mem_cons.mpr ⟨zok51, List.forall_mem_cons.mpr ⟨zok52, List.forall_mem_cons.mpr ⟨zok53, List.forall_mem_cons.mpr ⟨zok54, List.forall_mem_cons.mpr ⟨zok55, List.forall_mem_cons.mpr ⟨zok56, List.forall_mem_cons.mpr ⟨zok57, List.forall_mem_cons.mpr ⟨zok58, List.forall_mem_cons.mpr ⟨zok59, List.forall_mem_cons.mpr ⟨zok60, List.forall_mem_cons.mpr ⟨zok61, List.forall_mem_cons.mpr ⟨zok62, List.forall_mem_cons.mpr ⟨zok63, List.forall_mem_cons.mpr ⟨zok64, List.forall_mem_cons.mpr ⟨zok65, List.forall_mem_cons.mpr ⟨zok66, List.forall_mem_cons.mpr ⟨zok67, List.forall_mem_cons.mpr ⟨zok68, List.forall_mem_cons.mpr ⟨zok69, List.forall_mem_cons.mpr ⟨zok70, List.forall_mem_cons.mpr ⟨zok71, List.forall_mem_cons.mpr ⟨zok72, List.forall_mem_cons.mpr ⟨zok73, List.forall_mem_cons.mpr ⟨zok74, List.forall_mem_cons.mpr ⟨zok75, List.forall_mem_cons.mpr ⟨zok76, List.forall_mem_cons.mpr ⟨zok77, List.forall_mem_cons.mpr ⟨zok78, List.forall_mem_cons.mpr ⟨zok79, List.forall_mem_cons.mpr ⟨zok80, List.forall_mem_cons.mpr ⟨zok81, List.forall_mem_cons.mpr ⟨zok82, List.forall_mem_cons.mpr ⟨zok83, List.forall_mem_cons.mpr ⟨zok84, List.forall_mem_cons.mpr ⟨zok85, List.forall_mem_cons.mpr ⟨zok86, List.forall_mem_cons.mpr ⟨zok87, List.forall_mem_cons.mpr ⟨zok88, List.forall_mem_cons.mpr ⟨zok89, List.forall_mem_cons.mpr ⟨zok90, List.forall_mem_cons.mpr ⟨zok91, List.forall_mem_cons.mpr ⟨zok92, List.forall_mem_cons.mpr ⟨zok93, List.forall_mem_cons.mpr ⟨zok94, List.forall_mem_cons.mpr ⟨zok95, List.forall_mem_cons.mpr ⟨zok96, List.forall_mem_cons.mpr ⟨zok97, List.forall_mem_cons.mpr ⟨zok98, List.forall_mem_cons.mpr ⟨zok99, List.forall_mem_cons.mpr ⟨zok100, List.forall_mem_cons.mpr ⟨zok101, List.forall_mem_cons.mpr ⟨zok102, List.forall_mem_cons.mpr ⟨zok103, List.forall_mem_cons.mpr ⟨zok104, List.forall_mem_cons.mpr ⟨zok105, List.forall_mem_cons.mpr ⟨zok106, List.forall_mem_cons.mpr ⟨zok107, List.forall_mem_cons.mpr ⟨zok108, List.forall_mem_cons.mpr ⟨zok109, List.forall_mem_cons.mpr ⟨zok110, List.forall_mem_cons.mpr ⟨zok111, List.forall_mem_cons.mpr ⟨zok112, List.forall_mem_cons.mpr ⟨zok113, List.forall_mem_cons.mpr ⟨zok114, List.forall_mem_cons.mpr ⟨zok115, List.forall_mem_cons.mpr ⟨zok116, List.forall_mem_cons.mpr ⟨zok117, List.forall_mem_cons.mpr ⟨zok118, List.forall_mem_cons.mpr ⟨zok119, List.forall_mem_cons.mpr ⟨zok120, List.forall_mem_cons.mpr ⟨zok121, List.forall_mem_cons.mpr ⟨zok122, List.forall_mem_cons.mpr ⟨zok123, List.forall_mem_cons.mpr ⟨zok124, List.forall_mem_cons.mpr ⟨zok125, List.forall_mem_cons.mpr ⟨zok126, List.forall_mem_cons.mpr ⟨zok127, List.forall_mem_cons.mpr ⟨zok128, List.forall_mem_cons.mpr ⟨zok129, List.forall_mem_cons.mpr ⟨zok130, List.forall_mem_cons.mpr ⟨zok131, List.forall_mem_cons.mpr ⟨zok132, List.forall_mem_cons.mpr ⟨zok133, List.forall_mem_cons.mpr ⟨zok134, List.forall_mem_cons.mpr ⟨zok135, List.forall_mem_cons.mpr ⟨zok136, List.forall_mem_cons.mpr ⟨zok137, List.forall_mem_cons.mpr ⟨zok138, List.forall_mem_cons.mpr ⟨zok139, List.forall_mem_cons.mpr ⟨zok140, List.forall_mem_cons.mpr ⟨zok141, List.forall_mem_cons.mpr ⟨zok142, List.forall_mem_cons.mpr ⟨zok143, List.forall_mem_cons.mpr ⟨zok144, List.forall_mem_cons.mpr ⟨zok145, List.forall_mem_cons.mpr ⟨zok146, List.forall_mem_cons.mpr ⟨zok147, List.forall_mem_cons.mpr ⟨zok148, List.forall_mem_cons.mpr ⟨zok149, List.forall_mem_cons.mpr ⟨zok150, List.forall_mem_cons.mpr ⟨zok151, List.forall_mem_cons.mpr ⟨zok152, List.forall_mem_cons.mpr ⟨zok153, List.forall_mem_cons.mpr ⟨zok154, List.forall_mem_cons.mpr ⟨zok155, List.forall_mem_cons.mpr ⟨zok156, List.forall_mem_cons.mpr ⟨zok157, List.forall_mem_cons.mpr ⟨zok158, List.forall_mem_cons.mpr ⟨zok159, List.forall_mem_cons.mpr ⟨zok160, List.forall_mem_cons.mpr ⟨zok161, List.forall_mem_cons.mpr ⟨zok162, List.forall_mem_cons.mpr ⟨zok163, List.forall_mem_cons.mpr ⟨zok164, List.forall_mem_cons.mpr ⟨zok165, List.forall_mem_cons.mpr ⟨zok166, List.forall_mem_cons.mpr ⟨zok167, List.forall_mem_cons.mpr ⟨zok168, List.forall_mem_cons.mpr ⟨zok169, List.forall_mem_cons.mpr ⟨zok170, List.forall_mem_cons.mpr ⟨zok171, List.forall_mem_cons.mpr ⟨zok172, List.forall_mem_cons.mpr ⟨zok173, List.forall_mem_cons.mpr ⟨zok174, List.forall_mem_cons.mpr ⟨zok175, List.forall_mem_cons.mpr ⟨zok176, List.forall_mem_cons.mpr ⟨zok177, List.forall_mem_cons.mpr ⟨zok178, List.forall_mem_cons.mpr ⟨zok179, List.forall_mem_cons.mpr ⟨zok180, List.forall_mem_cons.mpr ⟨zok181, List.forall_mem_cons.mpr ⟨zok182, fun _ h => absurd h List.not_mem_nil⟩⟩⟩⟩⟩⟩⟩⟩⟩⟩⟩⟩⟩⟩⟩⟩⟩⟩⟩⟩⟩⟩⟩⟩⟩⟩⟩⟩⟩⟩⟩⟩⟩⟩⟩⟩⟩⟩⟩⟩⟩⟩⟩⟩⟩⟩⟩⟩⟩⟩⟩⟩⟩⟩⟩⟩⟩⟩⟩⟩⟩⟩⟩⟩⟩⟩⟩⟩⟩⟩⟩⟩⟩⟩⟩⟩⟩⟩⟩⟩⟩⟩⟩⟩⟩⟩⟩⟩⟩⟩⟩⟩⟩⟩⟩⟩⟩⟩⟩⟩⟩⟩⟩⟩⟩⟩⟩⟩⟩⟩⟩⟩⟩⟩⟩⟩⟩⟩⟩⟩⟩⟩⟩⟩⟩⟩⟩⟩⟩⟩⟩⟩⟩⟩⟩⟩⟩⟩⟩⟩⟩⟩⟩⟩⟩⟩⟩⟩⟩⟩⟩⟩⟩⟩⟩⟩⟩⟩⟩⟩⟩⟩⟩⟩⟩⟩⟩⟩⟩⟩⟩⟩⟩⟩⟩⟩⟩⟩⟩⟩⟩⟩⟩
