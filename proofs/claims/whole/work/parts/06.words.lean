set_option maxRecDepth 100000 in
theorem zcw0 : lw_tbl[zm0.2.2.2.2.2.2.1.1]? = some (.code zm0.1 zm0.2.1 zm0.2.2.1 zm0.2.2.2.1) := by rfl
set_option maxRecDepth 100000 in
theorem zcw1 : lw_tbl[zm1.2.2.2.2.2.2.1.1]? = some (.code zm1.1 zm1.2.1 zm1.2.2.1 zm1.2.2.2.1) := by rfl
set_option maxRecDepth 100000 in
theorem zcw2 : lw_tbl[zm2.2.2.2.2.2.2.1.1]? = some (.code zm2.1 zm2.2.1 zm2.2.2.1 zm2.2.2.2.1) := by rfl
set_option maxRecDepth 100000 in
theorem zcw3 : lw_tbl[zm3.2.2.2.2.2.2.1.1]? = some (.code zm3.1 zm3.2.1 zm3.2.2.1 zm3.2.2.2.1) := by rfl
set_option maxRecDepth 100000 in
theorem zcw4 : lw_tbl[zm4.2.2.2.2.2.2.1.1]? = some (.code zm4.1 zm4.2.1 zm4.2.2.1 zm4.2.2.2.1) := by rfl
set_option maxRecDepth 100000 in
theorem zcw5 : lw_tbl[zm5.2.2.2.2.2.2.1.1]? = some (.code zm5.1 zm5.2.1 zm5.2.2.1 zm5.2.2.2.1) := by rfl
set_option maxRecDepth 100000 in
theorem zcw6 : lw_tbl[zm6.2.2.2.2.2.2.1.1]? = some (.code zm6.1 zm6.2.1 zm6.2.2.1 zm6.2.2.2.1) := by rfl
set_option maxRecDepth 100000 in
theorem zcw7 : lw_tbl[zm7.2.2.2.2.2.2.1.1]? = some (.code zm7.1 zm7.2.1 zm7.2.2.1 zm7.2.2.2.1) := by rfl
set_option maxRecDepth 100000 in
theorem zcw8 : lw_tbl[zm8.2.2.2.2.2.2.1.1]? = some (.code zm8.1 zm8.2.1 zm8.2.2.1 zm8.2.2.2.1) := by rfl
set_option maxRecDepth 100000 in
theorem zcw9 : lw_tbl[zm9.2.2.2.2.2.2.1.1]? = some (.code zm9.1 zm9.2.1 zm9.2.2.1 zm9.2.2.2.1) := by rfl
set_option maxRecDepth 100000 in
theorem zcw10 : lw_tbl[zm10.2.2.2.2.2.2.1.1]? = some (.code zm10.1 zm10.2.1 zm10.2.2.1 zm10.2.2.2.1) := by rfl
set_option maxRecDepth 100000 in
theorem zcw11 : lw_tbl[zm11.2.2.2.2.2.2.1.1]? = some (.code zm11.1 zm11.2.1 zm11.2.2.1 zm11.2.2.2.1) := by rfl
set_option maxRecDepth 100000 in
theorem zcw12 : lw_tbl[zm12.2.2.2.2.2.2.1.1]? = some (.code zm12.1 zm12.2.1 zm12.2.2.1 zm12.2.2.2.1) := by rfl
set_option maxRecDepth 100000 in
theorem zcw13 : lw_tbl[zm13.2.2.2.2.2.2.1.1]? = some (.code zm13.1 zm13.2.1 zm13.2.2.1 zm13.2.2.2.1) := by rfl
set_option maxRecDepth 100000 in
theorem zcw14 : lw_tbl[zm14.2.2.2.2.2.2.1.1]? = some (.code zm14.1 zm14.2.1 zm14.2.2.1 zm14.2.2.2.1) := by rfl
set_option maxRecDepth 100000 in
theorem zcw15 : lw_tbl[zm15.2.2.2.2.2.2.1.1]? = some (.code zm15.1 zm15.2.1 zm15.2.2.1 zm15.2.2.2.1) := by rfl
set_option maxRecDepth 100000 in
theorem zcw16 : lw_tbl[zm16.2.2.2.2.2.2.1.1]? = some (.code zm16.1 zm16.2.1 zm16.2.2.1 zm16.2.2.2.1) := by rfl
set_option maxRecDepth 100000 in
theorem zcw17 : lw_tbl[zm17.2.2.2.2.2.2.1.1]? = some (.code zm17.1 zm17.2.1 zm17.2.2.1 zm17.2.2.2.1) := by rfl
set_option maxRecDepth 100000 in
theorem zcw18 : lw_tbl[zm18.2.2.2.2.2.2.1.1]? = some (.code zm18.1 zm18.2.1 zm18.2.2.1 zm18.2.2.2.1) := by rfl
set_option maxRecDepth 100000 in
theorem zcw19 : lw_tbl[zm19.2.2.2.2.2.2.1.1]? = some (.code zm19.1 zm19.2.1 zm19.2.2.1 zm19.2.2.2.1) := by rfl
set_option maxRecDepth 100000 in
theorem zcw20 : lw_tbl[zm20.2.2.2.2.2.2.1.1]? = some (.code zm20.1 zm20.2.1 zm20.2.2.1 zm20.2.2.2.1) := by rfl
set_option maxRecDepth 100000 in
theorem zcw21 : lw_tbl[zm21.2.2.2.2.2.2.1.1]? = some (.code zm21.1 zm21.2.1 zm21.2.2.1 zm21.2.2.2.1) := by rfl
set_option maxRecDepth 100000 in
theorem zcw22 : lw_tbl[zm22.2.2.2.2.2.2.1.1]? = some (.code zm22.1 zm22.2.1 zm22.2.2.1 zm22.2.2.2.1) := by rfl
set_option maxRecDepth 100000 in
theorem zcw23 : lw_tbl[zm23.2.2.2.2.2.2.1.1]? = some (.code zm23.1 zm23.2.1 zm23.2.2.1 zm23.2.2.2.1) := by rfl
set_option maxRecDepth 100000 in
theorem zcw24 : lw_tbl[zm24.2.2.2.2.2.2.1.1]? = some (.code zm24.1 zm24.2.1 zm24.2.2.1 zm24.2.2.2.1) := by rfl
set_option maxRecDepth 100000 in
theorem zcw25 : lw_tbl[zm25.2.2.2.2.2.2.1.1]? = some (.code zm25.1 zm25.2.1 zm25.2.2.1 zm25.2.2.2.1) := by rfl
set_option maxRecDepth 100000 in
theorem zcw26 : lw_tbl[zm26.2.2.2.2.2.2.1.1]? = some (.code zm26.1 zm26.2.1 zm26.2.2.1 zm26.2.2.2.1) := by rfl
set_option maxRecDepth 100000 in
theorem zcw27 : lw_tbl[zm27.2.2.2.2.2.2.1.1]? = some (.code zm27.1 zm27.2.1 zm27.2.2.1 zm27.2.2.2.1) := by rfl
set_option maxRecDepth 100000 in
theorem zcw28 : lw_tbl[zm28.2.2.2.2.2.2.1.1]? = some (.code zm28.1 zm28.2.1 zm28.2.2.1 zm28.2.2.2.1) := by rfl
set_option maxRecDepth 100000 in
theorem zcw29 : lw_tbl[zm29.2.2.2.2.2.2.1.1]? = some (.code zm29.1 zm29.2.1 zm29.2.2.1 zm29.2.2.2.1) := by rfl
set_option maxRecDepth 100000 in
theorem zcw30 : lw_tbl[zm30.2.2.2.2.2.2.1.1]? = some (.code zm30.1 zm30.2.1 zm30.2.2.1 zm30.2.2.2.1) := by rfl
set_option maxRecDepth 100000 in
theorem zcw31 : lw_tbl[zm31.2.2.2.2.2.2.1.1]? = some (.code zm31.1 zm31.2.1 zm31.2.2.1 zm31.2.2.2.1) := by rfl
set_option maxRecDepth 100000 in
theorem zcw32 : lw_tbl[zm32.2.2.2.2.2.2.1.1]? = some (.code zm32.1 zm32.2.1 zm32.2.2.1 zm32.2.2.2.1) := by rfl
set_option maxRecDepth 100000 in
theorem zcw33 : lw_tbl[zm33.2.2.2.2.2.2.1.1]? = some (.code zm33.1 zm33.2.1 zm33.2.2.1 zm33.2.2.2.1) := by rfl
set_option maxRecDepth 100000 in
theorem zcw34 : lw_tbl[zm34.2.2.2.2.2.2.1.1]? = some (.code zm34.1 zm34.2.1 zm34.2.2.1 zm34.2.2.2.1) := by rfl
set_option maxRecDepth 100000 in
theorem zcw35 : lw_tbl[zm35.2.2.2.2.2.2.1.1]? = some (.code zm35.1 zm35.2.1 zm35.2.2.1 zm35.2.2.2.1) := by rfl
set_option maxRecDepth 100000 in
theorem zcw36 : lw_tbl[zm36.2.2.2.2.2.2.1.1]? = some (.code zm36.1 zm36.2.1 zm36.2.2.1 zm36.2.2.2.1) := by rfl
set_option maxRecDepth 100000 in
theorem zcw37 : lw_tbl[zm37.2.2.2.2.2.2.1.1]? = some (.code zm37.1 zm37.2.1 zm37.2.2.1 zm37.2.2.2.1) := by rfl
set_option maxRecDepth 100000 in
theorem zcw38 : lw_tbl[zm38.2.2.2.2.2.2.1.1]? = some (.code zm38.1 zm38.2.1 zm38.2.2.1 zm38.2.2.2.1) := by rfl
set_option maxRecDepth 100000 in
theorem zcw39 : lw_tbl[zm39.2.2.2.2.2.2.1.1]? = some (.code zm39.1 zm39.2.1 zm39.2.2.1 zm39.2.2.2.1) := by rfl
set_option maxRecDepth 100000 in
theorem zcw40 : lw_tbl[zm40.2.2.2.2.2.2.1.1]? = some (.code zm40.1 zm40.2.1 zm40.2.2.1 zm40.2.2.2.1) := by rfl
set_option maxRecDepth 100000 in
theorem zcw41 : lw_tbl[zm41.2.2.2.2.2.2.1.1]? = some (.code zm41.1 zm41.2.1 zm41.2.2.1 zm41.2.2.2.1) := by rfl
set_option maxRecDepth 100000 in
theorem zcw42 : lw_tbl[zm42.2.2.2.2.2.2.1.1]? = some (.code zm42.1 zm42.2.1 zm42.2.2.1 zm42.2.2.2.1) := by rfl
set_option maxRecDepth 100000 in
theorem zcw43 : lw_tbl[zm43.2.2.2.2.2.2.1.1]? = some (.code zm43.1 zm43.2.1 zm43.2.2.1 zm43.2.2.2.1) := by rfl
set_option maxRecDepth 100000 in
theorem zcw44 : lw_tbl[zm44.2.2.2.2.2.2.1.1]? = some (.code zm44.1 zm44.2.1 zm44.2.2.1 zm44.2.2.2.1) := by rfl
set_option maxRecDepth 100000 in
theorem zcw45 : lw_tbl[zm45.2.2.2.2.2.2.1.1]? = some (.code zm45.1 zm45.2.1 zm45.2.2.1 zm45.2.2.2.1) := by rfl
set_option maxRecDepth 100000 in
theorem zcw46 : lw_tbl[zm46.2.2.2.2.2.2.1.1]? = some (.code zm46.1 zm46.2.1 zm46.2.2.1 zm46.2.2.2.1) := by rfl
set_option maxRecDepth 100000 in
theorem zcw47 : lw_tbl[zm47.2.2.2.2.2.2.1.1]? = some (.code zm47.1 zm47.2.1 zm47.2.2.1 zm47.2.2.2.1) := by rfl
set_option maxRecDepth 100000 in
theorem zcw48 : lw_tbl[zm48.2.2.2.2.2.2.1.1]? = some (.code zm48.1 zm48.2.1 zm48.2.2.1 zm48.2.2.2.1) := by rfl
set_option maxRecDepth 100000 in
theorem zcw49 : lw_tbl[zm49.2.2.2.2.2.2.1.1]? = some (.code zm49.1 zm49.2.1 zm49.2.2.1 zm49.2.2.2.1) := by rfl
set_option maxRecDepth 100000 in
theorem zcw50 : lw_tbl[zm50.2.2.2.2.2.2.1.1]? = some (.code zm50.1 zm50.2.1 zm50.2.2.1 zm50.2.2.2.1) := by rfl
set_option maxRecDepth 100000 in
theorem zcw51 : lw_tbl[zm51.2.2.2.2.2.2.1.1]? = some (.code zm51.1 zm51.2.1 zm51.2.2.1 zm51.2.2.2.1) := by rfl
set_option maxRecDepth 100000 in
theorem zcw52 : lw_tbl[zm52.2.2.2.2.2.2.1.1]? = some (.code zm52.1 zm52.2.1 zm52.2.2.1 zm52.2.2.2.1) := by rfl
set_option maxRecDepth 100000 in
theorem zcw53 : lw_tbl[zm53.2.2.2.2.2.2.1.1]? = some (.code zm53.1 zm53.2.1 zm53.2.2.1 zm53.2.2.2.1) := by rfl
set_option maxRecDepth 100000 in
theorem zcw54 : lw_tbl[zm54.2.2.2.2.2.2.1.1]? = some (.code zm54.1 zm54.2.1 zm54.2.2.1 zm54.2.2.2.1) := by rfl
set_option maxRecDepth 100000 in
theorem zcw55 : lw_tbl[zm55.2.2.2.2.2.2.1.1]? = some (.code zm55.1 zm55.2.1 zm55.2.2.1 zm55.2.2.2.1) := by rfl
set_option maxRecDepth 100000 in
theorem zcw56 : lw_tbl[zm56.2.2.2.2.2.2.1.1]? = some (.code zm56.1 zm56.2.1 zm56.2.2.1 zm56.2.2.2.1) := by rfl
set_option maxRecDepth 100000 in
theorem zcw57 : lw_tbl[zm57.2.2.2.2.2.2.1.1]? = some (.code zm57.1 zm57.2.1 zm57.2.2.1 zm57.2.2.2.1) := by rfl
set_option maxRecDepth 100000 in
theorem zcw58 : lw_tbl[zm58.2.2.2.2.2.2.1.1]? = some (.code zm58.1 zm58.2.1 zm58.2.2.1 zm58.2.2.2.1) := by rfl
set_option maxRecDepth 100000 in
theorem zcw59 : lw_tbl[zm59.2.2.2.2.2.2.1.1]? = some (.code zm59.1 zm59.2.1 zm59.2.2.1 zm59.2.2.2.1) := by rfl
set_option maxRecDepth 100000 in
theorem zcw60 : lw_tbl[zm60.2.2.2.2.2.2.1.1]? = some (.code zm60.1 zm60.2.1 zm60.2.2.1 zm60.2.2.2.1) := by rfl
set_option maxRecDepth 100000 in
theorem zcw61 : lw_tbl[zm61.2.2.2.2.2.2.1.1]? = some (.code zm61.1 zm61.2.1 zm61.2.2.1 zm61.2.2.2.1) := by rfl
set_option maxRecDepth 100000 in
theorem zcw62 : lw_tbl[zm62.2.2.2.2.2.2.1.1]? = some (.code zm62.1 zm62.2.1 zm62.2.2.1 zm62.2.2.2.1) := by rfl
set_option maxRecDepth 100000 in
theorem zcw63 : lw_tbl[zm63.2.2.2.2.2.2.1.1]? = some (.code zm63.1 zm63.2.1 zm63.2.2.1 zm63.2.2.2.1) := by rfl
set_option maxRecDepth 100000 in
theorem zcw64 : lw_tbl[zm64.2.2.2.2.2.2.1.1]? = some (.code zm64.1 zm64.2.1 zm64.2.2.1 zm64.2.2.2.1) := by rfl
set_option maxRecDepth 100000 in
theorem zcw65 : lw_tbl[zm65.2.2.2.2.2.2.1.1]? = some (.code zm65.1 zm65.2.1 zm65.2.2.1 zm65.2.2.2.1) := by rfl
set_option maxRecDepth 100000 in
theorem zcw66 : lw_tbl[zm66.2.2.2.2.2.2.1.1]? = some (.code zm66.1 zm66.2.1 zm66.2.2.1 zm66.2.2.2.1) := by rfl
set_option maxRecDepth 100000 in
theorem zcw67 : lw_tbl[zm67.2.2.2.2.2.2.1.1]? = some (.code zm67.1 zm67.2.1 zm67.2.2.1 zm67.2.2.2.1) := by rfl
set_option maxRecDepth 100000 in
theorem zcw68 : lw_tbl[zm68.2.2.2.2.2.2.1.1]? = some (.code zm68.1 zm68.2.1 zm68.2.2.1 zm68.2.2.2.1) := by rfl
set_option maxRecDepth 100000 in
theorem zcw69 : lw_tbl[zm69.2.2.2.2.2.2.1.1]? = some (.code zm69.1 zm69.2.1 zm69.2.2.1 zm69.2.2.2.1) := by rfl
set_option maxRecDepth 100000 in
theorem zcw70 : lw_tbl[zm70.2.2.2.2.2.2.1.1]? = some (.code zm70.1 zm70.2.1 zm70.2.2.1 zm70.2.2.2.1) := by rfl
set_option maxRecDepth 100000 in
theorem zcw71 : lw_tbl[zm71.2.2.2.2.2.2.1.1]? = some (.code zm71.1 zm71.2.1 zm71.2.2.1 zm71.2.2.2.1) := by rfl
set_option maxRecDepth 100000 in
theorem zcw72 : lw_tbl[zm72.2.2.2.2.2.2.1.1]? = some (.code zm72.1 zm72.2.1 zm72.2.2.1 zm72.2.2.2.1) := by rfl
set_option maxRecDepth 100000 in
theorem zcw73 : lw_tbl[zm73.2.2.2.2.2.2.1.1]? = some (.code zm73.1 zm73.2.1 zm73.2.2.1 zm73.2.2.2.1) := by rfl
set_option maxRecDepth 100000 in
theorem zcw74 : lw_tbl[zm74.2.2.2.2.2.2.1.1]? = some (.code zm74.1 zm74.2.1 zm74.2.2.1 zm74.2.2.2.1) := by rfl
set_option maxRecDepth 100000 in
theorem zcw75 : lw_tbl[zm75.2.2.2.2.2.2.1.1]? = some (.code zm75.1 zm75.2.1 zm75.2.2.1 zm75.2.2.2.1) := by rfl
set_option maxRecDepth 100000 in
theorem zcw76 : lw_tbl[zm76.2.2.2.2.2.2.1.1]? = some (.code zm76.1 zm76.2.1 zm76.2.2.1 zm76.2.2.2.1) := by rfl
set_option maxRecDepth 100000 in
theorem zcw77 : lw_tbl[zm77.2.2.2.2.2.2.1.1]? = some (.code zm77.1 zm77.2.1 zm77.2.2.1 zm77.2.2.2.1) := by rfl
set_option maxRecDepth 100000 in
theorem zcw78 : lw_tbl[zm78.2.2.2.2.2.2.1.1]? = some (.code zm78.1 zm78.2.1 zm78.2.2.1 zm78.2.2.2.1) := by rfl
set_option maxRecDepth 100000 in
theorem zcw79 : lw_tbl[zm79.2.2.2.2.2.2.1.1]? = some (.code zm79.1 zm79.2.1 zm79.2.2.1 zm79.2.2.2.1) := by rfl
set_option maxRecDepth 100000 in
theorem zcw80 : lw_tbl[zm80.2.2.2.2.2.2.1.1]? = some (.code zm80.1 zm80.2.1 zm80.2.2.1 zm80.2.2.2.1) := by rfl
set_option maxRecDepth 100000 in
theorem zcw81 : lw_tbl[zm81.2.2.2.2.2.2.1.1]? = some (.code zm81.1 zm81.2.1 zm81.2.2.1 zm81.2.2.2.1) := by rfl
set_option maxRecDepth 100000 in
theorem zcw82 : lw_tbl[zm82.2.2.2.2.2.2.1.1]? = some (.code zm82.1 zm82.2.1 zm82.2.2.1 zm82.2.2.2.1) := by rfl
set_option maxRecDepth 100000 in
theorem zcw83 : lw_tbl[zm83.2.2.2.2.2.2.1.1]? = some (.code zm83.1 zm83.2.1 zm83.2.2.1 zm83.2.2.2.1) := by rfl
set_option maxRecDepth 100000 in
theorem zcw84 : lw_tbl[zm84.2.2.2.2.2.2.1.1]? = some (.code zm84.1 zm84.2.1 zm84.2.2.1 zm84.2.2.2.1) := by rfl
set_option maxRecDepth 100000 in
theorem zcw85 : lw_tbl[zm85.2.2.2.2.2.2.1.1]? = some (.code zm85.1 zm85.2.1 zm85.2.2.1 zm85.2.2.2.1) := by rfl
set_option maxRecDepth 100000 in
theorem zcw86 : lw_tbl[zm86.2.2.2.2.2.2.1.1]? = some (.code zm86.1 zm86.2.1 zm86.2.2.1 zm86.2.2.2.1) := by rfl
set_option maxRecDepth 100000 in
theorem zcw87 : lw_tbl[zm87.2.2.2.2.2.2.1.1]? = some (.code zm87.1 zm87.2.1 zm87.2.2.1 zm87.2.2.2.1) := by rfl
set_option maxRecDepth 100000 in
theorem zcw88 : lw_tbl[zm88.2.2.2.2.2.2.1.1]? = some (.code zm88.1 zm88.2.1 zm88.2.2.1 zm88.2.2.2.1) := by rfl
set_option maxRecDepth 100000 in
theorem zcw89 : lw_tbl[zm89.2.2.2.2.2.2.1.1]? = some (.code zm89.1 zm89.2.1 zm89.2.2.1 zm89.2.2.2.1) := by rfl
set_option maxRecDepth 100000 in
theorem zcw90 : lw_tbl[zm90.2.2.2.2.2.2.1.1]? = some (.code zm90.1 zm90.2.1 zm90.2.2.1 zm90.2.2.2.1) := by rfl
set_option maxRecDepth 100000 in
theorem zcw91 : lw_tbl[zm91.2.2.2.2.2.2.1.1]? = some (.code zm91.1 zm91.2.1 zm91.2.2.1 zm91.2.2.2.1) := by rfl
set_option maxRecDepth 100000 in
theorem zcw92 : lw_tbl[zm92.2.2.2.2.2.2.1.1]? = some (.code zm92.1 zm92.2.1 zm92.2.2.1 zm92.2.2.2.1) := by rfl
set_option maxRecDepth 100000 in
theorem zcw93 : lw_tbl[zm93.2.2.2.2.2.2.1.1]? = some (.code zm93.1 zm93.2.1 zm93.2.2.1 zm93.2.2.2.1) := by rfl
set_option maxRecDepth 100000 in
theorem zcw94 : lw_tbl[zm94.2.2.2.2.2.2.1.1]? = some (.code zm94.1 zm94.2.1 zm94.2.2.1 zm94.2.2.2.1) := by rfl
set_option maxRecDepth 100000 in
theorem zcw95 : lw_tbl[zm95.2.2.2.2.2.2.1.1]? = some (.code zm95.1 zm95.2.1 zm95.2.2.1 zm95.2.2.2.1) := by rfl
set_option maxRecDepth 100000 in
theorem zcw96 : lw_tbl[zm96.2.2.2.2.2.2.1.1]? = some (.code zm96.1 zm96.2.1 zm96.2.2.1 zm96.2.2.2.1) := by rfl
set_option maxRecDepth 100000 in
theorem zcw97 : lw_tbl[zm97.2.2.2.2.2.2.1.1]? = some (.code zm97.1 zm97.2.1 zm97.2.2.1 zm97.2.2.2.1) := by rfl
set_option maxRecDepth 100000 in
theorem zcw98 : lw_tbl[zm98.2.2.2.2.2.2.1.1]? = some (.code zm98.1 zm98.2.1 zm98.2.2.1 zm98.2.2.2.1) := by rfl
set_option maxRecDepth 100000 in
theorem zcw99 : lw_tbl[zm99.2.2.2.2.2.2.1.1]? = some (.code zm99.1 zm99.2.1 zm99.2.2.1 zm99.2.2.2.1) := by rfl
set_option maxRecDepth 100000 in
theorem zcw100 : lw_tbl[zm100.2.2.2.2.2.2.1.1]? = some (.code zm100.1 zm100.2.1 zm100.2.2.1 zm100.2.2.2.1) := by rfl
set_option maxRecDepth 100000 in
theorem zcw101 : lw_tbl[zm101.2.2.2.2.2.2.1.1]? = some (.code zm101.1 zm101.2.1 zm101.2.2.1 zm101.2.2.2.1) := by rfl
set_option maxRecDepth 100000 in
theorem zcw102 : lw_tbl[zm102.2.2.2.2.2.2.1.1]? = some (.code zm102.1 zm102.2.1 zm102.2.2.1 zm102.2.2.2.1) := by rfl
set_option maxRecDepth 100000 in
theorem zcw103 : lw_tbl[zm103.2.2.2.2.2.2.1.1]? = some (.code zm103.1 zm103.2.1 zm103.2.2.1 zm103.2.2.2.1) := by rfl
set_option maxRecDepth 100000 in
theorem zcw104 : lw_tbl[zm104.2.2.2.2.2.2.1.1]? = some (.code zm104.1 zm104.2.1 zm104.2.2.1 zm104.2.2.2.1) := by rfl
set_option maxRecDepth 100000 in
theorem zcw105 : lw_tbl[zm105.2.2.2.2.2.2.1.1]? = some (.code zm105.1 zm105.2.1 zm105.2.2.1 zm105.2.2.2.1) := by rfl
set_option maxRecDepth 100000 in
theorem zcw106 : lw_tbl[zm106.2.2.2.2.2.2.1.1]? = some (.code zm106.1 zm106.2.1 zm106.2.2.1 zm106.2.2.2.1) := by rfl
set_option maxRecDepth 100000 in
theorem zcw107 : lw_tbl[zm107.2.2.2.2.2.2.1.1]? = some (.code zm107.1 zm107.2.1 zm107.2.2.1 zm107.2.2.2.1) := by rfl
set_option maxRecDepth 100000 in
theorem zcw108 : lw_tbl[zm108.2.2.2.2.2.2.1.1]? = some (.code zm108.1 zm108.2.1 zm108.2.2.1 zm108.2.2.2.1) := by rfl
set_option maxRecDepth 100000 in
theorem zcw109 : lw_tbl[zm109.2.2.2.2.2.2.1.1]? = some (.code zm109.1 zm109.2.1 zm109.2.2.1 zm109.2.2.2.1) := by rfl
set_option maxRecDepth 100000 in
theorem zcw110 : lw_tbl[zm110.2.2.2.2.2.2.1.1]? = some (.code zm110.1 zm110.2.1 zm110.2.2.1 zm110.2.2.2.1) := by rfl
set_option maxRecDepth 100000 in
theorem zcw111 : lw_tbl[zm111.2.2.2.2.2.2.1.1]? = some (.code zm111.1 zm111.2.1 zm111.2.2.1 zm111.2.2.2.1) := by rfl
set_option maxRecDepth 100000 in
theorem zcw112 : lw_tbl[zm112.2.2.2.2.2.2.1.1]? = some (.code zm112.1 zm112.2.1 zm112.2.2.1 zm112.2.2.2.1) := by rfl
set_option maxRecDepth 100000 in
theorem zcw113 : lw_tbl[zm113.2.2.2.2.2.2.1.1]? = some (.code zm113.1 zm113.2.1 zm113.2.2.1 zm113.2.2.2.1) := by rfl
set_option maxRecDepth 100000 in
theorem zcw114 : lw_tbl[zm114.2.2.2.2.2.2.1.1]? = some (.code zm114.1 zm114.2.1 zm114.2.2.1 zm114.2.2.2.1) := by rfl
set_option maxRecDepth 100000 in
theorem zcw115 : lw_tbl[zm115.2.2.2.2.2.2.1.1]? = some (.code zm115.1 zm115.2.1 zm115.2.2.1 zm115.2.2.2.1) := by rfl
set_option maxRecDepth 100000 in
theorem zcw116 : lw_tbl[zm116.2.2.2.2.2.2.1.1]? = some (.code zm116.1 zm116.2.1 zm116.2.2.1 zm116.2.2.2.1) := by rfl
set_option maxRecDepth 100000 in
theorem zcw117 : lw_tbl[zm117.2.2.2.2.2.2.1.1]? = some (.code zm117.1 zm117.2.1 zm117.2.2.1 zm117.2.2.2.1) := by rfl
set_option maxRecDepth 100000 in
theorem zcw118 : lw_tbl[zm118.2.2.2.2.2.2.1.1]? = some (.code zm118.1 zm118.2.1 zm118.2.2.1 zm118.2.2.2.1) := by rfl
set_option maxRecDepth 100000 in
theorem zcw119 : lw_tbl[zm119.2.2.2.2.2.2.1.1]? = some (.code zm119.1 zm119.2.1 zm119.2.2.1 zm119.2.2.2.1) := by rfl
set_option maxRecDepth 100000 in
theorem zcw120 : lw_tbl[zm120.2.2.2.2.2.2.1.1]? = some (.code zm120.1 zm120.2.1 zm120.2.2.1 zm120.2.2.2.1) := by rfl
set_option maxRecDepth 100000 in
theorem zcw121 : lw_tbl[zm121.2.2.2.2.2.2.1.1]? = some (.code zm121.1 zm121.2.1 zm121.2.2.1 zm121.2.2.2.1) := by rfl
set_option maxRecDepth 100000 in
theorem zcw122 : lw_tbl[zm122.2.2.2.2.2.2.1.1]? = some (.code zm122.1 zm122.2.1 zm122.2.2.1 zm122.2.2.2.1) := by rfl
set_option maxRecDepth 100000 in
theorem zcw123 : lw_tbl[zm123.2.2.2.2.2.2.1.1]? = some (.code zm123.1 zm123.2.1 zm123.2.2.1 zm123.2.2.2.1) := by rfl
set_option maxRecDepth 100000 in
theorem zcw124 : lw_tbl[zm124.2.2.2.2.2.2.1.1]? = some (.code zm124.1 zm124.2.1 zm124.2.2.1 zm124.2.2.2.1) := by rfl
set_option maxRecDepth 100000 in
theorem zcw125 : lw_tbl[zm125.2.2.2.2.2.2.1.1]? = some (.code zm125.1 zm125.2.1 zm125.2.2.1 zm125.2.2.2.1) := by rfl
set_option maxRecDepth 100000 in
theorem zcw126 : lw_tbl[zm126.2.2.2.2.2.2.1.1]? = some (.code zm126.1 zm126.2.1 zm126.2.2.1 zm126.2.2.2.1) := by rfl
set_option maxRecDepth 100000 in
theorem zcw127 : lw_tbl[zm127.2.2.2.2.2.2.1.1]? = some (.code zm127.1 zm127.2.1 zm127.2.2.1 zm127.2.2.2.1) := by rfl
set_option maxRecDepth 100000 in
theorem zcw128 : lw_tbl[zm128.2.2.2.2.2.2.1.1]? = some (.code zm128.1 zm128.2.1 zm128.2.2.1 zm128.2.2.2.1) := by rfl
set_option maxRecDepth 100000 in
theorem zcw129 : lw_tbl[zm129.2.2.2.2.2.2.1.1]? = some (.code zm129.1 zm129.2.1 zm129.2.2.1 zm129.2.2.2.1) := by rfl
set_option maxRecDepth 100000 in
theorem zcw130 : lw_tbl[zm130.2.2.2.2.2.2.1.1]? = some (.code zm130.1 zm130.2.1 zm130.2.2.1 zm130.2.2.2.1) := by rfl
set_option maxRecDepth 100000 in
theorem zcw131 : lw_tbl[zm131.2.2.2.2.2.2.1.1]? = some (.code zm131.1 zm131.2.1 zm131.2.2.1 zm131.2.2.2.1) := by rfl
set_option maxRecDepth 100000 in
theorem zcw132 : lw_tbl[zm132.2.2.2.2.2.2.1.1]? = some (.code zm132.1 zm132.2.1 zm132.2.2.1 zm132.2.2.2.1) := by rfl
set_option maxRecDepth 100000 in
theorem zcw133 : lw_tbl[zm133.2.2.2.2.2.2.1.1]? = some (.code zm133.1 zm133.2.1 zm133.2.2.1 zm133.2.2.2.1) := by rfl
set_option maxRecDepth 100000 in
theorem zcw134 : lw_tbl[zm134.2.2.2.2.2.2.1.1]? = some (.code zm134.1 zm134.2.1 zm134.2.2.1 zm134.2.2.2.1) := by rfl
set_option maxRecDepth 100000 in
theorem zcw135 : lw_tbl[zm135.2.2.2.2.2.2.1.1]? = some (.code zm135.1 zm135.2.1 zm135.2.2.1 zm135.2.2.2.1) := by rfl
set_option maxRecDepth 100000 in
theorem zcw136 : lw_tbl[zm136.2.2.2.2.2.2.1.1]? = some (.code zm136.1 zm136.2.1 zm136.2.2.1 zm136.2.2.2.1) := by rfl
set_option maxRecDepth 100000 in
theorem zcw137 : lw_tbl[zm137.2.2.2.2.2.2.1.1]? = some (.code zm137.1 zm137.2.1 zm137.2.2.1 zm137.2.2.2.1) := by rfl
set_option maxRecDepth 100000 in
theorem zcw138 : lw_tbl[zm138.2.2.2.2.2.2.1.1]? = some (.code zm138.1 zm138.2.1 zm138.2.2.1 zm138.2.2.2.1) := by rfl
set_option maxRecDepth 100000 in
theorem zcw139 : lw_tbl[zm139.2.2.2.2.2.2.1.1]? = some (.code zm139.1 zm139.2.1 zm139.2.2.1 zm139.2.2.2.1) := by rfl
set_option maxRecDepth 100000 in
theorem zcw140 : lw_tbl[zm140.2.2.2.2.2.2.1.1]? = some (.code zm140.1 zm140.2.1 zm140.2.2.1 zm140.2.2.2.1) := by rfl
set_option maxRecDepth 100000 in
theorem zcw141 : lw_tbl[zm141.2.2.2.2.2.2.1.1]? = some (.code zm141.1 zm141.2.1 zm141.2.2.1 zm141.2.2.2.1) := by rfl
set_option maxRecDepth 100000 in
theorem zcw142 : lw_tbl[zm142.2.2.2.2.2.2.1.1]? = some (.code zm142.1 zm142.2.1 zm142.2.2.1 zm142.2.2.2.1) := by rfl
set_option maxRecDepth 100000 in
theorem zcw143 : lw_tbl[zm143.2.2.2.2.2.2.1.1]? = some (.code zm143.1 zm143.2.1 zm143.2.2.1 zm143.2.2.2.1) := by rfl
set_option maxRecDepth 100000 in
theorem zcw144 : lw_tbl[zm144.2.2.2.2.2.2.1.1]? = some (.code zm144.1 zm144.2.1 zm144.2.2.1 zm144.2.2.2.1) := by rfl
set_option maxRecDepth 100000 in
theorem zcw145 : lw_tbl[zm145.2.2.2.2.2.2.1.1]? = some (.code zm145.1 zm145.2.1 zm145.2.2.1 zm145.2.2.2.1) := by rfl
set_option maxRecDepth 100000 in
theorem zcw146 : lw_tbl[zm146.2.2.2.2.2.2.1.1]? = some (.code zm146.1 zm146.2.1 zm146.2.2.1 zm146.2.2.2.1) := by rfl
set_option maxRecDepth 100000 in
theorem zcw147 : lw_tbl[zm147.2.2.2.2.2.2.1.1]? = some (.code zm147.1 zm147.2.1 zm147.2.2.1 zm147.2.2.2.1) := by rfl
set_option maxRecDepth 100000 in
theorem zcw148 : lw_tbl[zm148.2.2.2.2.2.2.1.1]? = some (.code zm148.1 zm148.2.1 zm148.2.2.1 zm148.2.2.2.1) := by rfl
set_option maxRecDepth 100000 in
theorem zcw149 : lw_tbl[zm149.2.2.2.2.2.2.1.1]? = some (.code zm149.1 zm149.2.1 zm149.2.2.1 zm149.2.2.2.1) := by rfl
set_option maxRecDepth 100000 in
theorem zcw150 : lw_tbl[zm150.2.2.2.2.2.2.1.1]? = some (.code zm150.1 zm150.2.1 zm150.2.2.1 zm150.2.2.2.1) := by rfl
set_option maxRecDepth 100000 in
theorem zcw151 : lw_tbl[zm151.2.2.2.2.2.2.1.1]? = some (.code zm151.1 zm151.2.1 zm151.2.2.1 zm151.2.2.2.1) := by rfl
set_option maxRecDepth 100000 in
theorem zcw152 : lw_tbl[zm152.2.2.2.2.2.2.1.1]? = some (.code zm152.1 zm152.2.1 zm152.2.2.1 zm152.2.2.2.1) := by rfl
set_option maxRecDepth 100000 in
theorem zcw153 : lw_tbl[zm153.2.2.2.2.2.2.1.1]? = some (.code zm153.1 zm153.2.1 zm153.2.2.1 zm153.2.2.2.1) := by rfl
set_option maxRecDepth 100000 in
theorem zcw154 : lw_tbl[zm154.2.2.2.2.2.2.1.1]? = some (.code zm154.1 zm154.2.1 zm154.2.2.1 zm154.2.2.2.1) := by rfl
set_option maxRecDepth 100000 in
theorem zcw155 : lw_tbl[zm155.2.2.2.2.2.2.1.1]? = some (.code zm155.1 zm155.2.1 zm155.2.2.1 zm155.2.2.2.1) := by rfl
set_option maxRecDepth 100000 in
theorem zcw156 : lw_tbl[zm156.2.2.2.2.2.2.1.1]? = some (.code zm156.1 zm156.2.1 zm156.2.2.1 zm156.2.2.2.1) := by rfl
set_option maxRecDepth 100000 in
theorem zcw157 : lw_tbl[zm157.2.2.2.2.2.2.1.1]? = some (.code zm157.1 zm157.2.1 zm157.2.2.1 zm157.2.2.2.1) := by rfl
set_option maxRecDepth 100000 in
theorem zcw158 : lw_tbl[zm158.2.2.2.2.2.2.1.1]? = some (.code zm158.1 zm158.2.1 zm158.2.2.1 zm158.2.2.2.1) := by rfl
set_option maxRecDepth 100000 in
theorem zcw159 : lw_tbl[zm159.2.2.2.2.2.2.1.1]? = some (.code zm159.1 zm159.2.1 zm159.2.2.1 zm159.2.2.2.1) := by rfl
set_option maxRecDepth 100000 in
theorem zcw160 : lw_tbl[zm160.2.2.2.2.2.2.1.1]? = some (.code zm160.1 zm160.2.1 zm160.2.2.1 zm160.2.2.2.1) := by rfl
set_option maxRecDepth 100000 in
theorem zcw161 : lw_tbl[zm161.2.2.2.2.2.2.1.1]? = some (.code zm161.1 zm161.2.1 zm161.2.2.1 zm161.2.2.2.1) := by rfl
set_option maxRecDepth 100000 in
theorem zcw162 : lw_tbl[zm162.2.2.2.2.2.2.1.1]? = some (.code zm162.1 zm162.2.1 zm162.2.2.1 zm162.2.2.2.1) := by rfl
set_option maxRecDepth 100000 in
theorem zcw163 : lw_tbl[zm163.2.2.2.2.2.2.1.1]? = some (.code zm163.1 zm163.2.1 zm163.2.2.1 zm163.2.2.2.1) := by rfl
set_option maxRecDepth 100000 in
theorem zcw164 : lw_tbl[zm164.2.2.2.2.2.2.1.1]? = some (.code zm164.1 zm164.2.1 zm164.2.2.1 zm164.2.2.2.1) := by rfl
set_option maxRecDepth 100000 in
theorem zcw165 : lw_tbl[zm165.2.2.2.2.2.2.1.1]? = some (.code zm165.1 zm165.2.1 zm165.2.2.1 zm165.2.2.2.1) := by rfl
set_option maxRecDepth 100000 in
theorem zcw166 : lw_tbl[zm166.2.2.2.2.2.2.1.1]? = some (.code zm166.1 zm166.2.1 zm166.2.2.1 zm166.2.2.2.1) := by rfl
set_option maxRecDepth 100000 in
theorem zcw167 : lw_tbl[zm167.2.2.2.2.2.2.1.1]? = some (.code zm167.1 zm167.2.1 zm167.2.2.1 zm167.2.2.2.1) := by rfl
set_option maxRecDepth 100000 in
theorem zcw168 : lw_tbl[zm168.2.2.2.2.2.2.1.1]? = some (.code zm168.1 zm168.2.1 zm168.2.2.1 zm168.2.2.2.1) := by rfl
set_option maxRecDepth 100000 in
theorem zcw169 : lw_tbl[zm169.2.2.2.2.2.2.1.1]? = some (.code zm169.1 zm169.2.1 zm169.2.2.1 zm169.2.2.2.1) := by rfl
set_option maxRecDepth 100000 in
theorem zcw170 : lw_tbl[zm170.2.2.2.2.2.2.1.1]? = some (.code zm170.1 zm170.2.1 zm170.2.2.1 zm170.2.2.2.1) := by rfl
set_option maxRecDepth 100000 in
theorem zcw171 : lw_tbl[zm171.2.2.2.2.2.2.1.1]? = some (.code zm171.1 zm171.2.1 zm171.2.2.1 zm171.2.2.2.1) := by rfl
set_option maxRecDepth 100000 in
theorem zcw172 : lw_tbl[zm172.2.2.2.2.2.2.1.1]? = some (.code zm172.1 zm172.2.1 zm172.2.2.1 zm172.2.2.2.1) := by rfl
set_option maxRecDepth 100000 in
theorem zcw173 : lw_tbl[zm173.2.2.2.2.2.2.1.1]? = some (.code zm173.1 zm173.2.1 zm173.2.2.1 zm173.2.2.2.1) := by rfl
set_option maxRecDepth 100000 in
theorem zcw174 : lw_tbl[zm174.2.2.2.2.2.2.1.1]? = some (.code zm174.1 zm174.2.1 zm174.2.2.1 zm174.2.2.2.1) := by rfl
set_option maxRecDepth 100000 in
theorem zcw175 : lw_tbl[zm175.2.2.2.2.2.2.1.1]? = some (.code zm175.1 zm175.2.1 zm175.2.2.1 zm175.2.2.2.1) := by rfl
set_option maxRecDepth 100000 in
theorem zcw176 : lw_tbl[zm176.2.2.2.2.2.2.1.1]? = some (.code zm176.1 zm176.2.1 zm176.2.2.1 zm176.2.2.2.1) := by rfl
set_option maxRecDepth 100000 in
theorem zcw177 : lw_tbl[zm177.2.2.2.2.2.2.1.1]? = some (.code zm177.1 zm177.2.1 zm177.2.2.1 zm177.2.2.2.1) := by rfl
set_option maxRecDepth 100000 in
theorem zcw178 : lw_tbl[zm178.2.2.2.2.2.2.1.1]? = some (.code zm178.1 zm178.2.1 zm178.2.2.1 zm178.2.2.2.1) := by rfl
set_option maxRecDepth 100000 in
theorem zcw179 : lw_tbl[zm179.2.2.2.2.2.2.1.1]? = some (.code zm179.1 zm179.2.1 zm179.2.2.1 zm179.2.2.2.1) := by rfl
set_option maxRecDepth 100000 in
theorem zcw180 : lw_tbl[zm180.2.2.2.2.2.2.1.1]? = some (.code zm180.1 zm180.2.1 zm180.2.2.1 zm180.2.2.2.1) := by rfl
set_option maxRecDepth 100000 in
theorem zcw181 : lw_tbl[zm181.2.2.2.2.2.2.1.1]? = some (.code zm181.1 zm181.2.1 zm181.2.2.1 zm181.2.2.2.1) := by rfl
set_option maxRecDepth 100000 in
theorem zcw182 : lw_tbl[zm182.2.2.2.2.2.2.1.1]? = some (.code zm182.1 zm182.2.1 zm182.2.2.1 zm182.2.2.2.1) := by rfl
set_option maxRecDepth 100000 in
theorem zCw : ∀ I ∈ zMT, lw_tbl[I.2.2.2.2.2.2.1.1]? = some (.code I.1 I.2.1 I.2.2.1 I.2.2.2.1) := by
  show ∀ I ∈ [zm0, zm1, zm2, zm3, zm4, zm5, zm6, zm7, zm8, zm9, zm10, zm11, zm12, zm13, zm14, zm15, zm16, zm17, zm18, zm19, zm20, zm21, zm22, zm23, zm24, zm25, zm26, zm27, zm28, zm29, zm30, zm31, zm32, zm33, zm34, zm35, zm36, zm37, zm38, zm39, zm40, zm41, zm42, zm43, zm44, zm45, zm46, zm47, zm48, zm49, zm50, zm51, zm52, zm53, zm54, zm55, zm56, zm57, zm58, zm59, zm60, zm61, zm62, zm63, zm64, zm65, zm66, zm67, zm68, zm69, zm70, zm71, zm72, zm73, zm74, zm75, zm76, zm77, zm78, zm79, zm80, zm81, zm82, zm83, zm84, zm85, zm86, zm87, zm88, zm89, zm90, zm91, zm92, zm93, zm94, zm95, zm96, zm97, zm98, zm99, zm100, zm101, zm102, zm103, zm104, zm105, zm106, zm107, zm108, zm109, zm110, zm111, zm112, zm113, zm114, zm115, zm116, zm117, zm118, zm119, zm120, zm121, zm122, zm123, zm124, zm125, zm126, zm127, zm128, zm129, zm130, zm131, zm132, zm133, zm134, zm135, zm136, zm137, zm138, zm139, zm140, zm141, zm142, zm143, zm144, zm145, zm146, zm147, zm148, zm149, zm150, zm151, zm152, zm153, zm154, zm155, zm156, zm157, zm158, zm159, zm160, zm161, zm162, zm163, zm164, zm165, zm166, zm167, zm168, zm169, zm170, zm171, zm172, zm173, zm174, zm175, zm176, zm177, zm178, zm179, zm180, zm181, zm182], lw_tbl[I.2.2.2.2.2.2.1.1]? = some (.code I.1 I.2.1 I.2.2.1 I.2.2.2.1)
  exact List.forall_mem_cons.mpr ⟨zcw0, List.forall_mem_cons.mpr ⟨zcw1, List.forall_mem_cons.mpr ⟨zcw2, List.forall_mem_cons.mpr ⟨zcw3, List.forall_mem_cons.mpr ⟨zcw4, List.forall_mem_cons.mpr ⟨zcw5, List.forall_mem_cons.mpr ⟨zcw6, List.forall_mem_cons.mpr ⟨zcw7, List.forall_mem_cons.mpr ⟨zcw8, List.forall_mem_cons.mpr ⟨zcw9, List.forall_mem_cons.mpr ⟨zcw10, List.forall_mem_cons.mpr ⟨zcw11, List.forall_mem_cons.mpr ⟨zcw12, List.forall_mem_cons.mpr ⟨zcw13, List.forall_mem_cons.mpr ⟨zcw14, List.forall_mem_cons.mpr ⟨zcw15, List.forall_mem_cons.mpr ⟨zcw16, List.forall_mem_cons.mpr ⟨zcw17, List.forall_mem_cons.mpr ⟨zcw18, List.forall_mem_cons.mpr ⟨zcw19, List.forall_mem_cons.mpr ⟨zcw20, List.forall_mem_cons.mpr ⟨zcw21, List.forall_mem_cons.mpr ⟨zcw22, List.forall_mem_cons.mpr ⟨zcw23, List.forall_mem_cons.mpr ⟨zcw24, List.forall_mem_cons.mpr ⟨zcw25, List.forall_mem_cons.mpr ⟨zcw26, List.forall_mem_cons.mpr ⟨zcw27, List.forall_mem_cons.mpr ⟨zcw28, List.forall_mem_cons.mpr ⟨zcw29, List.forall_mem_cons.mpr ⟨zcw30, List.forall_mem_cons.mpr ⟨zcw31, List.forall_mem_cons.mpr ⟨zcw32, List.forall_mem_cons.mpr ⟨zcw33, List.forall_mem_cons.mpr ⟨zcw34, List.forall_mem_cons.mpr ⟨zcw35, List.forall_mem_cons.mpr ⟨zcw36, List.forall_mem_cons.mpr ⟨zcw37, List.forall_mem_cons.mpr ⟨zcw38, List.forall_mem_cons.mpr ⟨zcw39, List.forall_mem_cons.mpr ⟨zcw40, List.forall_mem_cons.mpr ⟨zcw41, List.forall_mem_cons.mpr ⟨zcw42, List.forall_mem_cons.mpr ⟨zcw43, List.forall_mem_cons.mpr ⟨zcw44, List.forall_mem_cons.mpr ⟨zcw45, List.forall_mem_cons.mpr ⟨zcw46, List.forall_mem_cons.mpr ⟨zcw47, List.forall_mem_cons.mpr ⟨zcw48, List.forall_mem_cons.mpr ⟨zcw49, List.forall_mem_cons.mpr ⟨zcw50, List.forall_mem_cons.mpr ⟨zcw51, List.forall_mem_cons.mpr ⟨zcw52, List.forall_mem_cons.mpr ⟨zcw53, List.forall_mem_cons.mpr ⟨zcw54, List.forall_mem_cons.mpr ⟨zcw55, List.forall_mem_cons.mpr ⟨zcw56, List.forall_mem_cons.mpr ⟨zcw57, List.forall_mem_cons.mpr ⟨zcw58, List.forall_mem_cons.mpr ⟨zcw59, List.forall_mem_cons.mpr ⟨zcw60, List.forall_mem_cons.mpr ⟨zcw61, List.forall_mem_cons.mpr ⟨zcw62, List.forall_mem_cons.mpr ⟨zcw63, List.forall_mem_cons.mpr ⟨zcw64, List.forall_mem_cons.mpr ⟨zcw65, List.forall_mem_cons.mpr ⟨zcw66, List.forall_mem_cons.mpr ⟨zcw67, List.forall_mem_cons.mpr ⟨zcw68, List.forall_mem_cons.mpr ⟨zcw69, List.forall_mem_cons.mpr ⟨zcw70, List.forall_mem_cons.mpr ⟨zcw71, List.forall_mem_cons.mpr ⟨zcw72, List.forall_mem_cons.mpr ⟨zcw73, List.forall_mem_cons.mpr ⟨zcw74, List.forall_mem_cons.mpr ⟨zcw75, List.forall_mem_cons.mpr ⟨zcw76, List.forall_mem_cons.mpr ⟨zcw77, List.forall_mem_cons.mpr ⟨zcw78, List.forall_mem_cons.mpr ⟨zcw79, List.forall_mem_cons.mpr ⟨zcw80, List.forall_mem_cons.mpr ⟨zcw81, List.forall_mem_cons.mpr ⟨zcw82, List.forall_mem_cons.mpr ⟨zcw83, List.forall_mem_cons.mpr ⟨zcw84, List.forall_mem_cons.mpr ⟨zcw85, List.forall_mem_cons.mpr ⟨zcw86, List.forall_mem_cons.mpr ⟨zcw87, List.forall_mem_cons.mpr ⟨zcw88, List.forall_mem_cons.mpr ⟨zcw89, List.forall_mem_cons.mpr ⟨zcw90, List.forall_mem_cons.mpr ⟨zcw91, List.forall_mem_cons.mpr ⟨zcw92, List.forall_mem_cons.mpr ⟨zcw93, List.forall_mem_cons.mpr ⟨zcw94, List.forall_mem_cons.mpr ⟨zcw95, List.forall_mem_cons.mpr ⟨zcw96, List.forall_mem_cons.mpr ⟨zcw97, List.forall_mem_cons.mpr ⟨zcw98, List.forall_mem_cons.mpr ⟨zcw99, List.forall_mem_cons.mpr ⟨zcw100, List.forall_mem_cons.mpr ⟨zcw101, List.forall_mem_cons.mpr ⟨zcw102, List.forall_mem_cons.mpr ⟨zcw103, List.forall_mem_cons.mpr ⟨zcw104, List.forall_mem_cons.mpr ⟨zcw105, List.forall_mem_cons.mpr ⟨zcw106, List.forall_mem_cons.mpr ⟨zcw107, List.forall_mem_cons.mpr ⟨zcw108, List.forall_mem_cons.mpr ⟨zcw109, List.forall_mem_cons.mpr ⟨zcw110, List.forall_mem_cons.mpr ⟨zcw111, List.forall_mem_cons.mpr ⟨zcw112, List.forall_mem_cons.mpr ⟨zcw113, List.forall_mem_cons.mpr ⟨zcw114, List.forall_mem_cons.mpr ⟨zcw115, List.forall_mem_cons.mpr ⟨zcw116, List.forall_mem_cons.mpr ⟨zcw117, List.forall_mem_cons.mpr ⟨zcw118, List.forall_mem_cons.mpr ⟨zcw119, List.forall_mem_cons.mpr ⟨zcw120, List.forall_mem_cons.mpr ⟨zcw121, List.forall_mem_cons.mpr ⟨zcw122, List.forall_mem_cons.mpr ⟨zcw123, List.forall_mem_cons.mpr ⟨zcw124, List.forall_mem_cons.mpr ⟨zcw125, List.forall_mem_cons.mpr ⟨zcw126, List.forall_mem_cons.mpr ⟨zcw127, List.forall_mem_cons.mpr ⟨zcw128, List.forall_mem_cons.mpr ⟨zcw129, List.forall_mem_cons.mpr ⟨zcw130, List.forall_mem_cons.mpr ⟨zcw131, List.forall_mem_cons.mpr ⟨zcw132, List.forall_mem_cons.mpr ⟨zcw133, List.forall_mem_cons.mpr ⟨zcw134, List.forall_mem_cons.mpr ⟨zcw135, List.forall_mem_cons.mpr ⟨zcw136, List.forall_mem_cons.mpr ⟨zcw137, List.forall_mem_cons.mpr ⟨zcw138, List.forall_mem_cons.mpr ⟨zcw139, List.forall_mem_cons.mpr ⟨zcw140, List.forall_mem_cons.mpr ⟨zcw141, List.forall_mem_cons.mpr ⟨zcw142, List.forall_mem_cons.mpr ⟨zcw143, List.forall_mem_cons.mpr ⟨zcw144, List.forall_mem_cons.mpr ⟨zcw145, List.forall_mem_cons.mpr ⟨zcw146, List.forall_mem_cons.mpr ⟨zcw147, List.forall_mem_cons.mpr ⟨zcw148, List.forall_mem_cons.mpr ⟨zcw149, List.forall_mem_cons.mpr ⟨zcw150, List.forall_mem_cons.mpr ⟨zcw151, List.forall_mem_cons.mpr ⟨zcw152, List.forall_mem_cons.mpr ⟨zcw153, List.forall_mem_cons.mpr ⟨zcw154, List.forall_mem_cons.mpr ⟨zcw155, List.forall_mem_cons.mpr ⟨zcw156, List.forall_mem_cons.mpr ⟨zcw157, List.forall_mem_cons.mpr ⟨zcw158, List.forall_mem_cons.mpr ⟨zcw159, List.forall_mem_cons.mpr ⟨zcw160, List.forall_mem_cons.mpr ⟨zcw161, List.forall_mem_cons.mpr ⟨zcw162, List.forall_mem_cons.mpr ⟨zcw163, List.forall_mem_cons.mpr ⟨zcw164, List.forall_mem_cons.mpr ⟨zcw165, List.forall_mem_cons.mpr ⟨zcw166, List.forall_mem_cons.mpr ⟨zcw167, List.forall_mem_cons.mpr ⟨zcw168, List.forall_mem_cons.mpr ⟨zcw169, List.forall_mem_cons.mpr ⟨zcw170, List.forall_mem_cons.mpr ⟨zcw171, List.forall_mem_cons.mpr ⟨zcw172, List.forall_mem_cons.mpr ⟨zcw173, List.forall_mem_cons.mpr ⟨zcw174, List.forall_mem_cons.mpr ⟨zcw175, List.forall_mem_cons.mpr ⟨zcw176, List.forall_mem_cons.mpr ⟨zcw177, List.forall_mem_cons.mpr ⟨zcw178, List.forall_mem_cons.mpr ⟨zcw179, List.forall_mem_cons.mpr ⟨zcw180, List.forall_mem_cons.mpr ⟨zcw181, List.forall_mem_cons.mpr ⟨zcw182, fun _ h => absurd h List.not_mem_nil⟩⟩⟩⟩⟩⟩⟩⟩⟩⟩⟩⟩⟩⟩⟩⟩⟩⟩⟩⟩⟩⟩⟩⟩⟩⟩⟩⟩⟩⟩⟩⟩⟩⟩⟩⟩⟩⟩⟩⟩⟩⟩⟩⟩⟩⟩⟩⟩⟩⟩⟩⟩⟩⟩⟩⟩⟩⟩⟩⟩⟩⟩⟩⟩⟩⟩⟩⟩⟩⟩⟩⟩⟩⟩⟩⟩⟩⟩⟩⟩⟩⟩⟩⟩⟩⟩⟩⟩⟩⟩⟩⟩⟩⟩⟩⟩⟩⟩⟩⟩⟩⟩⟩⟩⟩⟩⟩⟩⟩⟩⟩⟩⟩⟩⟩⟩⟩⟩⟩⟩⟩⟩⟩⟩⟩⟩⟩⟩⟩⟩⟩⟩⟩⟩⟩⟩⟩⟩⟩⟩⟩⟩⟩⟩⟩⟩⟩⟩⟩⟩⟩⟩⟩⟩⟩⟩⟩⟩⟩⟩⟩⟩⟩⟩⟩⟩⟩⟩⟩⟩⟩⟩⟩⟩⟩⟩⟩⟩⟩⟩⟩⟩⟩
