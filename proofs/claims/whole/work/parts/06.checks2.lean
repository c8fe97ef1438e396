set_option maxRecDepth 100000 in
theorem pk_95 : lw_tbl[(pt_hw 95).getD 0 0]? = some (.code (pt_y 95) (pt_bytes 95) (pt_maxL 95) (pt_retT 95)) := rfl
set_option maxRecDepth 100000 in
theorem pk_96 : lw_tbl[(pt_hw 96).getD 0 0]? = some (.code (pt_y 96) (pt_bytes 96) (pt_maxL 96) (pt_retT 96)) := rfl
set_option maxRecDepth 100000 in
theorem pk_97 : lw_tbl[(pt_hw 97).getD 0 0]? = some (.code (pt_y 97) (pt_bytes 97) (pt_maxL 97) (pt_retT 97)) := rfl
set_option maxRecDepth 100000 in
theorem pk_98 : lw_tbl[(pt_hw 98).getD 0 0]? = some (.code (pt_y 98) (pt_bytes 98) (pt_maxL 98) (pt_retT 98)) := rfl
set_option maxRecDepth 100000 in
theorem pk_99 : lw_tbl[(pt_hw 99).getD 0 0]? = some (.code (pt_y 99) (pt_bytes 99) (pt_maxL 99) (pt_retT 99)) := rfl
set_option maxRecDepth 100000 in
theorem pk_100 : lw_tbl[(pt_hw 100).getD 0 0]? = some (.code (pt_y 100) (pt_bytes 100) (pt_maxL 100) (pt_retT 100)) := rfl
set_option maxRecDepth 100000 in
theorem pk_101 : lw_tbl[(pt_hw 101).getD 0 0]? = some (.code (pt_y 101) (pt_bytes 101) (pt_maxL 101) (pt_retT 101)) := rfl
set_option maxRecDepth 100000 in
theorem pk_102 : lw_tbl[(pt_hw 102).getD 0 0]? = some (.code (pt_y 102) (pt_bytes 102) (pt_maxL 102) (pt_retT 102)) := rfl
set_option maxRecDepth 100000 in
theorem pk_103 : lw_tbl[(pt_hw 103).getD 0 0]? = some (.code (pt_y 103) (pt_bytes 103) (pt_maxL 103) (pt_retT 103)) := rfl
set_option maxRecDepth 100000 in
theorem pk_104 : lw_tbl[(pt_hw 104).getD 0 0]? = some (.code (pt_y 104) (pt_bytes 104) (pt_maxL 104) (pt_retT 104)) := rfl
set_option maxRecDepth 100000 in
theorem pk_105 : lw_tbl[(pt_hw 105).getD 0 0]? = some (.code (pt_y 105) (pt_bytes 105) (pt_maxL 105) (pt_retT 105)) := rfl
set_option maxRecDepth 100000 in
theorem pk_106 : lw_tbl[(pt_hw 106).getD 0 0]? = some (.code (pt_y 106) (pt_bytes 106) (pt_maxL 106) (pt_retT 106)) := rfl
set_option maxRecDepth 100000 in
theorem pk_107 : lw_tbl[(pt_hw 107).getD 0 0]? = some (.code (pt_y 107) (pt_bytes 107) (pt_maxL 107) (pt_retT 107)) := rfl
set_option maxRecDepth 100000 in
theorem pk_108 : lw_tbl[(pt_hw 108).getD 0 0]? = some (.code (pt_y 108) (pt_bytes 108) (pt_maxL 108) (pt_retT 108)) := rfl
set_option maxRecDepth 100000 in
theorem pk_109 : lw_tbl[(pt_hw 109).getD 0 0]? = some (.code (pt_y 109) (pt_bytes 109) (pt_maxL 109) (pt_retT 109)) := rfl
set_option maxRecDepth 100000 in
theorem pk_110 : lw_tbl[(pt_hw 110).getD 0 0]? = some (.code (pt_y 110) (pt_bytes 110) (pt_maxL 110) (pt_retT 110)) := rfl
set_option maxRecDepth 100000 in
theorem pk_111 : lw_tbl[(pt_hw 111).getD 0 0]? = some (.code (pt_y 111) (pt_bytes 111) (pt_maxL 111) (pt_retT 111)) := rfl
set_option maxRecDepth 100000 in
theorem pk_112 : lw_tbl[(pt_hw 112).getD 0 0]? = some (.code (pt_y 112) (pt_bytes 112) (pt_maxL 112) (pt_retT 112)) := rfl
set_option maxRecDepth 100000 in
theorem pk_113 : lw_tbl[(pt_hw 113).getD 0 0]? = some (.code (pt_y 113) (pt_bytes 113) (pt_maxL 113) (pt_retT 113)) := rfl
set_option maxRecDepth 100000 in
theorem pk_114 : lw_tbl[(pt_hw 114).getD 0 0]? = some (.code (pt_y 114) (pt_bytes 114) (pt_maxL 114) (pt_retT 114)) := rfl
set_option maxRecDepth 100000 in
theorem pk_115 : lw_tbl[(pt_hw 115).getD 0 0]? = some (.code (pt_y 115) (pt_bytes 115) (pt_maxL 115) (pt_retT 115)) := rfl
set_option maxRecDepth 100000 in
theorem pk_116 : lw_tbl[(pt_hw 116).getD 0 0]? = some (.code (pt_y 116) (pt_bytes 116) (pt_maxL 116) (pt_retT 116)) := rfl
set_option maxRecDepth 100000 in
theorem pk_117 : lw_tbl[(pt_hw 117).getD 0 0]? = some (.code (pt_y 117) (pt_bytes 117) (pt_maxL 117) (pt_retT 117)) := rfl
set_option maxRecDepth 100000 in
theorem pk_118 : lw_tbl[(pt_hw 118).getD 0 0]? = some (.code (pt_y 118) (pt_bytes 118) (pt_maxL 118) (pt_retT 118)) := rfl
set_option maxRecDepth 100000 in
theorem pk_119 : lw_tbl[(pt_hw 119).getD 0 0]? = some (.code (pt_y 119) (pt_bytes 119) (pt_maxL 119) (pt_retT 119)) := rfl
set_option maxRecDepth 100000 in
theorem pk_120 : lw_tbl[(pt_hw 120).getD 0 0]? = some (.code (pt_y 120) (pt_bytes 120) (pt_maxL 120) (pt_retT 120)) := rfl
set_option maxRecDepth 100000 in
theorem pk_121 : lw_tbl[(pt_hw 121).getD 0 0]? = some (.code (pt_y 121) (pt_bytes 121) (pt_maxL 121) (pt_retT 121)) := rfl
set_option maxRecDepth 100000 in
theorem pk_122 : lw_tbl[(pt_hw 122).getD 0 0]? = some (.code (pt_y 122) (pt_bytes 122) (pt_maxL 122) (pt_retT 122)) := rfl
set_option maxRecDepth 100000 in
theorem pk_123 : lw_tbl[(pt_hw 123).getD 0 0]? = some (.code (pt_y 123) (pt_bytes 123) (pt_maxL 123) (pt_retT 123)) := rfl
set_option maxRecDepth 100000 in
theorem pk_124 : lw_tbl[(pt_hw 124).getD 0 0]? = some (.code (pt_y 124) (pt_bytes 124) (pt_maxL 124) (pt_retT 124)) := rfl
set_option maxRecDepth 100000 in
theorem pk_125 : lw_tbl[(pt_hw 125).getD 0 0]? = some (.code (pt_y 125) (pt_bytes 125) (pt_maxL 125) (pt_retT 125)) := rfl
set_option maxRecDepth 100000 in
theorem pk_126 : lw_tbl[(pt_hw 126).getD 0 0]? = some (.code (pt_y 126) (pt_bytes 126) (pt_maxL 126) (pt_retT 126)) := rfl
set_option maxRecDepth 100000 in
theorem pk_127 : lw_tbl[(pt_hw 127).getD 0 0]? = some (.code (pt_y 127) (pt_bytes 127) (pt_maxL 127) (pt_retT 127)) := rfl
set_option maxRecDepth 100000 in
theorem pk_128 : lw_tbl[(pt_hw 128).getD 0 0]? = some (.code (pt_y 128) (pt_bytes 128) (pt_maxL 128) (pt_retT 128)) := rfl
set_option maxRecDepth 100000 in
theorem pk_129 : lw_tbl[(pt_hw 129).getD 0 0]? = some (.code (pt_y 129) (pt_bytes 129) (pt_maxL 129) (pt_retT 129)) := rfl
set_option maxRecDepth 100000 in
theorem pk_130 : lw_tbl[(pt_hw 130).getD 0 0]? = some (.code (pt_y 130) (pt_bytes 130) (pt_maxL 130) (pt_retT 130)) := rfl
set_option maxRecDepth 100000 in
theorem pk_131 : lw_tbl[(pt_hw 131).getD 0 0]? = some (.code (pt_y 131) (pt_bytes 131) (pt_maxL 131) (pt_retT 131)) := rfl
set_option maxRecDepth 100000 in
theorem pk_132 : lw_tbl[(pt_hw 132).getD 0 0]? = some (.code (pt_y 132) (pt_bytes 132) (pt_maxL 132) (pt_retT 132)) := rfl
set_option maxRecDepth 100000 in
theorem pk_133 : lw_tbl[(pt_hw 133).getD 0 0]? = some (.code (pt_y 133) (pt_bytes 133) (pt_maxL 133) (pt_retT 133)) := rfl
set_option maxRecDepth 100000 in
theorem pk_134 : lw_tbl[(pt_hw 134).getD 0 0]? = some (.code (pt_y 134) (pt_bytes 134) (pt_maxL 134) (pt_retT 134)) := rfl
set_option maxRecDepth 100000 in
theorem pk_135 : lw_tbl[(pt_hw 135).getD 0 0]? = some (.code (pt_y 135) (pt_bytes 135) (pt_maxL 135) (pt_retT 135)) := rfl
set_option maxRecDepth 100000 in
theorem pk_136 : lw_tbl[(pt_hw 136).getD 0 0]? = some (.code (pt_y 136) (pt_bytes 136) (pt_maxL 136) (pt_retT 136)) := rfl
set_option maxRecDepth 100000 in
theorem pk_137 : lw_tbl[(pt_hw 137).getD 0 0]? = some (.code (pt_y 137) (pt_bytes 137) (pt_maxL 137) (pt_retT 137)) := rfl
set_option maxRecDepth 100000 in
theorem pk_138 : lw_tbl[(pt_hw 138).getD 0 0]? = some (.code (pt_y 138) (pt_bytes 138) (pt_maxL 138) (pt_retT 138)) := rfl
set_option maxRecDepth 100000 in
theorem pk_139 : lw_tbl[(pt_hw 139).getD 0 0]? = some (.code (pt_y 139) (pt_bytes 139) (pt_maxL 139) (pt_retT 139)) := rfl
set_option maxRecDepth 100000 in
theorem pk_140 : lw_tbl[(pt_hw 140).getD 0 0]? = some (.code (pt_y 140) (pt_bytes 140) (pt_maxL 140) (pt_retT 140)) := rfl
set_option maxRecDepth 100000 in
theorem pk_141 : lw_tbl[(pt_hw 141).getD 0 0]? = some (.code (pt_y 141) (pt_bytes 141) (pt_maxL 141) (pt_retT 141)) := rfl
set_option maxRecDepth 100000 in
theorem pk_142 : lw_tbl[(pt_hw 142).getD 0 0]? = some (.code (pt_y 142) (pt_bytes 142) (pt_maxL 142) (pt_retT 142)) := rfl
set_option maxRecDepth 100000 in
theorem pk_143 : lw_tbl[(pt_hw 143).getD 0 0]? = some (.code (pt_y 143) (pt_bytes 143) (pt_maxL 143) (pt_retT 143)) := rfl
set_option maxRecDepth 100000 in
theorem pk_144 : lw_tbl[(pt_hw 144).getD 0 0]? = some (.code (pt_y 144) (pt_bytes 144) (pt_maxL 144) (pt_retT 144)) := rfl
set_option maxRecDepth 100000 in
theorem pk_145 : lw_tbl[(pt_hw 145).getD 0 0]? = some (.code (pt_y 145) (pt_bytes 145) (pt_maxL 145) (pt_retT 145)) := rfl
set_option maxRecDepth 100000 in
theorem pk_146 : lw_tbl[(pt_hw 146).getD 0 0]? = some (.code (pt_y 146) (pt_bytes 146) (pt_maxL 146) (pt_retT 146)) := rfl
set_option maxRecDepth 100000 in
theorem pk_147 : lw_tbl[(pt_hw 147).getD 0 0]? = some (.code (pt_y 147) (pt_bytes 147) (pt_maxL 147) (pt_retT 147)) := rfl
set_option maxRecDepth 100000 in
theorem pk_148 : lw_tbl[(pt_hw 148).getD 0 0]? = some (.code (pt_y 148) (pt_bytes 148) (pt_maxL 148) (pt_retT 148)) := rfl
set_option maxRecDepth 100000 in
theorem pk_149 : lw_tbl[(pt_hw 149).getD 0 0]? = some (.code (pt_y 149) (pt_bytes 149) (pt_maxL 149) (pt_retT 149)) := rfl
set_option maxRecDepth 100000 in
theorem pk_150 : lw_tbl[(pt_hw 150).getD 0 0]? = some (.code (pt_y 150) (pt_bytes 150) (pt_maxL 150) (pt_retT 150)) := rfl
set_option maxRecDepth 100000 in
theorem pk_151 : lw_tbl[(pt_hw 151).getD 0 0]? = some (.code (pt_y 151) (pt_bytes 151) (pt_maxL 151) (pt_retT 151)) := rfl
set_option maxRecDepth 100000 in
theorem pk_152 : lw_tbl[(pt_hw 152).getD 0 0]? = some (.code (pt_y 152) (pt_bytes 152) (pt_maxL 152) (pt_retT 152)) := rfl
set_option maxRecDepth 100000 in
theorem pk_153 : lw_tbl[(pt_hw 153).getD 0 0]? = some (.code (pt_y 153) (pt_bytes 153) (pt_maxL 153) (pt_retT 153)) := rfl
set_option maxRecDepth 100000 in
theorem pk_154 : lw_tbl[(pt_hw 154).getD 0 0]? = some (.code (pt_y 154) (pt_bytes 154) (pt_maxL 154) (pt_retT 154)) := rfl
set_option maxRecDepth 100000 in
theorem pk_155 : lw_tbl[(pt_hw 155).getD 0 0]? = some (.code (pt_y 155) (pt_bytes 155) (pt_maxL 155) (pt_retT 155)) := rfl
set_option maxRecDepth 100000 in
theorem pk_156 : lw_tbl[(pt_hw 156).getD 0 0]? = some (.code (pt_y 156) (pt_bytes 156) (pt_maxL 156) (pt_retT 156)) := rfl
set_option maxRecDepth 100000 in
theorem pk_157 : lw_tbl[(pt_hw 157).getD 0 0]? = some (.code (pt_y 157) (pt_bytes 157) (pt_maxL 157) (pt_retT 157)) := rfl
set_option maxRecDepth 100000 in
theorem pk_158 : lw_tbl[(pt_hw 158).getD 0 0]? = some (.code (pt_y 158) (pt_bytes 158) (pt_maxL 158) (pt_retT 158)) := rfl
set_option maxRecDepth 100000 in
theorem pk_159 : lw_tbl[(pt_hw 159).getD 0 0]? = some (.code (pt_y 159) (pt_bytes 159) (pt_maxL 159) (pt_retT 159)) := rfl
set_option maxRecDepth 100000 in
theorem pk_160 : lw_tbl[(pt_hw 160).getD 0 0]? = some (.code (pt_y 160) (pt_bytes 160) (pt_maxL 160) (pt_retT 160)) := rfl
set_option maxRecDepth 100000 in
theorem pk_161 : lw_tbl[(pt_hw 161).getD 0 0]? = some (.code (pt_y 161) (pt_bytes 161) (pt_maxL 161) (pt_retT 161)) := rfl
set_option maxRecDepth 100000 in
theorem pk_162 : lw_tbl[(pt_hw 162).getD 0 0]? = some (.code (pt_y 162) (pt_bytes 162) (pt_maxL 162) (pt_retT 162)) := rfl
set_option maxRecDepth 100000 in
theorem pk_163 : lw_tbl[(pt_hw 163).getD 0 0]? = some (.code (pt_y 163) (pt_bytes 163) (pt_maxL 163) (pt_retT 163)) := rfl
set_option maxRecDepth 100000 in
theorem pk_164 : lw_tbl[(pt_hw 164).getD 0 0]? = some (.code (pt_y 164) (pt_bytes 164) (pt_maxL 164) (pt_retT 164)) := rfl
set_option maxRecDepth 100000 in
theorem pk_165 : lw_tbl[(pt_hw 165).getD 0 0]? = some (.code (pt_y 165) (pt_bytes 165) (pt_maxL 165) (pt_retT 165)) := rfl
set_option maxRecDepth 100000 in
theorem pk_166 : lw_tbl[(pt_hw 166).getD 0 0]? = some (.code (pt_y 166) (pt_bytes 166) (pt_maxL 166) (pt_retT 166)) := rfl
set_option maxRecDepth 100000 in
theorem pk_167 : lw_tbl[(pt_hw 167).getD 0 0]? = some (.code (pt_y 167) (pt_bytes 167) (pt_maxL 167) (pt_retT 167)) := rfl
set_option maxRecDepth 100000 in
theorem pk_168 : lw_tbl[(pt_hw 168).getD 0 0]? = some (.code (pt_y 168) (pt_bytes 168) (pt_maxL 168) (pt_retT 168)) := rfl
set_option maxRecDepth 100000 in
theorem pk_169 : lw_tbl[(pt_hw 169).getD 0 0]? = some (.code (pt_y 169) (pt_bytes 169) (pt_maxL 169) (pt_retT 169)) := rfl
set_option maxRecDepth 100000 in
theorem pk_170 : lw_tbl[(pt_hw 170).getD 0 0]? = some (.code (pt_y 170) (pt_bytes 170) (pt_maxL 170) (pt_retT 170)) := rfl
set_option maxRecDepth 100000 in
theorem pk_171 : lw_tbl[(pt_hw 171).getD 0 0]? = some (.code (pt_y 171) (pt_bytes 171) (pt_maxL 171) (pt_retT 171)) := rfl
set_option maxRecDepth 100000 in
theorem pk_172 : lw_tbl[(pt_hw 172).getD 0 0]? = some (.code (pt_y 172) (pt_bytes 172) (pt_maxL 172) (pt_retT 172)) := rfl
set_option maxRecDepth 100000 in
theorem pk_173 : lw_tbl[(pt_hw 173).getD 0 0]? = some (.code (pt_y 173) (pt_bytes 173) (pt_maxL 173) (pt_retT 173)) := rfl
set_option maxRecDepth 100000 in
theorem pk_174 : lw_tbl[(pt_hw 174).getD 0 0]? = some (.code (pt_y 174) (pt_bytes 174) (pt_maxL 174) (pt_retT 174)) := rfl
set_option maxRecDepth 100000 in
theorem pk_175 : lw_tbl[(pt_hw 175).getD 0 0]? = some (.code (pt_y 175) (pt_bytes 175) (pt_maxL 175) (pt_retT 175)) := rfl
set_option maxRecDepth 100000 in
theorem pk_176 : lw_tbl[(pt_hw 176).getD 0 0]? = some (.code (pt_y 176) (pt_bytes 176) (pt_maxL 176) (pt_retT 176)) := rfl
set_option maxRecDepth 100000 in
theorem pk_177 : lw_tbl[(pt_hw 177).getD 0 0]? = some (.code (pt_y 177) (pt_bytes 177) (pt_maxL 177) (pt_retT 177)) := rfl
set_option maxRecDepth 100000 in
theorem pk_178 : lw_tbl[(pt_hw 178).getD 0 0]? = some (.code (pt_y 178) (pt_bytes 178) (pt_maxL 178) (pt_retT 178)) := rfl
set_option maxRecDepth 100000 in
theorem pk_179 : lw_tbl[(pt_hw 179).getD 0 0]? = some (.code (pt_y 179) (pt_bytes 179) (pt_maxL 179) (pt_retT 179)) := rfl
set_option maxRecDepth 100000 in
theorem pk_180 : lw_tbl[(pt_hw 180).getD 0 0]? = some (.code (pt_y 180) (pt_bytes 180) (pt_maxL 180) (pt_retT 180)) := rfl
set_option maxRecDepth 100000 in
theorem pk_181 : lw_tbl[(pt_hw 181).getD 0 0]? = some (.code (pt_y 181) (pt_bytes 181) (pt_maxL 181) (pt_retT 181)) := rfl
set_option maxRecDepth 100000 in
theorem pk_182 : lw_tbl[(pt_hw 182).getD 0 0]? = some (.code (pt_y 182) (pt_bytes 182) (pt_maxL 182) (pt_retT 182)) := rfl
set_option maxRecDepth 100000 in
theorem pk_183 : lw_tbl[(pt_hw 183).getD 0 0]? = some (.code (pt_y 183) (pt_bytes 183) (pt_maxL 183) (pt_retT 183)) := rfl
set_option maxRecDepth 100000 in
theorem pk_184 : lw_tbl[(pt_hw 184).getD 0 0]? = some (.code (pt_y 184) (pt_bytes 184) (pt_maxL 184) (pt_retT 184)) := rfl
set_option maxRecDepth 100000 in
theorem pk_185 : lw_tbl[(pt_hw 185).getD 0 0]? = some (.code (pt_y 185) (pt_bytes 185) (pt_maxL 185) (pt_retT 185)) := rfl
set_option maxRecDepth 100000 in
theorem pk_186 : lw_tbl[(pt_hw 186).getD 0 0]? = some (.code (pt_y 186) (pt_bytes 186) (pt_maxL 186) (pt_retT 186)) := rfl
set_option maxRecDepth 100000 in
theorem pk_187 : lw_tbl[(pt_hw 187).getD 0 0]? = some (.code (pt_y 187) (pt_bytes 187) (pt_maxL 187) (pt_retT 187)) := rfl
set_option maxRecDepth 100000 in
theorem pk_188 : lw_tbl[(pt_hw 188).getD 0 0]? = some (.code (pt_y 188) (pt_bytes 188) (pt_maxL 188) (pt_retT 188)) := rfl
set_option maxRecDepth 100000 in
theorem pk_189 : lw_tbl[(pt_hw 189).getD 0 0]? = some (.code (pt_y 189) (pt_bytes 189) (pt_maxL 189) (pt_retT 189)) := rfl
set_option maxRecDepth 100000 in
theorem pk_190 : lw_tbl[(pt_hw 190).getD 0 0]? = some (.code (pt_y 190) (pt_bytes 190) (pt_maxL 190) (pt_retT 190)) := rfl
set_option maxRecDepth 100000 in
theorem pm_95 : pl_m 95 = true := by decide +kernel
set_option maxRecDepth 100000 in
theorem pm_96 : pl_m 96 = true := by decide +kernel
set_option maxRecDepth 100000 in
theorem pm_97 : pl_m 97 = true := by decide +kernel
set_option maxRecDepth 100000 in
theorem pm_98 : pl_m 98 = true := by decide +kernel
set_option maxRecDepth 100000 in
theorem pm_99 : pl_m 99 = true := by decide +kernel
set_option maxRecDepth 100000 in
theorem pm_100 : pl_m 100 = true := by decide +kernel
set_option maxRecDepth 100000 in
theorem pm_101 : pl_m 101 = true := by decide +kernel
set_option maxRecDepth 100000 in
theorem pm_102 : pl_m 102 = true := by decide +kernel
set_option maxRecDepth 100000 in
theorem pm_103 : pl_m 103 = true := by decide +kernel
set_option maxRecDepth 100000 in
theorem pm_104 : pl_m 104 = true := by decide +kernel
set_option maxRecDepth 100000 in
theorem pm_105 : pl_m 105 = true := by decide +kernel
set_option maxRecDepth 100000 in
theorem pm_106 : pl_m 106 = true := by decide +kernel
set_option maxRecDepth 100000 in
theorem pm_107 : pl_m 107 = true := by decide +kernel
set_option maxRecDepth 100000 in
theorem pm_108 : pl_m 108 = true := by decide +kernel
set_option maxRecDepth 100000 in
theorem pm_109 : pl_m 109 = true := by decide +kernel
set_option maxRecDepth 100000 in
theorem pm_110 : pl_m 110 = true := by decide +kernel
set_option maxRecDepth 100000 in
theorem pm_111 : pl_m 111 = true := by decide +kernel
set_option maxRecDepth 100000 in
theorem pm_112 : pl_m 112 = true := by decide +kernel
set_option maxRecDepth 100000 in
theorem pm_113 : pl_m 113 = true := by decide +kernel
set_option maxRecDepth 100000 in
theorem pm_114 : pl_m 114 = true := by decide +kernel
set_option maxRecDepth 100000 in
theorem pm_115 : pl_m 115 = true := by decide +kernel
set_option maxRecDepth 100000 in
theorem pm_116 : pl_m 116 = true := by decide +kernel
set_option maxRecDepth 100000 in
theorem pm_117 : pl_m 117 = true := by decide +kernel
set_option maxRecDepth 100000 in
theorem pm_118 : pl_m 118 = true := by decide +kernel
set_option maxRecDepth 100000 in
theorem pm_119 : pl_m 119 = true := by decide +kernel
set_option maxRecDepth 100000 in
theorem pm_120 : pl_m 120 = true := by decide +kernel
set_option maxRecDepth 100000 in
theorem pm_121 : pl_m 121 = true := by decide +kernel
set_option maxRecDepth 100000 in
theorem pm_122 : pl_m 122 = true := by decide +kernel
set_option maxRecDepth 100000 in
theorem pm_123 : pl_m 123 = true := by decide +kernel
set_option maxRecDepth 100000 in
theorem pm_124 : pl_m 124 = true := by decide +kernel
set_option maxRecDepth 100000 in
theorem pm_125 : pl_m 125 = true := by decide +kernel
set_option maxRecDepth 100000 in
theorem pm_126 : pl_m 126 = true := by decide +kernel
set_option maxRecDepth 100000 in
theorem pm_127 : pl_m 127 = true := by decide +kernel
set_option maxRecDepth 100000 in
theorem pm_128 : pl_m 128 = true := by decide +kernel
set_option maxRecDepth 100000 in
theorem pm_129 : pl_m 129 = true := by decide +kernel
set_option maxRecDepth 100000 in
theorem pm_130 : pl_m 130 = true := by decide +kernel
set_option maxRecDepth 100000 in
theorem pm_131 : pl_m 131 = true := by decide +kernel
set_option maxRecDepth 100000 in
theorem pm_132 : pl_m 132 = true := by decide +kernel
set_option maxRecDepth 100000 in
theorem pm_133 : pl_m 133 = true := by decide +kernel
set_option maxRecDepth 100000 in
theorem pm_134 : pl_m 134 = true := by decide +kernel
set_option maxRecDepth 100000 in
theorem pm_135 : pl_m 135 = true := by decide +kernel
set_option maxRecDepth 100000 in
theorem pm_136 : pl_m 136 = true := by decide +kernel
set_option maxRecDepth 100000 in
theorem pm_137 : pl_m 137 = true := by decide +kernel
set_option maxRecDepth 100000 in
theorem pm_138 : pl_m 138 = true := by decide +kernel
set_option maxRecDepth 100000 in
theorem pm_139 : pl_m 139 = true := by decide +kernel
set_option maxRecDepth 100000 in
theorem pm_140 : pl_m 140 = true := by decide +kernel
set_option maxRecDepth 100000 in
theorem pm_141 : pl_m 141 = true := by decide +kernel
set_option maxRecDepth 100000 in
theorem pm_142 : pl_m 142 = true := by decide +kernel
set_option maxRecDepth 100000 in
theorem pm_143 : pl_m 143 = true := by decide +kernel
set_option maxRecDepth 100000 in
theorem pm_144 : pl_m 144 = true := by decide +kernel
set_option maxRecDepth 100000 in
theorem pm_145 : pl_m 145 = true := by decide +kernel
set_option maxRecDepth 100000 in
theorem pm_146 : pl_m 146 = true := by decide +kernel
set_option maxRecDepth 100000 in
theorem pm_147 : pl_m 147 = true := by decide +kernel
set_option maxRecDepth 100000 in
theorem pm_148 : pl_m 148 = true := by decide +kernel
set_option maxRecDepth 100000 in
theorem pm_149 : pl_m 149 = true := by decide +kernel
set_option maxRecDepth 100000 in
theorem pm_150 : pl_m 150 = true := by decide +kernel
set_option maxRecDepth 100000 in
theorem pm_151 : pl_m 151 = true := by decide +kernel
set_option maxRecDepth 100000 in
theorem pm_152 : pl_m 152 = true := by decide +kernel
set_option maxRecDepth 100000 in
theorem pm_153 : pl_m 153 = true := by decide +kernel
set_option maxRecDepth 100000 in
theorem pm_154 : pl_m 154 = true := by decide +kernel
set_option maxRecDepth 100000 in
theorem pm_155 : pl_m 155 = true := by decide +kernel
set_option maxRecDepth 100000 in
theorem pm_156 : pl_m 156 = true := by decide +kernel
set_option maxRecDepth 100000 in
theorem pm_157 : pl_m 157 = true := by decide +kernel
set_option maxRecDepth 100000 in
theorem pm_158 : pl_m 158 = true := by decide +kernel
set_option maxRecDepth 100000 in
theorem pm_159 : pl_m 159 = true := by decide +kernel
set_option maxRecDepth 100000 in
theorem pm_160 : pl_m 160 = true := by decide +kernel
set_option maxRecDepth 100000 in
theorem pm_161 : pl_m 161 = true := by decide +kernel
set_option maxRecDepth 100000 in
theorem pm_162 : pl_m 162 = true := by decide +kernel
set_option maxRecDepth 100000 in
theorem pm_163 : pl_m 163 = true := by decide +kernel
set_option maxRecDepth 100000 in
theorem pm_164 : pl_m 164 = true := by decide +kernel
set_option maxRecDepth 100000 in
theorem pm_165 : pl_m 165 = true := by decide +kernel
set_option maxRecDepth 100000 in
theorem pm_166 : pl_m 166 = true := by decide +kernel
set_option maxRecDepth 100000 in
theorem pm_167 : pl_m 167 = true := by decide +kernel
set_option maxRecDepth 100000 in
theorem pm_168 : pl_m 168 = true := by decide +kernel
set_option maxRecDepth 100000 in
theorem pm_169 : pl_m 169 = true := by decide +kernel
set_option maxRecDepth 100000 in
theorem pm_170 : pl_m 170 = true := by decide +kernel
set_option maxRecDepth 100000 in
theorem pm_171 : pl_m 171 = true := by decide +kernel
set_option maxRecDepth 100000 in
theorem pm_172 : pl_m 172 = true := by decide +kernel
set_option maxRecDepth 100000 in
theorem pm_173 : pl_m 173 = true := by decide +kernel
set_option maxRecDepth 100000 in
theorem pm_174 : pl_m 174 = true := by decide +kernel
set_option maxRecDepth 100000 in
theorem pm_175 : pl_m 175 = true := by decide +kernel
set_option maxRecDepth 100000 in
theorem pm_176 : pl_m 176 = true := by decide +kernel
set_option maxRecDepth 100000 in
theorem pm_177 : pl_m 177 = true := by decide +kernel
set_option maxRecDepth 100000 in
theorem pm_178 : pl_m 178 = true := by decide +kernel
set_option maxRecDepth 100000 in
theorem pm_179 : pl_m 179 = true := by decide +kernel
set_option maxRecDepth 100000 in
theorem pm_180 : pl_m 180 = true := by decide +kernel
set_option maxRecDepth 100000 in
theorem pm_181 : pl_m 181 = true := by decide +kernel
set_option maxRecDepth 100000 in
theorem pm_182 : pl_m 182 = true := by decide +kernel
set_option maxRecDepth 100000 in
theorem pm_183 : pl_m 183 = true := by decide +kernel
set_option maxRecDepth 100000 in
theorem pm_184 : pl_m 184 = true := by decide +kernel
set_option maxRecDepth 100000 in
theorem pm_185 : pl_m 185 = true := by decide +kernel
set_option maxRecDepth 100000 in
theorem pm_186 : pl_m 186 = true := by decide +kernel
set_option maxRecDepth 100000 in
theorem pm_187 : pl_m 187 = true := by decide +kernel
set_option maxRecDepth 100000 in
theorem pm_188 : pl_m 188 = true := by decide +kernel
set_option maxRecDepth 100000 in
theorem pm_189 : pl_m 189 = true := by decide +kernel
set_option maxRecDepth 100000 in
theorem pm_190 : pl_m 190 = true := by decide +kernel
set_option maxRecDepth 100000 in
theorem po_95 : (pt_code 95).all (pl_ok 95) = true := by decide +kernel
set_option maxRecDepth 100000 in
theorem po_96 : (pt_code 96).all (pl_ok 96) = true := by decide +kernel
set_option maxRecDepth 100000 in
theorem po_97 : (pt_code 97).all (pl_ok 97) = true := by decide +kernel
set_option maxRecDepth 100000 in
theorem po_98 : (pt_code 98).all (pl_ok 98) = true := by decide +kernel
set_option maxRecDepth 100000 in
theorem po_99 : (pt_code 99).all (pl_ok 99) = true := by decide +kernel
set_option maxRecDepth 100000 in
theorem po_100 : (pt_code 100).all (pl_ok 100) = true := by decide +kernel
set_option maxRecDepth 100000 in
theorem po_101 : (pt_code 101).all (pl_ok 101) = true := by decide +kernel
set_option maxRecDepth 100000 in
theorem po_102 : (pt_code 102).all (pl_ok 102) = true := by decide +kernel
set_option maxRecDepth 100000 in
theorem po_103 : (pt_code 103).all (pl_ok 103) = true := by decide +kernel
set_option maxRecDepth 100000 in
theorem po_104 : (pt_code 104).all (pl_ok 104) = true := by decide +kernel
set_option maxRecDepth 100000 in
theorem po_105 : (pt_code 105).all (pl_ok 105) = true := by decide +kernel
set_option maxRecDepth 100000 in
theorem po_106 : (pt_code 106).all (pl_ok 106) = true := by decide +kernel
set_option maxRecDepth 100000 in
theorem po_107 : (pt_code 107).all (pl_ok 107) = true := by decide +kernel
set_option maxRecDepth 100000 in
theorem po_108 : (pt_code 108).all (pl_ok 108) = true := by decide +kernel
set_option maxRecDepth 100000 in
theorem po_109 : (pt_code 109).all (pl_ok 109) = true := by decide +kernel
set_option maxRecDepth 100000 in
theorem po_110 : (pt_code 110).all (pl_ok 110) = true := by decide +kernel
set_option maxRecDepth 100000 in
theorem po_111 : (pt_code 111).all (pl_ok 111) = true := by decide +kernel
set_option maxRecDepth 100000 in
theorem po_112 : (pt_code 112).all (pl_ok 112) = true := by decide +kernel
set_option maxRecDepth 100000 in
theorem po_113 : (pt_code 113).all (pl_ok 113) = true := by decide +kernel
set_option maxRecDepth 100000 in
theorem po_114 : (pt_code 114).all (pl_ok 114) = true := by decide +kernel
set_option maxRecDepth 100000 in
theorem po_115 : (pt_code 115).all (pl_ok 115) = true := by decide +kernel
set_option maxRecDepth 100000 in
theorem po_116 : (pt_code 116).all (pl_ok 116) = true := by decide +kernel
set_option maxRecDepth 100000 in
theorem po_117 : (pt_code 117).all (pl_ok 117) = true := by decide +kernel
set_option maxRecDepth 100000 in
theorem po_118 : (pt_code 118).all (pl_ok 118) = true := by decide +kernel
set_option maxRecDepth 100000 in
theorem po_119 : (pt_code 119).all (pl_ok 119) = true := by decide +kernel
set_option maxRecDepth 100000 in
theorem po_120 : (pt_code 120).all (pl_ok 120) = true := by decide +kernel
set_option maxRecDepth 100000 in
theorem po_121 : (pt_code 121).all (pl_ok 121) = true := by decide +kernel
set_option maxRecDepth 100000 in
theorem po_122 : (pt_code 122).all (pl_ok 122) = true := by decide +kernel
set_option maxRecDepth 100000 in
theorem po_123 : (pt_code 123).all (pl_ok 123) = true := by decide +kernel
set_option maxRecDepth 100000 in
theorem po_124 : (pt_code 124).all (pl_ok 124) = true := by decide +kernel
set_option maxRecDepth 100000 in
theorem po_125 : (pt_code 125).all (pl_ok 125) = true := by decide +kernel
set_option maxRecDepth 100000 in
theorem po_126 : (pt_code 126).all (pl_ok 126) = true := by decide +kernel
set_option maxRecDepth 100000 in
theorem po_127 : (pt_code 127).all (pl_ok 127) = true := by decide +kernel
set_option maxRecDepth 100000 in
theorem po_128 : (pt_code 128).all (pl_ok 128) = true := by decide +kernel
set_option maxRecDepth 100000 in
theorem po_129 : (pt_code 129).all (pl_ok 129) = true := by decide +kernel
set_option maxRecDepth 100000 in
theorem po_130 : (pt_code 130).all (pl_ok 130) = true := by decide +kernel
set_option maxRecDepth 100000 in
theorem po_131 : (pt_code 131).all (pl_ok 131) = true := by decide +kernel
set_option maxRecDepth 100000 in
theorem po_132 : (pt_code 132).all (pl_ok 132) = true := by decide +kernel
set_option maxRecDepth 100000 in
theorem po_133 : (pt_code 133).all (pl_ok 133) = true := by decide +kernel
set_option maxRecDepth 100000 in
theorem po_134 : (pt_code 134).all (pl_ok 134) = true := by decide +kernel
set_option maxRecDepth 100000 in
theorem po_135 : (pt_code 135).all (pl_ok 135) = true := by decide +kernel
set_option maxRecDepth 100000 in
theorem po_136 : (pt_code 136).all (pl_ok 136) = true := by decide +kernel
set_option maxRecDepth 100000 in
theorem po_137 : (pt_code 137).all (pl_ok 137) = true := by decide +kernel
set_option maxRecDepth 100000 in
theorem po_138 : (pt_code 138).all (pl_ok 138) = true := by decide +kernel
set_option maxRecDepth 100000 in
theorem po_139 : (pt_code 139).all (pl_ok 139) = true := by decide +kernel
set_option maxRecDepth 100000 in
theorem po_140 : (pt_code 140).all (pl_ok 140) = true := by decide +kernel
set_option maxRecDepth 100000 in
theorem po_141 : (pt_code 141).all (pl_ok 141) = true := by decide +kernel
set_option maxRecDepth 100000 in
theorem po_142 : (pt_code 142).all (pl_ok 142) = true := by decide +kernel
set_option maxRecDepth 100000 in
theorem po_143 : (pt_code 143).all (pl_ok 143) = true := by decide +kernel
set_option maxRecDepth 100000 in
theorem po_144 : (pt_code 144).all (pl_ok 144) = true := by decide +kernel
set_option maxRecDepth 100000 in
theorem po_145 : (pt_code 145).all (pl_ok 145) = true := by decide +kernel
set_option maxRecDepth 100000 in
theorem po_146 : (pt_code 146).all (pl_ok 146) = true := by decide +kernel
set_option maxRecDepth 100000 in
theorem po_147 : (pt_code 147).all (pl_ok 147) = true := by decide +kernel
set_option maxRecDepth 100000 in
theorem po_148 : (pt_code 148).all (pl_ok 148) = true := by decide +kernel
set_option maxRecDepth 100000 in
theorem po_149 : (pt_code 149).all (pl_ok 149) = true := by decide +kernel
set_option maxRecDepth 100000 in
theorem po_150 : (pt_code 150).all (pl_ok 150) = true := by decide +kernel
set_option maxRecDepth 100000 in
theorem po_151 : (pt_code 151).all (pl_ok 151) = true := by decide +kernel
set_option maxRecDepth 100000 in
theorem po_152 : (pt_code 152).all (pl_ok 152) = true := by decide +kernel
set_option maxRecDepth 100000 in
theorem po_153 : (pt_code 153).all (pl_ok 153) = true := by decide +kernel
set_option maxRecDepth 100000 in
theorem po_154 : (pt_code 154).all (pl_ok 154) = true := by decide +kernel
set_option maxRecDepth 100000 in
theorem po_155 : (pt_code 155).all (pl_ok 155) = true := by decide +kernel
set_option maxRecDepth 100000 in
theorem po_156 : (pt_code 156).all (pl_ok 156) = true := by decide +kernel
set_option maxRecDepth 100000 in
theorem po_157 : (pt_code 157).all (pl_ok 157) = true := by decide +kernel
set_option maxRecDepth 100000 in
theorem po_158 : (pt_code 158).all (pl_ok 158) = true := by decide +kernel
set_option maxRecDepth 100000 in
theorem po_159 : (pt_code 159).all (pl_ok 159) = true := by decide +kernel
set_option maxRecDepth 100000 in
theorem po_160 : (pt_code 160).all (pl_ok 160) = true := by decide +kernel
set_option maxRecDepth 100000 in
theorem po_161 : (pt_code 161).all (pl_ok 161) = true := by decide +kernel
set_option maxRecDepth 100000 in
theorem po_162 : (pt_code 162).all (pl_ok 162) = true := by decide +kernel
set_option maxRecDepth 100000 in
theorem po_163 : (pt_code 163).all (pl_ok 163) = true := by decide +kernel
set_option maxRecDepth 100000 in
theorem po_164 : (pt_code 164).all (pl_ok 164) = true := by decide +kernel
set_option maxRecDepth 100000 in
theorem po_165 : (pt_code 165).all (pl_ok 165) = true := by decide +kernel
set_option maxRecDepth 100000 in
theorem po_166 : (pt_code 166).all (pl_ok 166) = true := by decide +kernel
set_option maxRecDepth 100000 in
theorem po_167 : (pt_code 167).all (pl_ok 167) = true := by decide +kernel
set_option maxRecDepth 100000 in
theorem po_168 : (pt_code 168).all (pl_ok 168) = true := by decide +kernel
set_option maxRecDepth 100000 in
theorem po_169 : (pt_code 169).all (pl_ok 169) = true := by decide +kernel
set_option maxRecDepth 100000 in
theorem po_170 : (pt_code 170).all (pl_ok 170) = true := by decide +kernel
set_option maxRecDepth 100000 in
theorem po_171 : (pt_code 171).all (pl_ok 171) = true := by decide +kernel
set_option maxRecDepth 100000 in
theorem po_172 : (pt_code 172).all (pl_ok 172) = true := by decide +kernel
set_option maxRecDepth 100000 in
theorem po_173 : (pt_code 173).all (pl_ok 173) = true := by decide +kernel
set_option maxRecDepth 100000 in
theorem po_174 : (pt_code 174).all (pl_ok 174) = true := by decide +kernel
set_option maxRecDepth 100000 in
theorem po_175 : (pt_code 175).all (pl_ok 175) = true := by decide +kernel
set_option maxRecDepth 100000 in
theorem po_176 : (pt_code 176).all (pl_ok 176) = true := by decide +kernel
set_option maxRecDepth 100000 in
theorem po_177 : (pt_code 177).all (pl_ok 177) = true := by decide +kernel
set_option maxRecDepth 100000 in
theorem po_178 : (pt_code 178).all (pl_ok 178) = true := by decide +kernel
set_option maxRecDepth 100000 in
theorem po_179 : (pt_code 179).all (pl_ok 179) = true := by decide +kernel
set_option maxRecDepth 100000 in
theorem po_180 : (pt_code 180).all (pl_ok 180) = true := by decide +kernel
set_option maxRecDepth 100000 in
theorem po_181 : (pt_code 181).all (pl_ok 181) = true := by decide +kernel
set_option maxRecDepth 100000 in
theorem po_182 : (pt_code 182).all (pl_ok 182) = true := by decide +kernel
set_option maxRecDepth 100000 in
theorem po_183 : (pt_code 183).all (pl_ok 183) = true := by decide +kernel
set_option maxRecDepth 100000 in
theorem po_184 : (pt_code 184).all (pl_ok 184) = true := by decide +kernel
set_option maxRecDepth 100000 in
theorem po_185 : (pt_code 185).all (pl_ok 185) = true := by decide +kernel
set_option maxRecDepth 100000 in
theorem po_186 : (pt_code 186).all (pl_ok 186) = true := by decide +kernel
set_option maxRecDepth 100000 in
theorem po_187 : (pt_code 187).all (pl_ok 187) = true := by decide +kernel
set_option maxRecDepth 100000 in
theorem po_188 : (pt_code 188).all (pl_ok 188) = true := by decide +kernel
set_option maxRecDepth 100000 in
theorem po_189 : (pt_code 189).all (pl_ok 189) = true := by decide +kernel
set_option maxRecDepth 100000 in
theorem po_190 : (pt_code 190).all (pl_ok 190) = true := by decide +kernel
