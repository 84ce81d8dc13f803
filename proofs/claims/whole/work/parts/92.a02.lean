theorem okL_8 : (cL_8).all (xcE xB xcs xtl xT0 xkd "PatchChains" yI0 xol m_law) = true := by decide +kernel
theorem okL_9 : (cL_9).all (xcE xB xcs xtl xT0 xkd "PatchChains" yI0 xol m_law) = true := by decide +kernel
theorem okL_10 : (cL_10).all (xcE xB xcs xtl xT0 xkd "PatchChains" yI0 xol m_law) = true := by decide +kernel
theorem okL_11 : (cL_11).all (xcE xB xcs xtl xT0 xkd "PatchChains" yI0 xol m_law) = true := by decide +kernel
